def le_cs (own : String) (k : Nat) (L : List Int32) : List Cond := [.exactly (.string own k) "java/lang/String", .eq (.field (.string own k) "java/lang/String" "coder" "B") (.int 0), .arrayOf (.field (.string own k) "java/lang/String" "value" "[B") .byte, .eq (.length (.field (.string own k) "java/lang/String" "value" "[B")) (.int (Int32.ofNat L.length))] ++ (List.range L.length).map (fun j => .eq (.elem (.field (.string own k) "java/lang/String" "value" "[B") (.int (Int32.ofNat j))) (.int (L.getD j 0)))
theorem le_strS {args : Array Value} {s : State} {own tx : String} {k : Nat} {L : List Int32} (h : ∀ c ∈ le_cs own k L, c.before args s = true) (h1 : (Cond.stringRef own k tx).before args s = true) (hL : L.length < 2 ^ 31) : ∃ q v : Nat, le_S s own k tx q v L := by
  have hA : ∀ a : Nat, a < s.heap.size → ¬ le_A s a := fun a ha z => absurd ha (Nat.not_lt.mpr z)
  have h0 : ∀ i : Nat, i < 1 → i = 0 := fun i hi => by omega
  obtain ⟨adK, adV, ⟨hS, -⟩, hev⟩ := vk_Sof (args := args) (s := s) (N := 1) (tm := fun _ => .string own k) (len := [L.length]) (byt := [L]) (A := le_A s) (fun i hi => by rw [h0 i hi]; exact hL) (fun i _ => h _ (by simp [le_cs])) (fun i _ => h _ (by simp [le_cs])) (fun i _ => h _ (by simp [le_cs])) (fun i hi => by rw [h0 i hi]; exact h _ (by simp [le_cs])) (fun i hi j hj => by
    rw [h0 i hi] at hj ⊢
    exact h _ (List.mem_append_right _ (List.mem_map.mpr ⟨j, List.mem_range.mpr hj, rfl⟩))) (fun i j hi hj hij => absurd ((h0 i hi).trans (h0 j hj).symm) hij) hA
  obtain ⟨g1, g2, g3, g4⟩ := hS 0 (by omega)
  exact ⟨adK 0, adV 0, vk_R.of h1 (hev 0 (by omega)), g1, g2, g3, g4⟩
/-- one by one out of what the statement gives of the start -/
theorem le_all {args : Array Value} {s : State} (hgv : (Jvm.Cond.and given_1 narrow_1).before args s = true) {cs : List Cond} (h : cs.all (fun a => decide (a ∈ flatC (Jvm.Cond.and given_1 narrow_1))) = true) : ∀ c ∈ cs, c.before args s = true := fun c hc => flat_of_before _ hgv c (by have := List.all_eq_true.mp h c hc; simpa using this)
theorem le_at {args : Array Value} {s : State} (h1 : ∀ w ∈ lw_tbl, w.before args s = true) (h2 : (Jvm.Cond.and given_1 narrow_1).before args s = true) {cs : List Cond} (hall : cs.all (fun a => decide (a ∈ lw_tbl) || decide (a ∈ flatC (Jvm.Cond.and given_1 narrow_1))) = true) : ∀ a ∈ cs, a.before args s = true := by
  have h3 := flat_of_before _ h2
  intro a ha
  have := List.all_eq_true.mp hall a ha
  simp only [Bool.or_eq_true, decide_eq_true_eq] at this
  exact this.elim (h1 a) (h3 a)
theorem le_vk {args : Array Value} {s : State} {own text : String} {k cur : Nat} (hcur : s.vm.findClass own = some cur) (h : (Cond.stringRef own k text).before args s = true) : ∃ q, vk_R own k text q s := by
  obtain ⟨-, -, -, a, -, -, -, -, -, hev⟩ := Cond.stringRef_spec hcur h
  exact ⟨a, vk_R.of h hev⟩
def le_tb : List Cond := [(.stringRef "VolumeTurnerModel" 230 "!#$%&'()-@^_`{}~"), (.stringRef "VolumeTurnerModel" 259 "\"*/:<>?\\|"), (.stringRef "VolumeTurnerModel" 358 ".turned"), (.stringRef "VolumeTurnerModel" 529 "TURN"), (.stringRef "VolumeTurner$Plan" 207 ".turned"), (.stringRef "VolumeTurner$Tree" 98 ".turned"), (.stringRef "VolumeTurner$Turner" 203 ".turned"), (.stringRef "VolumeTurner" 135 "no such volume or label"), (.stringRef "VolumeTurner" 201 "nothing to tell"), (.stringRef "VolumeTurner" 223 "a file"), (.stringRef "VolumeTurner" 242 "no name, or one that is here"), (.stringRef "VolumeTurner" 250 "no room"), (.stringRef "VolumeTurner" 271 "no such number of bytes"), (.stringRef "VolumeTurner" 273 "no such size"), (.stringRef "VolumeTurner" 278 "a directory with items"), (.stringRef "VolumeTurner" 292 "no such day or time"), (.stringRef "VolumeTurner" 312 "no volume"), (.stringRef "VolumeTurner" 315 "neither finish nor back"), (.stringRef "VolumeTurner" 333 "no tree"), (.stringRef "VolumeTurner" 335 "no sound table volume"), (.stringRef "VolumeTurner" 339 "no such item"), (.stringRef "VolumeTurner" 348 "a directory"), (.laysStatic "java/lang/String" "COMPACT_STRINGS" "Z"), (.initialized "java/lang/String"), (.laysStatic "jdk/internal/util/Preconditions" "SIOOBE_FORMATTER" "Ljava/util/function/BiFunction;"), (.initialized "jdk/internal/util/Preconditions"), (.laysStatic "VolumeTurner$Days" "BEFORE_MONTH" "[I"), (.initialized "VolumeTurner$Days")]
theorem le_tb_in : ∀ w ∈ le_tb, w ∈ lw_tbl := List.forall_mem_cons.mpr ⟨lw_ck_in 9 _ (List.mem_of_getElem? (i := 161) rfl), List.forall_mem_cons.mpr ⟨lw_ck_in 9 _ (List.mem_of_getElem? (i := 227) rfl), List.forall_mem_cons.mpr ⟨lw_ck_in 10 _ (List.mem_of_getElem? (i := 82) rfl), List.forall_mem_cons.mpr ⟨lw_ck_in 11 _ (List.mem_of_getElem? (i := 44) rfl), List.forall_mem_cons.mpr ⟨lw_ck_in 4 _ (List.mem_of_getElem? (i := 16) rfl), List.forall_mem_cons.mpr ⟨lw_ck_in 3 _ (List.mem_of_getElem? (i := 113) rfl), List.forall_mem_cons.mpr ⟨lw_ck_in 7 _ (List.mem_of_getElem? (i := 217) rfl), List.forall_mem_cons.mpr ⟨lw_ck_in 4 _ (List.mem_of_getElem? (i := 129) rfl), List.forall_mem_cons.mpr ⟨lw_ck_in 6 _ (List.mem_of_getElem? (i := 49) rfl), List.forall_mem_cons.mpr ⟨lw_ck_in 6 _ (List.mem_of_getElem? (i := 110) rfl), List.forall_mem_cons.mpr ⟨lw_ck_in 6 _ (List.mem_of_getElem? (i := 167) rfl), List.forall_mem_cons.mpr ⟨lw_ck_in 6 _ (List.mem_of_getElem? (i := 192) rfl), List.forall_mem_cons.mpr ⟨lw_ck_in 7 _ (List.mem_of_getElem? (i := 56) rfl), List.forall_mem_cons.mpr ⟨lw_ck_in 7 _ (List.mem_of_getElem? (i := 64) rfl), List.forall_mem_cons.mpr ⟨lw_ck_in 7 _ (List.mem_of_getElem? (i := 77) rfl), List.forall_mem_cons.mpr ⟨lw_ck_in 7 _ (List.mem_of_getElem? (i := 96) rfl), List.forall_mem_cons.mpr ⟨lw_ck_in 7 _ (List.mem_of_getElem? (i := 108) rfl), List.forall_mem_cons.mpr ⟨lw_ck_in 7 _ (List.mem_of_getElem? (i := 109) rfl), List.forall_mem_cons.mpr ⟨lw_ck_in 5 _ (List.mem_of_getElem? (i := 211) rfl), List.forall_mem_cons.mpr ⟨lw_ck_in 6 _ (List.mem_of_getElem? (i := 136) rfl), List.forall_mem_cons.mpr ⟨lw_ck_in 6 _ (List.mem_of_getElem? (i := 20) rfl), List.forall_mem_cons.mpr ⟨lw_ck_in 7 _ (List.mem_of_getElem? (i := 23) rfl), List.forall_mem_cons.mpr ⟨lw_ck_in 3 _ (List.mem_of_getElem? (i := 123) rfl), List.forall_mem_cons.mpr ⟨lw_ck_in 0 _ (List.mem_of_getElem? (i := 22) rfl), List.forall_mem_cons.mpr ⟨lw_ck_in 3 _ (List.mem_of_getElem? (i := 139) rfl), List.forall_mem_cons.mpr ⟨lw_ck_in 0 _ (List.mem_of_getElem? (i := 25) rfl), List.forall_mem_cons.mpr ⟨lw_ck_in 2 _ (List.mem_of_getElem? (i := 195) rfl), List.forall_mem_cons.mpr ⟨lw_ck_in 0 _ (List.mem_of_getElem? (i := 31) rfl), fun _ z => absurd z List.not_mem_nil⟩⟩⟩⟩⟩⟩⟩⟩⟩⟩⟩⟩⟩⟩⟩⟩⟩⟩⟩⟩⟩⟩⟩⟩⟩⟩⟩⟩
def le_bm : List Cond := [.arrayOf (.static "VolumeTurner$Days" "BEFORE_MONTH" "[I") .int, .eq (.length (.static "VolumeTurner$Days" "BEFORE_MONTH" "[I")) (.int 13)] ++ (List.range 13).map (fun j => .eq (.elem (.static "VolumeTurner$Days" "BEFORE_MONTH" "[I") (.int (Int32.ofNat j))) (.int (bmF j)))
def le_nc : List (String × String) := [("java/lang/IllegalArgumentException", "java/lang/IllegalStateException"), ("java/lang/IllegalArgumentException", "java/lang/IndexOutOfBoundsException"), ("java/lang/IllegalArgumentException", "java/lang/UnsupportedOperationException"), ("java/lang/IllegalStateException", "java/lang/IllegalArgumentException"), ("java/lang/IllegalStateException", "java/lang/IndexOutOfBoundsException"), ("java/lang/IllegalStateException", "java/lang/UnsupportedOperationException"), ("java/lang/IndexOutOfBoundsException", "java/lang/IllegalArgumentException"), ("java/lang/IndexOutOfBoundsException", "java/lang/IllegalStateException"), ("java/lang/IndexOutOfBoundsException", "java/lang/UnsupportedOperationException"), ("java/lang/UnsupportedOperationException", "java/lang/IllegalArgumentException"), ("java/lang/UnsupportedOperationException", "java/lang/IllegalStateException"), ("java/lang/UnsupportedOperationException", "java/lang/IndexOutOfBoundsException")]
theorem le_miss {args : Array Value} {s : State} (hgv : (Jvm.Cond.and given_1 narrow_1).before args s = true) : lz_miss (le_E s) := by
  have hall : le_nc.all (fun p => decide (Cond.not (.castable p.1 p.2) ∈ flatC (Jvm.Cond.and given_1 narrow_1))) = true := by decide +kernel
  intro A U hE a b hab k j hk hj
  have h1 := List.all_eq_true.mp hall (a, b) hab
  simp only [decide_eq_true_eq] at h1
  obtain ⟨c, t, f1, f2, f3⟩ := (va_Nc.of (flat_of_before _ hgv _ h1)).moved hE.1.alike
  cases hk.symm.trans f1
  cases hj.symm.trans f2
  exact f3
theorem le_eqv {args : Array Value} {s : State} {t : Term} {x : Int32} (h : (Cond.eq t (.int x)).before args s = true) : t.eval args s none [] s = some (.int x) := by
  simp only [Cond.before, Cond.holds, Cond.value] at h
  cases h1 : t.eval args s none [] s with
  | none => simp [h1, Term.eval] at h
  | some v =>
    simp only [h1, Term.eval] at h
    cases v with
    | int y => simp at h; rw [h]
    | _ => simp at h
set_option maxHeartbeats 4000000 in
set_option maxRecDepth 100000 in
theorem le_start (l : Launch) (dC : Nat → ClassId) (dI : Nat → Nat → Nat) (K : Nat) {args : Array Value} {s : State} (hts1 : ∀ w ∈ lw_tbl, w.before args s = true) (hgv : (Jvm.Cond.and given_1 narrow_1).before args s = true) : ∃ q_230 q_259 q_358 q_529 q_Pl_207 q_Tr_98 q_Tu_203 tb : Nat, ∀ (M2 : MA) (M : CA), M2.s_230 = q_230 → M2.s_259 = q_259 → M2.s_358 = q_358 → M2.s_529 = q_529 → M.s_Pl_207 = q_Pl_207 → M.s_Tr_98 = q_Tr_98 → M.s_Tu_203 = q_Tu_203 → M.tb = tb → lx_X l dC dI K M2 (le_E s) ∧ ly_X l dC dI K M (le_E s) := by
  have hA : ∀ a : Nat, a < s.heap.size → ¬ le_A s a := fun a ha z => absurd ha (Nat.not_lt.mpr z)
  obtain ⟨q_230, v_230, h_230⟩ := le_strS (own := R_Mo) (k := 230) (tx := "!#$%&'()-@^_`{}~") (L := [33, 35, 36, 37, 38, 39, 40, 41, 45, 64, 94, 95, 96, 123, 125, 126]) (le_all hgv (by decide +kernel)) (hts1 _ (le_tb_in _ (List.mem_of_getElem? (i := 0) rfl))) (by decide)
  obtain ⟨q_259, v_259, h_259⟩ := le_strS (own := R_Mo) (k := 259) (tx := "\"*/:<>?\\|") (L := [34, 42, 47, 58, 60, 62, 63, 92, 124]) (le_all hgv (by decide +kernel)) (hts1 _ (le_tb_in _ (List.mem_of_getElem? (i := 1) rfl))) (by decide)
  obtain ⟨q_358, v_358, h_358⟩ := le_strS (own := R_Mo) (k := 358) (tx := ".turned") (L := [46, 116, 117, 114, 110, 101, 100]) (le_all hgv (by decide +kernel)) (hts1 _ (le_tb_in _ (List.mem_of_getElem? (i := 2) rfl))) (by decide)
  obtain ⟨q_529, v_529, h_529⟩ := le_strS (own := R_Mo) (k := 529) (tx := "TURN") (L := [84, 85, 82, 78]) (le_all hgv (by decide +kernel)) (hts1 _ (le_tb_in _ (List.mem_of_getElem? (i := 3) rfl))) (by decide)
  obtain ⟨q_Pl_207, v_Pl_207, h_Pl_207⟩ := le_strS (own := R_Pl) (k := 207) (tx := ".turned") (L := [46, 116, 117, 114, 110, 101, 100]) (le_all hgv (by decide +kernel)) (hts1 _ (le_tb_in _ (List.mem_of_getElem? (i := 4) rfl))) (by decide)
  obtain ⟨q_Tr_98, v_Tr_98, h_Tr_98⟩ := le_strS (own := R_Tr) (k := 98) (tx := ".turned") (L := [46, 116, 117, 114, 110, 101, 100]) (le_all hgv (by decide +kernel)) (hts1 _ (le_tb_in _ (List.mem_of_getElem? (i := 5) rfl))) (by decide)
  obtain ⟨q_Tu_203, v_Tu_203, h_Tu_203⟩ := le_strS (own := R_Tu) (k := 203) (tx := ".turned") (L := [46, 116, 117, 114, 110, 101, 100]) (le_all hgv (by decide +kernel)) (hts1 _ (le_tb_in _ (List.mem_of_getElem? (i := 6) rfl))) (by decide)
  have e1 := le_eqv (flat_of_before _ hgv (.eq (.static "java/lang/String" "COMPACT_STRINGS" "Z") (.int 1)) (by decide +kernel))
  have z1 := va_Zof (A := le_A s) (hts1 _ (le_tb_in _ (List.mem_of_getElem? (i := 22) rfl))) (hts1 _ (le_tb_in _ (List.mem_of_getElem? (i := 23) rfl))) e1 hA
  have z2 := va_Zqof (A := le_A s) (hts1 _ (le_tb_in _ (List.mem_of_getElem? (i := 24) rfl))) (hts1 _ (le_tb_in _ (List.mem_of_getElem? (i := 25) rfl))) (flat_of_before _ hgv (.isRef (.static "jdk/internal/util/Preconditions" "SIOOBE_FORMATTER" "Ljava/util/function/BiFunction;")) (by decide +kernel)) hA
  have hbm := le_all (cs := le_bm) hgv (by decide +kernel)
  obtain ⟨tb, hb1, hb2⟩ := va_Tof (args := args) (s := s) (tm := .static "VolumeTurner$Days" "BEFORE_MONTH" "[I") (ty := .int) (N := 13) (f := fun k => .int (bmF k)) (A := le_A s) (by decide) (hbm _ (by simp [le_bm])) (le_eqv (hbm _ (by simp [le_bm]))) (fun j hj => le_eqv (hbm _ (List.mem_append_right _ (List.mem_map.mpr ⟨j, List.mem_range.mpr hj, rfl⟩)))) hA
  have b1 := va_Zof (A := le_A s) (hts1 _ (le_tb_in _ (List.mem_of_getElem? (i := 26) rfl))) (hts1 _ (le_tb_in _ (List.mem_of_getElem? (i := 27) rfl))) hb1 hA
  have XS := le_X z1 z2
  obtain ⟨cV, hcV, -⟩ := classAt_of (hts1 _ (in_V_La _ (u_La_Vt _ k_Vt_5)))
  have hThA : x_Thr "VolumeTurner" 137 "java/lang/IllegalArgumentException" s := x_Thr.of x_allA (le_at hts1 hgv (by decide +kernel))
  have hThS : x_Thr "VolumeTurner" 314 "java/lang/IllegalStateException" s := x_Thr.of x_allS (le_at hts1 hgv (by decide +kernel))
  have hThI : x_Thr "VolumeTurner" 341 "java/lang/IndexOutOfBoundsException" s := x_Thr.of x_allI (le_at hts1 hgv (by decide +kernel))
  have hThU : x_Thr "VolumeTurner" 252 "java/lang/UnsupportedOperationException" s := x_Thr.of x_allU (le_at hts1 hgv (by decide +kernel))
  have t_135 : x_T R_Vt 137 "java/lang/IllegalArgumentException" 135 "no such volume or label" s := ⟨hThA, le_vk hcV (hts1 _ (le_tb_in _ (List.mem_of_getElem? (i := 7) rfl)))⟩
  have t_201 : x_T R_Vt 137 "java/lang/IllegalArgumentException" 201 "nothing to tell" s := ⟨hThA, le_vk hcV (hts1 _ (le_tb_in _ (List.mem_of_getElem? (i := 8) rfl)))⟩
  have t_223 : x_T R_Vt 137 "java/lang/IllegalArgumentException" 223 "a file" s := ⟨hThA, le_vk hcV (hts1 _ (le_tb_in _ (List.mem_of_getElem? (i := 9) rfl)))⟩
  have t_242 : x_T R_Vt 137 "java/lang/IllegalArgumentException" 242 "no name, or one that is here" s := ⟨hThA, le_vk hcV (hts1 _ (le_tb_in _ (List.mem_of_getElem? (i := 10) rfl)))⟩
  have t_250 : x_T R_Vt 252 "java/lang/UnsupportedOperationException" 250 "no room" s := ⟨hThU, le_vk hcV (hts1 _ (le_tb_in _ (List.mem_of_getElem? (i := 11) rfl)))⟩
  have t_271 : x_T R_Vt 137 "java/lang/IllegalArgumentException" 271 "no such number of bytes" s := ⟨hThA, le_vk hcV (hts1 _ (le_tb_in _ (List.mem_of_getElem? (i := 12) rfl)))⟩
  have t_273 : x_T R_Vt 137 "java/lang/IllegalArgumentException" 273 "no such size" s := ⟨hThA, le_vk hcV (hts1 _ (le_tb_in _ (List.mem_of_getElem? (i := 13) rfl)))⟩
  have t_278 : x_T R_Vt 137 "java/lang/IllegalArgumentException" 278 "a directory with items" s := ⟨hThA, le_vk hcV (hts1 _ (le_tb_in _ (List.mem_of_getElem? (i := 14) rfl)))⟩
  have t_292 : x_T R_Vt 137 "java/lang/IllegalArgumentException" 292 "no such day or time" s := ⟨hThA, le_vk hcV (hts1 _ (le_tb_in _ (List.mem_of_getElem? (i := 15) rfl)))⟩
  have t_312 : x_T R_Vt 314 "java/lang/IllegalStateException" 312 "no volume" s := ⟨hThS, le_vk hcV (hts1 _ (le_tb_in _ (List.mem_of_getElem? (i := 16) rfl)))⟩
  have t_315 : x_T R_Vt 137 "java/lang/IllegalArgumentException" 315 "neither finish nor back" s := ⟨hThA, le_vk hcV (hts1 _ (le_tb_in _ (List.mem_of_getElem? (i := 17) rfl)))⟩
  have t_333 : x_T R_Vt 314 "java/lang/IllegalStateException" 333 "no tree" s := ⟨hThS, le_vk hcV (hts1 _ (le_tb_in _ (List.mem_of_getElem? (i := 18) rfl)))⟩
  have t_335 : x_T R_Vt 314 "java/lang/IllegalStateException" 335 "no sound table volume" s := ⟨hThS, le_vk hcV (hts1 _ (le_tb_in _ (List.mem_of_getElem? (i := 19) rfl)))⟩
  have t_339 : x_T R_Vt 341 "java/lang/IndexOutOfBoundsException" 339 "no such item" s := ⟨hThI, le_vk hcV (hts1 _ (le_tb_in _ (List.mem_of_getElem? (i := 20) rfl)))⟩
  have t_348 : x_T R_Vt 137 "java/lang/IllegalArgumentException" 348 "a directory" s := ⟨hThA, le_vk hcV (hts1 _ (le_tb_in _ (List.mem_of_getElem? (i := 21) rfl)))⟩
  refine ⟨q_230, q_259, q_358, q_529, q_Pl_207, q_Tr_98, q_Tu_203, tb, fun M2 M a_230 a_259 a_358 a_529 a_Pl_207 a_Tr_98 a_Tu_203 a_tb => ⟨?_, ?_⟩⟩
  · rw [← a_230] at h_230
    rw [← a_259] at h_259
    rw [← a_358] at h_358
    rw [← a_529] at h_529
    exact lx_X_of l dC dI K M2 XS h_230 h_259 h_358 h_529
  · rw [← a_Pl_207] at h_Pl_207
    rw [← a_Tr_98] at h_Tr_98
    rw [← a_Tu_203] at h_Tu_203
    rw [← a_tb] at b1 hb2
    exact ly_X_of l dC dI K M XS h_Pl_207 h_Tr_98 h_Tu_203 t_135 t_201 t_223 t_242 t_250 t_271 t_273 t_278 t_292 t_312 t_315 t_333 t_335 t_339 t_348 b1 hb2
