set_option maxHeartbeats 4000000 in
set_option maxRecDepth 100000 in
theorem l_Mo_turn (l : Launch) (dC : Nat → ClassId) (dI : Nat → Nat → Nat) {K : Nat} {M : MA} {E : (Nat → Prop) → State → Prop} (X : lx_X l dC dI K M E) (sz : Nat) {S S' : MS} (h : f_Mo_turn K S = some S') : Met l y_Mo_turn (.code y_Mo_turn b_Mo_turn 4 none :: V_Mq) ({ frames := 10, cells := 0, slots := 0, locals := 300 }) (va_Pc [.ref M.o] (fun U => U.heap.size = sz ∧ at_ (dC, dI) (fun _ => True) (wM M S) (tM M) U ∧ E (va_A (wM M S) sz) U)) (va_Qv (fun (u : Unit) => True) (fun (u : Unit) t => at_ (dC, dI) (va_A (wM M S) sz) (wM M S') (tM M) t) (va_A (wM M S) sz)) 0 0 (va_A (wM M S) sz) := by
  refine Met.ofW (cc := b_Mo_turn) (maxL := 4) (ret := none) (by decide) rfl ?_
  intro p e s m args below meth c s₁ B hml hv
  obtain ⟨rfl, hsz, ⟨hP, hK, hD0⟩, hE⟩ := hv
  have hx := B.exec
  have hb := B.bytes
  have hr := B.returns
  have hts0 := atoms_spec (ws := .code y_Mo_turn b_Mo_turn 4 none :: V_Mq) B.pre
  have hts : ∀ w ∈ V_Mq, w.before ([.ref M.o] : List Value).toArray s = true := fun w h => hts0 w (List.mem_cons_of_mem _ h)
  have hown : s.vm.findClass R_Mo = some m.cls := findClass_of_methodNamed B.named
  subst hsz
  have hD := hD0.self (sz := s.heap.size)
  generalize hAe : va_A (wM M S) s.heap.size = A at hD hE ⊢
  have hA : ∀ q : Nat, s.heap.size ≤ q → A q := fun q h => by rw [← hAe]; exact Or.inr h
  have hS : va_S A s.heap s.heap [] := va_S.rf
  have hP : va_P (dC, dI) classes (wM M S) s.heap := hP
  have hK : va_K (dC, dI) classes (tM M) s := hK
  have hEw : ∀ (H : Heap) (locs : List Loc), va_S A s.heap H locs → ∀ U : State, U.heap = H → s.WarmedH U.vm → E A U := fun H locs hS U hU hW => X.kept A s U H locs hE hS hU hW
  have hl := lv_entry ([.ref M.o]) (n := 4) (Nat.le_of_ble_eq_true rfl)
  rw [lg_entry_eq]
  generalize (lg_sl ([.ref M.o]) ++ List.replicate (4 - (lg_sl ([.ref M.o])).length) Slot.unset).toArray = ls at hl ⊢
  have hl : lv_has ls 4 [(0, .ref M.o)] := hl
  refine qabs (fun Q hQ => ?_)
  have hB_57 : ∀ (rec_23 : Int32 → MS → Option (MS)) (hr_23 : ∀ (y_1 : Int32) (S : MS) (H : Heap) (locs : List Loc) (ls : Array Slot), rec_23 y_1 S = some S' → va_P (dC, dI) classes (wM M S) H → va_D A (wM M S) → va_S A s.heap H locs → lv_has ls 4 [(0, .ref M.o), (1, .int y_1)] → W p l e ({ frames := 10, cells := 0, slots := 0, locals := 300 }) s m ([.ref M.o] : List Value).toArray below meth c H locs 0 0 Q (F0 m 23 ls [])), ∀ (y_1 : Int32) (z_1 : Int32) (z_2 : Int32) (S : MS) (H : Heap) (locs : List Loc) (ls : Array Slot), f_Mo_turn_57 K rec_23 y_1 z_1 z_2 S = some S' → va_P (dC, dI) classes (wM M S) H → va_D A (wM M S) → va_S A s.heap H locs → lv_has ls 4 [(0, .ref M.o), (1, .int y_1)] → W p l e ({ frames := 10, cells := 0, slots := 0, locals := 300 }) s m ([.ref M.o] : List Value).toArray below meth c H locs 0 0 Q (F0 m 57 ls [.int z_2, .int z_1, .ref M.a_used]) := by
    intro rec_23 hr_23 y_1 z_1 z_2 S H locs ls h hP hD hS hl
    rw [f_Mo_turn_57] at h
    obtain ⟨g_15, h⟩ := lf_gE h
    refine va_zast hx hb hK hP hD hS 22 21 rfl rfl g_15 d_Mo_turn_57 (fun H locs hP hD hS => ?_)
    obtain ⟨S_16, eS_16, h⟩ := lf_lX h
    have hP := lx_newP eS_16 hP
    have hD := lx_newD eS_16 hD
    obtain ⟨x_17, ex_17, h⟩ := lf_lX h
    refine lv_iinc (v := x_17) (lv' := [(1, .int x_17), (0, .ref M.o)]) hx hb d_Mo_turn_58 hl (k := 1) rfl (by rw [ex_17]; rfl) (by decide) rfl (fun ls hl => ?_)
    refine lv_goto (tgt := 23) hx hb d_Mo_turn_61 (by decide) ?_
    exact hr_23 x_17 S_16 _ _ _ h hP hD hS (lv_sub hl [1, 0] rfl)
  have hB_56 : ∀ (rec_23 : Int32 → MS → Option (MS)) (hr_23 : ∀ (y_1 : Int32) (S : MS) (H : Heap) (locs : List Loc) (ls : Array Slot), rec_23 y_1 S = some S' → va_P (dC, dI) classes (wM M S) H → va_D A (wM M S) → va_S A s.heap H locs → lv_has ls 4 [(0, .ref M.o), (1, .int y_1)] → W p l e ({ frames := 10, cells := 0, slots := 0, locals := 300 }) s m ([.ref M.o] : List Value).toArray below meth c H locs 0 0 Q (F0 m 23 ls [])), ∀ (y_1 : Int32) (z_1 : Int32) (S : MS) (H : Heap) (locs : List Loc) (ls : Array Slot), f_Mo_turn_56 K rec_23 y_1 z_1 S = some S' → va_P (dC, dI) classes (wM M S) H → va_D A (wM M S) → va_S A s.heap H locs → lv_has ls 4 [(0, .ref M.o), (1, .int y_1)] → W p l e ({ frames := 10, cells := 0, slots := 0, locals := 300 }) s m ([.ref M.o] : List Value).toArray below meth c H locs 0 0 Q (F0 m 56 ls [.int z_1, .ref M.a_used]) := by
    intro rec_23 hr_23 y_1 z_1 S H locs ls h hP hD hS hl
    rw [f_Mo_turn_56] at h
    refine lv_iconst (v := 0) hx hb d_Mo_turn_56 (by decide) ?_
    exact hB_57 _ hr_23 y_1 z_1 0 S _ _ _ h hP hD hS (lv_sub hl [0, 1] rfl)
  have hB_96 : ∀ (rec_75 : Int32 → MS → Option (MS)) (hr_75 : ∀ (y_1 : Int32) (S : MS) (H : Heap) (locs : List Loc) (ls : Array Slot), rec_75 y_1 S = some S' → va_P (dC, dI) classes (wM M S) H → va_D A (wM M S) → va_S A s.heap H locs → lv_has ls 4 [(0, .ref M.o), (1, .int y_1)] → W p l e ({ frames := 10, cells := 0, slots := 0, locals := 300 }) s m ([.ref M.o] : List Value).toArray below meth c H locs 0 0 Q (F0 m 75 ls [])), ∀ (y_1 : Int32) (S : MS) (H : Heap) (locs : List Loc) (ls : Array Slot), f_Mo_turn_96 K rec_75 y_1 S = some S' → va_P (dC, dI) classes (wM M S) H → va_D A (wM M S) → va_S A s.heap H locs → lv_has ls 4 [(0, .ref M.o), (1, .int y_1)] → W p l e ({ frames := 10, cells := 0, slots := 0, locals := 300 }) s m ([.ref M.o] : List Value).toArray below meth c H locs 0 0 Q (F0 m 96 ls []) := by
    intro rec_75 hr_75 y_1 S H locs ls h hP hD hS hl
    rw [f_Mo_turn_96] at h
    obtain ⟨x_22, ex_22, h⟩ := lf_lX h
    refine lv_iinc (v := x_22) (lv' := [(1, .int x_22), (0, .ref M.o)]) hx hb d_Mo_turn_96 hl (k := 1) rfl (by rw [ex_22]; rfl) (by decide) rfl (fun ls hl => ?_)
    refine lv_goto (tgt := 75) hx hb d_Mo_turn_99 (by decide) ?_
    exact hr_75 x_22 S _ _ _ h hP hD hS (lv_sub hl [1, 0] rfl)
  have hB_125 : ∀ (rec_104 : Int32 → MS → Option (MS)) (hr_104 : ∀ (y_1 : Int32) (S : MS) (H : Heap) (locs : List Loc) (ls : Array Slot), rec_104 y_1 S = some S' → va_P (dC, dI) classes (wM M S) H → va_D A (wM M S) → va_S A s.heap H locs → lv_has ls 4 [(0, .ref M.o), (1, .int y_1)] → W p l e ({ frames := 10, cells := 0, slots := 0, locals := 300 }) s m ([.ref M.o] : List Value).toArray below meth c H locs 0 0 Q (F0 m 104 ls [])), ∀ (y_1 : Int32) (S : MS) (H : Heap) (locs : List Loc) (ls : Array Slot), f_Mo_turn_125 K rec_104 y_1 S = some S' → va_P (dC, dI) classes (wM M S) H → va_D A (wM M S) → va_S A s.heap H locs → lv_has ls 4 [(0, .ref M.o), (1, .int y_1)] → W p l e ({ frames := 10, cells := 0, slots := 0, locals := 300 }) s m ([.ref M.o] : List Value).toArray below meth c H locs 0 0 Q (F0 m 125 ls []) := by
    intro rec_104 hr_104 y_1 S H locs ls h hP hD hS hl
    rw [f_Mo_turn_125] at h
    obtain ⟨x_27, ex_27, h⟩ := lf_lX h
    refine lv_iinc (v := x_27) (lv' := [(1, .int x_27), (0, .ref M.o)]) hx hb d_Mo_turn_125 hl (k := 1) rfl (by rw [ex_27]; rfl) (by decide) rfl (fun ls hl => ?_)
    refine lv_goto (tgt := 104) hx hb d_Mo_turn_128 (by decide) ?_
    exact hr_104 x_27 S _ _ _ h hP hD hS (lv_sub hl [1, 0] rfl)
  have hB_160 : ∀ (k : Nat), ∀ (y_1 : Int64) (y_3 : Int32) (S : MS) (H : Heap) (locs : List Loc) (ls : Array Slot), f_Mo_turn_160 K k y_1 y_3 S = some S' → va_P (dC, dI) classes (wM M S) H → va_D A (wM M S) → va_S A s.heap H locs → lv_has ls 4 [(0, .ref M.o), (1, .long y_1), (3, .int y_3)] → W p l e ({ frames := 10, cells := 0, slots := 0, locals := 300 }) s m ([.ref M.o] : List Value).toArray below meth c H locs 0 0 Q (F0 m 160 ls []) := by
    intro k
    induction k with
    | zero => intro y_1 y_3 S H locs ls h; exact lf_no h
    | succ k hr_160 =>
      intro y_1 y_3 S H locs ls h hP hD hS hl
      rw [f_Mo_turn_160] at h
      refine lv_iload_n hx hb d_Mo_turn_160 rfl (lv_at hl 2 rfl) ?_
      refine lv_aload_n hx hb d_Mo_turn_161 rfl (lv_at hl 0 rfl) ?_
      refine va_get (D := (dC, dI)) (ci := 12) (v := .int S.v_groups) (C := R_Mo) (T := F_Mo) (N := 66) hx hb hts (fun w h => u_Mq_Mo w (i_Mo w h)) hown hK hP 0 rfl rfl 46 (by decide) (hts _ (u_Mq_Mo _ k_Mo_53)) (fun _ h9 => h9) rfl d_Mo_turn_162 ?_
      refine lv_icmp_ge (tgt := 185) hx hb d_Mo_turn_165 (by decide) (fun c_28 => ?_) (fun c_28 => ?_)
      · have h := lf_t h c_28
        refine lv_aload_n hx hb d_Mo_turn_185 rfl (lv_at hl 0 rfl) ?_
        refine lv_iconst (v := 1) hx hb d_Mo_turn_186 (by decide) ?_
        refine va_put (D := (dC, dI)) (ci := 12) (v := .int 1) (ty := .boolean) (C := R_Mo) (T := F_Mo) (N := 66) hx hb hts (fun w h => u_Mq_Mo w (i_Mo w h)) t_Mo t_Mo_ok n_Mo hown hK hP hD hS 0 rfl rfl 9 (by decide) (hts _ (u_Mq_Mo _ k_Mo_16)) (fun _ h9 => h9) rfl (by decide +kernel) rfl rfl (Nat.le_of_ble_eq_true rfl) d_Mo_turn_187 (fun H locs hP hD hS => ?_)
        obtain ⟨S_29, eS_29, h⟩ := lf_lX h
        have hP := lx_newP eS_29 hP
        have hD := lx_newD eS_29 hD
        rw [hQ]
        have e2 : S_29 = S' := Option.some.inj h
        have hP := lx_newP e2.symm hP
        have hD := lx_newD e2.symm hD
        exact W.vret hx hb hr (fun t ht hW => ⟨⟨(), rfl, trivial, by rw [ht]; exact hP, va_K.moved hW.alike hK, hD⟩, hS.F ht⟩) hS.2.2 d_Mo_turn_190
      · have h := lf_f h c_28
        refine lv_aload_n hx hb d_Mo_turn_168 rfl (lv_at hl 0 rfl) ?_
        refine lv_iload_n hx hb d_Mo_turn_169 rfl (lv_at hl 2 rfl) ?_
        obtain ⟨S_30, hc_30, h⟩ := lf_bE h
        have hFc := lx_free hD hS hA
        refine va_callv (va_runV (As := [.int y_3]) (rest := []) ⟨hx, hb, hml, hown, hts⟩ (l_Mo_makeMaps l dC dI X _ hc_30) (cwV 1 hts (gwV good_Mq (u_Mq_Mo _ k_Mo_456) (u_Mq_Mo _ k_Mo_457) (u_Mq_Mo _ k_Mo_555) (u_Mq_Mo _ k_Mo_0) (wcs (u_Mq_Mo _ k_Mo_458) (fun _ h => h))) rfl rfl rfl (by decide +kernel) ⟨Nat.le_of_ble_eq_true rfl, Nat.le_of_ble_eq_true rfl⟩) (pv_ofE (X.same _) (fun U z1 z2 => X.mono _ _ U hFc (hEw _ _ hS U z1 z2)) hP hK hD (va_recv hK hP (ci := 12) (q0 := 0) rfl rfl)) rfl rfl hl.1 rfl (lv_room (Nat.le_of_ble_eq_true rfl)) d_Mo_turn_170 ⟨by decide, by decide⟩) hS (fun q _ h => hFc q h) hFc (fun u t H locs ht hvm hw hB hz1 hk1 hS => ?_)
        obtain ⟨hP, -, hD⟩ := hB
        rw [ht] at hP
        have hD := lx_dj hD hFc
        refine lv_aload_n hx hb d_Mo_turn_173 rfl (lv_at hl 0 rfl) ?_
        refine lv_iload_n hx hb d_Mo_turn_174 rfl (lv_at hl 2 rfl) ?_
        refine lv_lload_n hx hb d_Mo_turn_175 rfl (lv_at hl 1 rfl) ?_
        obtain ⟨S_31, hc_31, h⟩ := lf_bE h
        have hFc := lx_free hD hS hA
        refine va_callv (va_runV (As := [.int y_3, .long y_1]) (rest := []) ⟨hx, hb, hml, hown, hts⟩ (l_Mo_makeHead l dC dI X _ hc_31) (cwV 2 hts (gwV good_Mq (u_Mq_Mo _ k_Mo_462) (u_Mq_Mo _ k_Mo_463) (u_Mq_Mo _ k_Mo_556) (u_Mq_Mo _ k_Mo_0) (wcs (u_Mq_Mo _ k_Mo_464) (fun _ h => h))) rfl rfl rfl (by decide +kernel) ⟨Nat.le_of_ble_eq_true rfl, Nat.le_of_ble_eq_true rfl⟩) (pv_ofE (X.same _) (fun U z1 z2 => X.mono _ _ U hFc (hEw _ _ hS U z1 z2)) hP hK hD (va_recv hK hP (ci := 12) (q0 := 0) rfl rfl)) rfl rfl hl.1 rfl (lv_room (Nat.le_of_ble_eq_true rfl)) d_Mo_turn_176 ⟨by decide, by decide⟩) hS (fun q _ h => hFc q h) hFc (fun u t H locs ht hvm hw hB hz1 hk1 hS => ?_)
        obtain ⟨hP, -, hD⟩ := hB
        rw [ht] at hP
        have hD := lx_dj hD hFc
        obtain ⟨x_32, ex_32, h⟩ := lf_lX h
        refine lv_iinc (v := x_32) (lv' := [(3, .int x_32), (0, .ref M.o), (1, .long y_1)]) hx hb d_Mo_turn_179 hl (k := 2) rfl (by rw [ex_32]; rfl) (by decide) rfl (fun ls hl => ?_)
        refine lv_goto (tgt := 160) hx hb d_Mo_turn_182 (by decide) ?_
        exact hr_160 y_1 x_32 S_31 _ _ _ h hP hD hS (lv_sub hl [1, 2, 0] rfl)
  have hB_135 : ∀ (k : Nat), ∀ (y_1 : Int64) (y_3 : Int32) (S : MS) (H : Heap) (locs : List Loc) (ls : Array Slot), f_Mo_turn_135 K k y_1 y_3 S = some S' → va_P (dC, dI) classes (wM M S) H → va_D A (wM M S) → va_S A s.heap H locs → lv_has ls 4 [(0, .ref M.o), (1, .long y_1), (3, .int y_3)] → W p l e ({ frames := 10, cells := 0, slots := 0, locals := 300 }) s m ([.ref M.o] : List Value).toArray below meth c H locs 0 0 Q (F0 m 135 ls []) := by
    intro k
    induction k with
    | zero => intro y_1 y_3 S H locs ls h; exact lf_no h
    | succ k hr_135 =>
      intro y_1 y_3 S H locs ls h hP hD hS hl
      rw [f_Mo_turn_135] at h
      refine lv_iload_n hx hb d_Mo_turn_135 rfl (lv_at hl 2 rfl) ?_
      refine lv_aload_n hx hb d_Mo_turn_136 rfl (lv_at hl 0 rfl) ?_
      refine va_get (D := (dC, dI)) (ci := 12) (v := .int S.v_groups) (C := R_Mo) (T := F_Mo) (N := 66) hx hb hts (fun w h => u_Mq_Mo w (i_Mo w h)) hown hK hP 0 rfl rfl 46 (by decide) (hts _ (u_Mq_Mo _ k_Mo_53)) (fun _ h9 => h9) rfl d_Mo_turn_137 ?_
      refine lv_icmp_ge (tgt := 158) hx hb d_Mo_turn_140 (by decide) (fun c_23 => ?_) (fun c_23 => ?_)
      · have h := lf_t h c_23
        refine lv_iconst (v := 0) hx hb d_Mo_turn_158 (by decide) ?_
        refine lv_istore_n (lv' := [(3, .int 0), (0, .ref M.o), (1, .long y_1)]) hx hb d_Mo_turn_159 rfl hl (by decide) rfl (fun ls hl => ?_)
        exact hB_160 K y_1 0 S _ _ _ h hP hD hS (lv_sub hl [1, 2, 0] rfl)
      · have h := lf_f h c_23
        refine lv_lload_n hx hb d_Mo_turn_143 rfl (lv_at hl 1 rfl) ?_
        refine lv_aload_n hx hb d_Mo_turn_144 rfl (lv_at hl 0 rfl) ?_
        refine lv_iload_n hx hb d_Mo_turn_145 rfl (lv_at hl 2 rfl) ?_
        obtain ⟨r_24, S_24, hc_24, h⟩ := lf_cE h
        have hFc := lx_free hD hS hA
        refine va_calli (va_runV (As := [.int y_3]) (rest := [.long y_1]) ⟨hx, hb, hml, hown, hts⟩ (l_Mo_freeBlocks l dC dI X _ hc_24) (cwV 1 hts (gwV good_Mq (u_Mq_Mo _ k_Mo_453) (u_Mq_Mo _ k_Mo_454) (u_Mq_Mo _ k_Mo_551) (u_Mq_Mo _ k_Mo_0) (wcs (u_Mq_Mo _ k_Mo_455) (fun _ h => h))) rfl rfl rfl (by decide +kernel) ⟨Nat.le_of_ble_eq_true rfl, Nat.le_of_ble_eq_true rfl⟩) (pv_ofE (X.same _) (fun U z1 z2 => X.mono _ _ U hFc (hEw _ _ hS U z1 z2)) hP hK hD (va_recv hK hP (ci := 12) (q0 := 0) rfl rfl)) rfl rfl hl.1 rfl (lv_room (Nat.le_of_ble_eq_true rfl)) d_Mo_turn_146 ⟨by decide, by decide⟩) hS (fun q _ h => hFc q h) hFc (fun r_ u t H locs ht hvm hw hB hz1 hk1 hS => ?_)
        rw [hw]
        obtain ⟨hP, -, hD⟩ := hB
        rw [ht] at hP
        have hD := lx_dj hD hFc
        refine lv_i2l hx hb d_Mo_turn_149 rfl ?_
        refine lv_ladd hx hb d_Mo_turn_150 ?_
        refine lv_topl (fun x_25 ex_25 => ?_)
        have h := lf_lE h ex_25
        refine lv_lstore_n (lv' := [(1, .long x_25), (0, .ref M.o), (3, .int y_3)]) hx hb d_Mo_turn_151 rfl hl (by decide) rfl (fun ls hl => ?_)
        obtain ⟨x_26, ex_26, h⟩ := lf_lX h
        refine lv_iinc (v := x_26) (lv' := [(3, .int x_26), (1, .long x_25), (0, .ref M.o)]) hx hb d_Mo_turn_152 hl (k := 2) rfl (by rw [ex_26]; rfl) (by decide) rfl (fun ls hl => ?_)
        refine lv_goto (tgt := 135) hx hb d_Mo_turn_155 (by decide) ?_
        exact hr_135 x_25 x_26 S_24 _ _ _ h hP hD hS (lv_sub hl [2, 1, 0] rfl)
  have hB_104 : ∀ (k : Nat), ∀ (y_1 : Int32) (S : MS) (H : Heap) (locs : List Loc) (ls : Array Slot), f_Mo_turn_104 K k y_1 S = some S' → va_P (dC, dI) classes (wM M S) H → va_D A (wM M S) → va_S A s.heap H locs → lv_has ls 4 [(0, .ref M.o), (1, .int y_1)] → W p l e ({ frames := 10, cells := 0, slots := 0, locals := 300 }) s m ([.ref M.o] : List Value).toArray below meth c H locs 0 0 Q (F0 m 104 ls []) := by
    intro k
    induction k with
    | zero => intro y_1 S H locs ls h; exact lf_no h
    | succ k hr_104 =>
      intro y_1 S H locs ls h hP hD hS hl
      rw [f_Mo_turn_104] at h
      refine lv_iload_n hx hb d_Mo_turn_104 rfl (lv_at hl 1 rfl) ?_
      refine lv_aload_n hx hb d_Mo_turn_105 rfl (lv_at hl 0 rfl) ?_
      refine va_get (D := (dC, dI)) (ci := 12) (v := .int S.v_items) (C := R_Mo) (T := F_Mo) (N := 66) hx hb hts (fun w h => u_Mq_Mo w (i_Mo w h)) hown hK hP 0 rfl rfl 21 (by decide) (hts _ (u_Mq_Mo _ k_Mo_28)) (fun _ h9 => h9) rfl d_Mo_turn_106 ?_
      refine lv_icmp_ge (tgt := 131) hx hb d_Mo_turn_109 (by decide) (fun c_18 => ?_) (fun c_18 => ?_)
      · have h := lf_t h c_18
        refine lv_lconst (v := 0) hx hb d_Mo_turn_131 (by decide) ?_
        refine lv_lstore_n (lv' := [(1, .long 0), (0, .ref M.o)]) hx hb d_Mo_turn_132 rfl hl (by decide) rfl (fun ls hl => ?_)
        refine lv_iconst (v := 0) hx hb d_Mo_turn_133 (by decide) ?_
        refine lv_istore_n (lv' := [(3, .int 0), (1, .long 0), (0, .ref M.o)]) hx hb d_Mo_turn_134 rfl hl (by decide) rfl (fun ls hl => ?_)
        exact hB_135 K 0 0 S _ _ _ h hP hD hS (lv_sub hl [2, 1, 0] rfl)
      · have h := lf_f h c_18
        refine lv_aload_n hx hb d_Mo_turn_112 rfl (lv_at hl 0 rfl) ?_
        refine lv_iload_n hx hb d_Mo_turn_113 rfl (lv_at hl 1 rfl) ?_
        obtain ⟨r_19, S_19, hc_19, h⟩ := lf_cE h
        have hFc := lx_free hD hS hA
        refine va_calli (va_runV (As := [.int y_1]) (rest := []) ⟨hx, hb, hml, hown, hts⟩ (l_Mo_isFolder l dC dI X _ hc_19) (cwV 1 hts (gwV good_Mq (u_Mq_Mo _ k_Mo_118) (u_Mq_Mo _ k_Mo_119) (u_Mq_Mo _ k_Mo_489) (u_Mq_Mo _ k_Mo_0) (wcs (u_Mq_Mo _ k_Mo_120) (fun _ h => h))) rfl rfl rfl (by decide +kernel) ⟨Nat.le_of_ble_eq_true rfl, Nat.le_of_ble_eq_true rfl⟩) (pv_ofE (X.same _) (fun U z1 z2 => X.mono _ _ U hFc (hEw _ _ hS U z1 z2)) hP hK hD (va_recv hK hP (ci := 12) (q0 := 0) rfl rfl)) rfl rfl hl.1 rfl (lv_room (Nat.le_of_ble_eq_true rfl)) d_Mo_turn_114 ⟨by decide, by decide⟩) hS (fun q _ h => hFc q h) hFc (fun r_ u t H locs ht hvm hw hB hz1 hk1 hS => ?_)
        rw [hw]
        obtain ⟨hP, -, hD⟩ := hB
        rw [ht] at hP
        have hD := lx_dj hD hFc
        refine lv_if_ne (tgt := 125) hx hb d_Mo_turn_117 (by decide) (fun c_20 => ?_) (fun c_20 => ?_)
        · have h := lf_f h c_20
          exact hB_125 _ hr_104 y_1 S_19 _ _ _ h hP hD hS (lv_sub hl [0, 1] rfl)
        · have h := lf_t h c_20
          refine lv_aload_n hx hb d_Mo_turn_120 rfl (lv_at hl 0 rfl) ?_
          refine lv_iload_n hx hb d_Mo_turn_121 rfl (lv_at hl 1 rfl) ?_
          obtain ⟨S_21, hc_21, h⟩ := lf_bE h
          have hFc := lx_free hD hS hA
          refine va_callv (va_runV (As := [.int y_1]) (rest := []) ⟨hx, hb, hml, hown, hts⟩ (l_Mo_makeFile l dC dI X _ hc_21) (cwV 1 hts (gwV good_Mq (u_Mq_Mo _ k_Mo_450) (u_Mq_Mo _ k_Mo_451) (u_Mq_Mo _ k_Mo_550) (u_Mq_Mo _ k_Mo_0) (wcs (u_Mq_Mo _ k_Mo_452) (fun _ h => h))) rfl rfl rfl (by decide +kernel) ⟨Nat.le_of_ble_eq_true rfl, Nat.le_of_ble_eq_true rfl⟩) (pv_ofE (X.same _) (fun U z1 z2 => X.mono _ _ U hFc (hEw _ _ hS U z1 z2)) hP hK hD (va_recv hK hP (ci := 12) (q0 := 0) rfl rfl)) rfl rfl hl.1 rfl (lv_room (Nat.le_of_ble_eq_true rfl)) d_Mo_turn_122 ⟨by decide, by decide⟩) hS (fun q _ h => hFc q h) hFc (fun u t H locs ht hvm hw hB hz1 hk1 hS => ?_)
          obtain ⟨hP, -, hD⟩ := hB
          rw [ht] at hP
          have hD := lx_dj hD hFc
          exact hB_125 _ hr_104 y_1 S_21 _ _ _ h hP hD hS (lv_sub hl [0, 1] rfl)
  have hB_75 : ∀ (k : Nat), ∀ (y_1 : Int32) (S : MS) (H : Heap) (locs : List Loc) (ls : Array Slot), f_Mo_turn_75 K k y_1 S = some S' → va_P (dC, dI) classes (wM M S) H → va_D A (wM M S) → va_S A s.heap H locs → lv_has ls 4 [(0, .ref M.o), (1, .int y_1)] → W p l e ({ frames := 10, cells := 0, slots := 0, locals := 300 }) s m ([.ref M.o] : List Value).toArray below meth c H locs 0 0 Q (F0 m 75 ls []) := by
    intro k
    induction k with
    | zero => intro y_1 S H locs ls h; exact lf_no h
    | succ k hr_75 =>
      intro y_1 S H locs ls h hP hD hS hl
      rw [f_Mo_turn_75] at h
      refine lv_iload_n hx hb d_Mo_turn_75 rfl (lv_at hl 1 rfl) ?_
      refine lv_aload_n hx hb d_Mo_turn_76 rfl (lv_at hl 0 rfl) ?_
      refine va_get (D := (dC, dI)) (ci := 12) (v := .int S.v_items) (C := R_Mo) (T := F_Mo) (N := 66) hx hb hts (fun w h => u_Mq_Mo w (i_Mo w h)) hown hK hP 0 rfl rfl 21 (by decide) (hts _ (u_Mq_Mo _ k_Mo_28)) (fun _ h9 => h9) rfl d_Mo_turn_77 ?_
      refine lv_icmp_ge (tgt := 102) hx hb d_Mo_turn_80 (by decide) (fun c_11 => ?_) (fun c_11 => ?_)
      · have h := lf_t h c_11
        refine lv_iconst (v := 0) hx hb d_Mo_turn_102 (by decide) ?_
        refine lv_istore_n (lv' := [(1, .int 0), (0, .ref M.o)]) hx hb d_Mo_turn_103 rfl hl (by decide) rfl (fun ls hl => ?_)
        exact hB_104 K 0 S _ _ _ h hP hD hS (lv_sub hl [1, 0] rfl)
      · have h := lf_f h c_11
        refine lv_aload_n hx hb d_Mo_turn_83 rfl (lv_at hl 0 rfl) ?_
        refine lv_iload_n hx hb d_Mo_turn_84 rfl (lv_at hl 1 rfl) ?_
        obtain ⟨r_12, S_12, hc_12, h⟩ := lf_cE h
        have hFc := lx_free hD hS hA
        refine va_calli (va_runV (As := [.int y_1]) (rest := []) ⟨hx, hb, hml, hown, hts⟩ (l_Mo_isFolder l dC dI X _ hc_12) (cwV 1 hts (gwV good_Mq (u_Mq_Mo _ k_Mo_118) (u_Mq_Mo _ k_Mo_119) (u_Mq_Mo _ k_Mo_489) (u_Mq_Mo _ k_Mo_0) (wcs (u_Mq_Mo _ k_Mo_120) (fun _ h => h))) rfl rfl rfl (by decide +kernel) ⟨Nat.le_of_ble_eq_true rfl, Nat.le_of_ble_eq_true rfl⟩) (pv_ofE (X.same _) (fun U z1 z2 => X.mono _ _ U hFc (hEw _ _ hS U z1 z2)) hP hK hD (va_recv hK hP (ci := 12) (q0 := 0) rfl rfl)) rfl rfl hl.1 rfl (lv_room (Nat.le_of_ble_eq_true rfl)) d_Mo_turn_85 ⟨by decide, by decide⟩) hS (fun q _ h => hFc q h) hFc (fun r_ u t H locs ht hvm hw hB hz1 hk1 hS => ?_)
        rw [hw]
        obtain ⟨hP, -, hD⟩ := hB
        rw [ht] at hP
        have hD := lx_dj hD hFc
        refine lv_if_eq (tgt := 96) hx hb d_Mo_turn_88 (by decide) (fun c_13 => ?_) (fun c_13 => ?_)
        · have h := lf_t h c_13
          exact hB_96 _ hr_75 y_1 S_12 _ _ _ h hP hD hS (lv_sub hl [0, 1] rfl)
        · have h := lf_f h c_13
          refine lv_aload_n hx hb d_Mo_turn_91 rfl (lv_at hl 0 rfl) ?_
          refine lv_iload_n hx hb d_Mo_turn_92 rfl (lv_at hl 1 rfl) ?_
          obtain ⟨S_14, hc_14, h⟩ := lf_bE h
          have hFc := lx_free hD hS hA
          refine va_callv (va_runV (As := [.int y_1]) (rest := []) ⟨hx, hb, hml, hown, hts⟩ (l_Mo_makeFolder l dC dI X _ hc_14) (cwV 1 hts (gwV good_Mq (u_Mq_Mo _ k_Mo_434) (u_Mq_Mo _ k_Mo_435) (u_Mq_Mo _ k_Mo_549) (u_Mq_Mo _ k_Mo_0) (wcs (u_Mq_Mo _ k_Mo_436) (fun _ h => h))) rfl rfl rfl (by decide +kernel) ⟨Nat.le_of_ble_eq_true rfl, Nat.le_of_ble_eq_true rfl⟩) (pv_ofE (X.same _) (fun U z1 z2 => X.mono _ _ U hFc (hEw _ _ hS U z1 z2)) hP hK hD (va_recv hK hP (ci := 12) (q0 := 0) rfl rfl)) rfl rfl hl.1 rfl (lv_room (Nat.le_of_ble_eq_true rfl)) d_Mo_turn_93 ⟨by decide, by decide⟩) hS (fun q _ h => hFc q h) hFc (fun u t H locs ht hvm hw hB hz1 hk1 hS => ?_)
          obtain ⟨hP, -, hD⟩ := hB
          rw [ht] at hP
          have hD := lx_dj hD hFc
          exact hB_96 _ hr_75 y_1 S_14 _ _ _ h hP hD hS (lv_sub hl [0, 1] rfl)
  have hB_23 : ∀ (k : Nat), ∀ (y_1 : Int32) (S : MS) (H : Heap) (locs : List Loc) (ls : Array Slot), f_Mo_turn_23 K k y_1 S = some S' → va_P (dC, dI) classes (wM M S) H → va_D A (wM M S) → va_S A s.heap H locs → lv_has ls 4 [(0, .ref M.o), (1, .int y_1)] → W p l e ({ frames := 10, cells := 0, slots := 0, locals := 300 }) s m ([.ref M.o] : List Value).toArray below meth c H locs 0 0 Q (F0 m 23 ls []) := by
    intro k
    induction k with
    | zero => intro y_1 S H locs ls h; exact lf_no h
    | succ k hr_23 =>
      intro y_1 S H locs ls h hP hD hS hl
      rw [f_Mo_turn_23] at h
      refine lv_iload_n hx hb d_Mo_turn_23 rfl (lv_at hl 1 rfl) ?_
      refine lv_sipush (v := 512) hx hb d_Mo_turn_24 (by decide) ?_
      refine lv_icmp_ge (tgt := 64) hx hb d_Mo_turn_27 (by decide) (fun c_5 => ?_) (fun c_5 => ?_)
      · have h := lf_t h c_5
        refine lv_aload_n hx hb d_Mo_turn_64 rfl (lv_at hl 0 rfl) ?_
        refine lv_iconst (v := 0) hx hb d_Mo_turn_65 (by decide) ?_
        refine va_put (D := (dC, dI)) (ci := 12) (v := .int 0) (ty := .int) (C := R_Mo) (T := F_Mo) (N := 66) hx hb hts (fun w h => u_Mq_Mo w (i_Mo w h)) t_Mo t_Mo_ok n_Mo hown hK hP hD hS 0 rfl rfl 60 (by decide) (hts _ (u_Mq_Mo _ k_Mo_67)) (fun _ h9 => h9) rfl (by decide +kernel) rfl rfl (Nat.le_of_ble_eq_true rfl) d_Mo_turn_66 (fun H locs hP hD hS => ?_)
        obtain ⟨S_6, eS_6, h⟩ := lf_lX h
        have hP := lx_newP eS_6 hP
        have hD := lx_newD eS_6 hD
        refine lv_aload_n hx hb d_Mo_turn_69 rfl (lv_at hl 0 rfl) ?_
        obtain ⟨S_7, hc_7, h⟩ := lf_bE h
        have hFc := lx_free hD hS hA
        refine va_callv (va_runV (As := []) (rest := []) ⟨hx, hb, hml, hown, hts⟩ (l_Mo_makeRecord l dC dI X _ hc_7) (cwV 0 hts (gwV good_Mq (u_Mq_Mo _ k_Mo_412) (u_Mq_Mo _ k_Mo_413) (u_Mq_Mo _ k_Mo_546) (u_Mq_Mo _ k_Mo_0) (wcs (u_Mq_Mo _ k_Mo_414) (fun _ h => h))) rfl rfl rfl (by decide +kernel) ⟨Nat.le_of_ble_eq_true rfl, Nat.le_of_ble_eq_true rfl⟩) (pv_ofE (X.same _) (fun U z1 z2 => X.mono _ _ U hFc (hEw _ _ hS U z1 z2)) hP hK hD (va_recv hK hP (ci := 12) (q0 := 0) rfl rfl)) rfl rfl hl.1 rfl (lv_room (Nat.le_of_ble_eq_true rfl)) d_Mo_turn_70 ⟨by decide, by decide⟩) hS (fun q _ h => hFc q h) hFc (fun u t H locs ht hvm hw hB hz1 hk1 hS => ?_)
        obtain ⟨hP, -, hD⟩ := hB
        rw [ht] at hP
        have hD := lx_dj hD hFc
        refine lv_iconst (v := 0) hx hb d_Mo_turn_73 (by decide) ?_
        refine lv_istore_n (lv' := [(1, .int 0), (0, .ref M.o)]) hx hb d_Mo_turn_74 rfl hl (by decide) rfl (fun ls hl => ?_)
        exact hB_75 K 0 S_7 _ _ _ h hP hD hS (lv_sub hl [1, 0] rfl)
      · have h := lf_f h c_5
        refine lv_aload_n hx hb d_Mo_turn_30 rfl (lv_at hl 0 rfl) ?_
        refine va_get (D := (dC, dI)) (ci := 12) (v := .ref M.a_used) (C := R_Mo) (T := F_Mo) (N := 66) hx hb hts (fun w h => u_Mq_Mo w (i_Mo w h)) hown hK hP 0 rfl rfl 52 (by decide) (hts _ (u_Mq_Mo _ k_Mo_59)) (fun _ h9 => h9) rfl d_Mo_turn_31 ?_
        refine lv_iload_n hx hb d_Mo_turn_34 rfl (lv_at hl 1 rfl) ?_
        refine lv_iload_n hx hb d_Mo_turn_35 rfl (lv_at hl 1 rfl) ?_
        refine lv_aload_n hx hb d_Mo_turn_36 rfl (lv_at hl 0 rfl) ?_
        refine va_get (D := (dC, dI)) (ci := 12) (v := .int S.v_blocks) (C := R_Mo) (T := F_Mo) (N := 66) hx hb hts (fun w h => u_Mq_Mo w (i_Mo w h)) hown hK hP 0 rfl rfl 50 (by decide) (hts _ (u_Mq_Mo _ k_Mo_57)) (fun _ h9 => h9) rfl d_Mo_turn_37 ?_
        refine lv_icmp_ge (tgt := 56) hx hb d_Mo_turn_40 (by decide) (fun c_8 => ?_) (fun c_8 => ?_)
        · have h := lf_t h c_8
          exact hB_56 _ hr_23 y_1 y_1 S _ _ _ h hP hD hS (lv_sub hl [0, 1] rfl)
        · have h := lf_f h c_8
          refine lv_aload_n hx hb d_Mo_turn_43 rfl (lv_at hl 0 rfl) ?_
          refine va_get (D := (dC, dI)) (ci := 12) (v := .ref M.a_fixed) (C := R_Mo) (T := F_Mo) (N := 66) hx hb hts (fun w h => u_Mq_Mo w (i_Mo w h)) hown hK hP 0 rfl rfl 51 (by decide) (hts _ (u_Mq_Mo _ k_Mo_58)) (fun _ h9 => h9) rfl d_Mo_turn_44 ?_
          refine lv_iload_n hx hb d_Mo_turn_47 rfl (lv_at hl 1 rfl) ?_
          obtain ⟨g_9, h⟩ := lf_gE h
          refine va_zald hx hb hK hP 21 20 rfl rfl g_9 d_Mo_turn_48 ?_
          refine lv_if_eq (tgt := 56) hx hb d_Mo_turn_49 (by decide) (fun c_10 => ?_) (fun c_10 => ?_)
          · have h := lf_t h c_10
            exact hB_56 _ hr_23 y_1 y_1 S _ _ _ h hP hD hS (lv_sub hl [0, 1] rfl)
          · have h := lf_f h c_10
            refine lv_iconst (v := 1) hx hb d_Mo_turn_52 (by decide) ?_
            refine lv_goto (tgt := 57) hx hb d_Mo_turn_53 (by decide) ?_
            exact hB_57 _ hr_23 y_1 y_1 1 S _ _ _ h hP hD hS (lv_sub hl [0, 1] rfl)
  have hB_2 : ∀ (k : Nat), ∀ (y_1 : Int32) (S : MS) (H : Heap) (locs : List Loc) (ls : Array Slot), f_Mo_turn_2 K k y_1 S = some S' → va_P (dC, dI) classes (wM M S) H → va_D A (wM M S) → va_S A s.heap H locs → lv_has ls 4 [(0, .ref M.o), (1, .int y_1)] → W p l e ({ frames := 10, cells := 0, slots := 0, locals := 300 }) s m ([.ref M.o] : List Value).toArray below meth c H locs 0 0 Q (F0 m 2 ls []) := by
    intro k
    induction k with
    | zero => intro y_1 S H locs ls h; exact lf_no h
    | succ k hr_2 =>
      intro y_1 S H locs ls h hP hD hS hl
      rw [f_Mo_turn_2] at h
      refine lv_iload_n hx hb d_Mo_turn_2 rfl (lv_at hl 1 rfl) ?_
      refine lv_ldc (v := 524288) hx hb hown (hts _ (u_Mq_Mo _ k_Mo_5)) d_Mo_turn_3 ?_
      refine lv_icmp_ge (tgt := 21) hx hb d_Mo_turn_5 (by decide) (fun c_1 => ?_) (fun c_1 => ?_)
      · have h := lf_t h c_1
        refine lv_iconst (v := 0) hx hb d_Mo_turn_21 (by decide) ?_
        refine lv_istore_n (lv' := [(1, .int 0), (0, .ref M.o)]) hx hb d_Mo_turn_22 rfl hl (by decide) rfl (fun ls hl => ?_)
        exact hB_23 K 0 S _ _ _ h hP hD hS (lv_sub hl [1, 0] rfl)
      · have h := lf_f h c_1
        refine lv_aload_n hx hb d_Mo_turn_8 rfl (lv_at hl 0 rfl) ?_
        refine va_get (D := (dC, dI)) (ci := 12) (v := .ref M.a_fresh) (C := R_Mo) (T := F_Mo) (N := 66) hx hb hts (fun w h => u_Mq_Mo w (i_Mo w h)) hown hK hP 0 rfl rfl 2 (by decide) (hts _ (u_Mq_Mo _ k_Mo_9)) (fun _ h9 => h9) rfl d_Mo_turn_9 ?_
        refine lv_iload_n hx hb d_Mo_turn_12 rfl (lv_at hl 1 rfl) ?_
        refine lv_iconst (v := 0) hx hb d_Mo_turn_13 (by decide) ?_
        obtain ⟨g_2, h⟩ := lf_gE h
        refine va_bast hx hb hK hP hD hS 2 1 rfl rfl g_2 d_Mo_turn_14 (fun H locs hP hD hS => ?_)
        obtain ⟨S_3, eS_3, h⟩ := lf_lX h
        have hP := lx_newP eS_3 hP
        have hD := lx_newD eS_3 hD
        obtain ⟨x_4, ex_4, h⟩ := lf_lX h
        refine lv_iinc (v := x_4) (lv' := [(1, .int x_4), (0, .ref M.o)]) hx hb d_Mo_turn_15 hl (k := 1) rfl (by rw [ex_4]; rfl) (by decide) rfl (fun ls hl => ?_)
        refine lv_goto (tgt := 2) hx hb d_Mo_turn_18 (by decide) ?_
        exact hr_2 x_4 S_3 _ _ _ h hP hD hS (lv_sub hl [1, 0] rfl)
  rw [f_Mo_turn] at h
  refine lv_iconst (v := 0) hx hb d_Mo_turn_0 (by decide) ?_
  refine lv_istore_n (lv' := [(1, .int 0), (0, .ref M.o)]) hx hb d_Mo_turn_1 rfl hl (by decide) rfl (fun ls hl => ?_)
  exact hB_2 K 0 S _ _ _ h hP hD hS (lv_sub hl [1, 0] rfl)
set_option maxHeartbeats 4000000 in
set_option maxRecDepth 100000 in
theorem l_Mo_fail (l : Launch) (dC : Nat → ClassId) (dI : Nat → Nat → Nat) {K : Nat} {M : MA} {E : (Nat → Prop) → State → Prop} (X : lx_X l dC dI K M E) (sz : Nat) {S S' : MS} {p0 : Int32} {p1 : Int32} {r : Int32} (h : f_Mo_fail K S p0 p1 = some (r, S')) : Met l y_Mo_fail (.code y_Mo_fail b_Mo_fail 3 (some .boolean) :: V_Mq) ({ frames := 0, cells := 0, slots := 0, locals := 0 }) (va_Pc [.ref M.o, .int p0, .int p1] (fun U => U.heap.size = sz ∧ at_ (dC, dI) (fun _ => True) (wM M S) (tM M) U ∧ E (va_A (wM M S) sz) U)) (va_Qi (fun (r_ : Int32) (u : Unit) => r_ = r) (fun (u : Unit) t => at_ (dC, dI) (va_A (wM M S) sz) (wM M S') (tM M) t) (va_A (wM M S) sz)) 0 0 (va_A (wM M S) sz) := by
  refine Met.ofW (cc := b_Mo_fail) (maxL := 3) (ret := (some .boolean)) (by decide) rfl ?_
  intro p e s m args below meth c s₁ B hml hv
  obtain ⟨rfl, hsz, ⟨hP, hK, hD0⟩, hE⟩ := hv
  have hx := B.exec
  have hb := B.bytes
  have hr := B.returns
  have hts0 := atoms_spec (ws := .code y_Mo_fail b_Mo_fail 3 (some .boolean) :: V_Mq) B.pre
  have hts : ∀ w ∈ V_Mq, w.before ([.ref M.o, .int p0, .int p1] : List Value).toArray s = true := fun w h => hts0 w (List.mem_cons_of_mem _ h)
  have hown : s.vm.findClass R_Mo = some m.cls := findClass_of_methodNamed B.named
  subst hsz
  have hD := hD0.self (sz := s.heap.size)
  generalize hAe : va_A (wM M S) s.heap.size = A at hD hE ⊢
  have hA : ∀ q : Nat, s.heap.size ≤ q → A q := fun q h => by rw [← hAe]; exact Or.inr h
  have hS : va_S A s.heap s.heap [] := va_S.rf
  have hP : va_P (dC, dI) classes (wM M S) s.heap := hP
  have hK : va_K (dC, dI) classes (tM M) s := hK
  have hEw : ∀ (H : Heap) (locs : List Loc), va_S A s.heap H locs → ∀ U : State, U.heap = H → s.WarmedH U.vm → E A U := fun H locs hS U hU hW => X.kept A s U H locs hE hS hU hW
  have hl := lv_entry ([.ref M.o, .int p0, .int p1]) (n := 3) (Nat.le_of_ble_eq_true rfl)
  rw [lg_entry_eq]
  generalize (lg_sl ([.ref M.o, .int p0, .int p1]) ++ List.replicate (3 - (lg_sl ([.ref M.o, .int p0, .int p1])).length) Slot.unset).toArray = ls at hl ⊢
  have hl : lv_has ls 3 [(0, .ref M.o), (1, .int p0), (2, .int p1)] := hl
  refine qabs (fun Q hQ => ?_)
  have hB_27 : ∀ (S : MS) (H : Heap) (locs : List Loc) (ls : Array Slot), f_Mo_fail_27 K S = some (r, S') → va_P (dC, dI) classes (wM M S) H → va_D A (wM M S) → va_S A s.heap H locs → lv_has ls 3 [] → W p l e ({ frames := 0, cells := 0, slots := 0, locals := 0 }) s m ([.ref M.o, .int p0, .int p1] : List Value).toArray below meth c H locs 0 0 Q (F0 m 27 ls []) := by
    intro S H locs ls h hP hD hS hl
    rw [f_Mo_fail_27] at h
    refine lv_iconst (v := 0) hx hb d_Mo_fail_27 (by decide) ?_
    rw [hQ]
    have e1 : (0 : Int32) = r := congrArg Prod.fst (Option.some.inj h)
    have e2 : S = S' := congrArg Prod.snd (Option.some.inj h)
    have hP := lx_newP e2.symm hP
    have hD := lx_newD e2.symm hD
    exact W.zret (v := 0) hx hb hr rfl (fun t ht hW => ⟨⟨0, (), rfl, e1, by rw [ht]; exact hP, va_K.moved hW.alike hK, hD⟩, hS.F ht⟩) hS.2.2 d_Mo_fail_28
  rw [f_Mo_fail] at h
  refine lv_aload_n hx hb d_Mo_fail_0 rfl (lv_at hl 0 rfl) ?_
  refine lv_iconst (v := 0) hx hb d_Mo_fail_1 (by decide) ?_
  refine va_put (D := (dC, dI)) (ci := 12) (v := .int 0) (ty := .int) (C := R_Mo) (T := F_Mo) (N := 66) hx hb hts (fun w h => u_Mq_Mo w (i_Mo w h)) t_Mo t_Mo_ok n_Mo hown hK hP hD hS 0 rfl rfl 6 (by decide) (hts _ (u_Mq_Mo _ k_Mo_13)) (fun _ h9 => h9) rfl (by decide +kernel) rfl rfl (Nat.le_of_ble_eq_true rfl) d_Mo_fail_2 (fun H locs hP hD hS => ?_)
  obtain ⟨S_1, eS_1, h⟩ := lf_lX h
  have hP := lx_newP eS_1 hP
  have hD := lx_newD eS_1 hD
  refine lv_iload_n hx hb d_Mo_fail_5 rfl (lv_at hl 1 rfl) ?_
  refine lv_if_lt (tgt := 27) hx hb d_Mo_fail_6 (by decide) (fun c_2 => ?_) (fun c_2 => ?_)
  · have h := lf_t h c_2
    exact hB_27 S_1 _ _ _ h hP hD hS (lv_sub hl [] rfl)
  · have h := lf_f h c_2
    refine lv_iload_n hx hb d_Mo_fail_9 rfl (lv_at hl 1 rfl) ?_
    refine lv_iconst (v := 1) hx hb d_Mo_fail_10 (by decide) ?_
    refine lv_icmp_gt (tgt := 27) hx hb d_Mo_fail_11 (by decide) (fun c_3 => ?_) (fun c_3 => ?_)
    · have h := lf_t h c_3
      exact hB_27 S_1 _ _ _ h hP hD hS (lv_sub hl [] rfl)
    · have h := lf_f h c_3
      refine lv_iload_n hx hb d_Mo_fail_14 rfl (lv_at hl 2 rfl) ?_
      refine lv_if_lt (tgt := 27) hx hb d_Mo_fail_15 (by decide) (fun c_4 => ?_) (fun c_4 => ?_)
      · have h := lf_t h c_4
        exact hB_27 S_1 _ _ _ h hP hD hS (lv_sub hl [] rfl)
      · have h := lf_f h c_4
        refine lv_aload_n hx hb d_Mo_fail_18 rfl (lv_at hl 0 rfl) ?_
        refine va_get (D := (dC, dI)) (ci := 12) (v := .int S_1.v_told) (C := R_Mo) (T := F_Mo) (N := 66) hx hb hts (fun w h => u_Mq_Mo w (i_Mo w h)) hown hK hP 0 rfl rfl 7 (by decide) (hts _ (u_Mq_Mo _ k_Mo_14)) (fun _ h9 => h9) rfl d_Mo_fail_19 ?_
        refine lv_bipush (v := 16) hx hb d_Mo_fail_22 (by decide) ?_
        refine lv_icmp_ne (tgt := 29) hx hb d_Mo_fail_24 (by decide) (fun c_5 => ?_) (fun c_5 => ?_)
        · have h := lf_f h c_5
          refine lv_aload_n hx hb d_Mo_fail_29 rfl (lv_at hl 0 rfl) ?_
          refine lv_dup hx hb d_Mo_fail_30 rfl ?_
          refine va_get (D := (dC, dI)) (ci := 12) (v := .int S_1.v_told) (C := R_Mo) (T := F_Mo) (N := 66) hx hb hts (fun w h => u_Mq_Mo w (i_Mo w h)) hown hK hP 0 rfl rfl 7 (by decide) (hts _ (u_Mq_Mo _ k_Mo_14)) (fun _ h9 => h9) rfl d_Mo_fail_31 ?_
          refine lv_iconst (v := 1) hx hb d_Mo_fail_34 (by decide) ?_
          refine lv_iadd hx hb d_Mo_fail_35 ?_
          refine va_put (D := (dC, dI)) (ci := 12) (v := .int (S_1.v_told + 1)) (ty := .int) (C := R_Mo) (T := F_Mo) (N := 66) hx hb hts (fun w h => u_Mq_Mo w (i_Mo w h)) t_Mo t_Mo_ok n_Mo hown hK hP hD hS 0 rfl rfl 7 (by decide) (hts _ (u_Mq_Mo _ k_Mo_14)) (fun _ h9 => h9) rfl (by decide +kernel) rfl rfl (Nat.le_of_ble_eq_true rfl) d_Mo_fail_36 (fun H locs hP hD hS => ?_)
          obtain ⟨S_6, eS_6, h⟩ := lf_lX h
          have hP := lx_newP eS_6 hP
          have hD := lx_newD eS_6 hD
          refine lv_iconst (v := 1) hx hb d_Mo_fail_39 (by decide) ?_
          rw [hQ]
          have e1 : (1 : Int32) = r := congrArg Prod.fst (Option.some.inj h)
          have e2 : S_6 = S' := congrArg Prod.snd (Option.some.inj h)
          have hP := lx_newP e2.symm hP
          have hD := lx_newD e2.symm hD
          exact W.zret (v := 1) hx hb hr rfl (fun t ht hW => ⟨⟨1, (), rfl, e1, by rw [ht]; exact hP, va_K.moved hW.alike hK, hD⟩, hS.F ht⟩) hS.2.2 d_Mo_fail_40
        · have h := lf_t h c_5
          exact hB_27 S_1 _ _ _ h hP hD hS (lv_sub hl [] rfl)
set_option maxHeartbeats 4000000 in
set_option maxRecDepth 100000 in
theorem l_Mo_run (l : Launch) (dC : Nat → ClassId) (dI : Nat → Nat → Nat) {K : Nat} {M : MA} {E : (Nat → Prop) → State → Prop} (X : lx_X l dC dI K M E) (sz : Nat) {S S' : MS} {p0 : Int32} {p1 : Int32} {r : Int32} (h : f_Mo_run K S p0 p1 = some (r, S')) : Met l y_Mo_run (.code y_Mo_run b_Mo_run 4 (some .int) :: V_Mq) ({ frames := 13, cells := 0, slots := 0, locals := 360 }) (va_Pc [.ref M.o, .int p0, .int p1] (fun U => U.heap.size = sz ∧ at_ (dC, dI) (fun _ => True) (wM M S) (tM M) U ∧ E (va_A (wM M S) sz) U)) (va_Qi (fun (r_ : Int32) (u : Unit) => r_ = r) (fun (u : Unit) t => at_ (dC, dI) (va_A (wM M S) sz) (wM M S') (tM M) t) (va_A (wM M S) sz)) 0 0 (va_A (wM M S) sz) := by
  refine Met.ofW (cc := b_Mo_run) (maxL := 4) (ret := (some .int)) (by decide) rfl ?_
  intro p e s m args below meth c s₁ B hml hv
  obtain ⟨rfl, hsz, ⟨hP, hK, hD0⟩, hE⟩ := hv
  have hx := B.exec
  have hb := B.bytes
  have hr := B.returns
  have hts0 := atoms_spec (ws := .code y_Mo_run b_Mo_run 4 (some .int) :: V_Mq) B.pre
  have hts : ∀ w ∈ V_Mq, w.before ([.ref M.o, .int p0, .int p1] : List Value).toArray s = true := fun w h => hts0 w (List.mem_cons_of_mem _ h)
  have hown : s.vm.findClass R_Mo = some m.cls := findClass_of_methodNamed B.named
  subst hsz
  have hD := hD0.self (sz := s.heap.size)
  generalize hAe : va_A (wM M S) s.heap.size = A at hD hE ⊢
  have hA : ∀ q : Nat, s.heap.size ≤ q → A q := fun q h => by rw [← hAe]; exact Or.inr h
  have hS : va_S A s.heap s.heap [] := va_S.rf
  have hP : va_P (dC, dI) classes (wM M S) s.heap := hP
  have hK : va_K (dC, dI) classes (tM M) s := hK
  have hEw : ∀ (H : Heap) (locs : List Loc), va_S A s.heap H locs → ∀ U : State, U.heap = H → s.WarmedH U.vm → E A U := fun H locs hS U hU hW => X.kept A s U H locs hE hS hU hW
  have hl := lv_entry ([.ref M.o, .int p0, .int p1]) (n := 4) (Nat.le_of_ble_eq_true rfl)
  rw [lg_entry_eq]
  generalize (lg_sl ([.ref M.o, .int p0, .int p1]) ++ List.replicate (4 - (lg_sl ([.ref M.o, .int p0, .int p1])).length) Slot.unset).toArray = ls at hl ⊢
  have hl : lv_has ls 4 [(0, .ref M.o), (1, .int p0), (2, .int p1)] := hl
  refine qabs (fun Q hQ => ?_)
  have hB_64 : ∀ (S : MS) (H : Heap) (locs : List Loc) (ls : Array Slot), f_Mo_run_64 K S = some (r, S') → va_P (dC, dI) classes (wM M S) H → va_D A (wM M S) → va_S A s.heap H locs → lv_has ls 4 [] → W p l e ({ frames := 13, cells := 0, slots := 0, locals := 360 }) s m ([.ref M.o, .int p0, .int p1] : List Value).toArray below meth c H locs 0 0 Q (F0 m 64 ls []) := by
    intro S H locs ls h hP hD hS hl
    rw [f_Mo_run_64] at h
    refine lv_iconst (v := 0) hx hb d_Mo_run_64 (by decide) ?_
    rw [hQ]
    have e1 : (0 : Int32) = r := congrArg Prod.fst (Option.some.inj h)
    have e2 : S = S' := congrArg Prod.snd (Option.some.inj h)
    have hP := lx_newP e2.symm hP
    have hD := lx_newD e2.symm hD
    exact W.iret (v := 0) hx hb hr (fun t ht hW => ⟨⟨0, (), rfl, e1, by rw [ht]; exact hP, va_K.moved hW.alike hK, hD⟩, hS.F ht⟩) hS.2.2 d_Mo_run_65
  have hB_113 : ∀ (y_3 : Int32) (S : MS) (H : Heap) (locs : List Loc) (ls : Array Slot), f_Mo_run_113 K y_3 S = some (r, S') → va_P (dC, dI) classes (wM M S) H → va_D A (wM M S) → va_S A s.heap H locs → lv_has ls 4 [(0, .ref M.o), (3, .int y_3)] → W p l e ({ frames := 13, cells := 0, slots := 0, locals := 360 }) s m ([.ref M.o, .int p0, .int p1] : List Value).toArray below meth c H locs 0 0 Q (F0 m 113 ls []) := by
    intro y_3 S H locs ls h hP hD hS hl
    rw [f_Mo_run_113] at h
    refine lv_aload_n hx hb d_Mo_run_113 rfl (lv_at hl 0 rfl) ?_
    refine lv_iconst (v := 1) hx hb d_Mo_run_114 (by decide) ?_
    refine va_put (D := (dC, dI)) (ci := 12) (v := .int 1) (ty := .boolean) (C := R_Mo) (T := F_Mo) (N := 66) hx hb hts (fun w h => u_Mq_Mo w (i_Mo w h)) t_Mo t_Mo_ok n_Mo hown hK hP hD hS 0 rfl rfl 10 (by decide) (hts _ (u_Mq_Mo _ k_Mo_17)) (fun _ h9 => h9) rfl (by decide +kernel) rfl rfl (Nat.le_of_ble_eq_true rfl) d_Mo_run_115 (fun H locs hP hD hS => ?_)
    obtain ⟨S_20, eS_20, h⟩ := lf_lX h
    have hP := lx_newP eS_20 hP
    have hD := lx_newD eS_20 hD
    refine lv_aload_n hx hb d_Mo_run_118 rfl (lv_at hl 0 rfl) ?_
    refine lv_iconst (v := 0) hx hb d_Mo_run_119 (by decide) ?_
    refine va_put (D := (dC, dI)) (ci := 12) (v := .int 0) (ty := .int) (C := R_Mo) (T := F_Mo) (N := 66) hx hb hts (fun w h => u_Mq_Mo w (i_Mo w h)) t_Mo t_Mo_ok n_Mo hown hK hP hD hS 0 rfl rfl 18 (by decide) (hts _ (u_Mq_Mo _ k_Mo_25)) (fun _ h9 => h9) rfl (by decide +kernel) rfl rfl (Nat.le_of_ble_eq_true rfl) d_Mo_run_120 (fun H locs hP hD hS => ?_)
    obtain ⟨S_21, eS_21, h⟩ := lf_lX h
    have hP := lx_newP eS_21 hP
    have hD := lx_newD eS_21 hD
    refine lv_iload_n hx hb d_Mo_run_123 rfl (lv_at hl 1 rfl) ?_
    rw [hQ]
    have e1 : y_3 = r := congrArg Prod.fst (Option.some.inj h)
    have e2 : S_21 = S' := congrArg Prod.snd (Option.some.inj h)
    have hP := lx_newP e2.symm hP
    have hD := lx_newD e2.symm hD
    exact W.iret (v := y_3) hx hb hr (fun t ht hW => ⟨⟨y_3, (), rfl, e1, by rw [ht]; exact hP, va_K.moved hW.alike hK, hD⟩, hS.F ht⟩) hS.2.2 d_Mo_run_124
  have hB_88 : ∀ (y_1 : Int32) (y_2 : Int32) (y_3 : Int32) (S : MS) (H : Heap) (locs : List Loc) (ls : Array Slot), f_Mo_run_88 K y_1 y_2 y_3 S = some (r, S') → va_P (dC, dI) classes (wM M S) H → va_D A (wM M S) → va_S A s.heap H locs → lv_has ls 4 [(0, .ref M.o), (1, .int y_1), (2, .int y_2), (3, .int y_3)] → W p l e ({ frames := 13, cells := 0, slots := 0, locals := 360 }) s m ([.ref M.o, .int p0, .int p1] : List Value).toArray below meth c H locs 0 0 Q (F0 m 88 ls []) := by
    intro y_1 y_2 y_3 S H locs ls h hP hD hS hl
    rw [f_Mo_run_88] at h
    refine lv_aload_n hx hb d_Mo_run_88 rfl (lv_at hl 0 rfl) ?_
    refine va_get (D := (dC, dI)) (ci := 12) (v := .int S.v_turned) (C := R_Mo) (T := F_Mo) (N := 66) hx hb hts (fun w h => u_Mq_Mo w (i_Mo w h)) hown hK hP 0 rfl rfl 9 (by decide) (hts _ (u_Mq_Mo _ k_Mo_16)) (fun _ h9 => h9) rfl d_Mo_run_89 ?_
    refine lv_if_ne (tgt := 113) hx hb d_Mo_run_92 (by decide) (fun c_15 => ?_) (fun c_15 => ?_)
    · have h := lf_f h c_15
      exact hB_113 y_3 S _ _ _ h hP hD hS (lv_sub hl [0, 3] rfl)
    · have h := lf_t h c_15
      refine lv_iload_n hx hb d_Mo_run_95 rfl (lv_at hl 1 rfl) ?_
      refine lv_if_ne (tgt := 113) hx hb d_Mo_run_96 (by decide) (fun c_16 => ?_) (fun c_16 => ?_)
      · have h := lf_f h c_16
        exact hB_113 y_3 S _ _ _ h hP hD hS (lv_sub hl [0, 3] rfl)
      · have h := lf_t h c_16
        refine lv_aload_n hx hb d_Mo_run_99 rfl (lv_at hl 0 rfl) ?_
        refine lv_iload_n hx hb d_Mo_run_100 rfl (lv_at hl 2 rfl) ?_
        obtain ⟨r_17, S_17, hc_17, h⟩ := lf_cE h
        have hFc := lx_free hD hS hA
        refine va_calli (va_runV (As := [.int y_2]) (rest := []) ⟨hx, hb, hml, hown, hts⟩ (l_Mo_refusal l dC dI X _ hc_17) (cwV 1 hts (gwV good_Mq (u_Mq_Mo _ k_Mo_367) (u_Mq_Mo _ k_Mo_368) (u_Mq_Mo _ k_Mo_537) (u_Mq_Mo _ k_Mo_0) (wcs (u_Mq_Mo _ k_Mo_369) (fun _ h => h))) rfl rfl rfl (by decide +kernel) ⟨Nat.le_of_ble_eq_true rfl, Nat.le_of_ble_eq_true rfl⟩) (pv_ofE (X.same _) (fun U z1 z2 => X.mono _ _ U hFc (hEw _ _ hS U z1 z2)) hP hK hD (va_recv hK hP (ci := 12) (q0 := 0) rfl rfl)) rfl rfl hl.1 rfl (lv_room (Nat.le_of_ble_eq_true rfl)) d_Mo_run_101 ⟨by decide, by decide⟩) hS (fun q _ h => hFc q h) hFc (fun r_ u t H locs ht hvm hw hB hz1 hk1 hS => ?_)
        rw [hw]
        obtain ⟨hP, -, hD⟩ := hB
        rw [ht] at hP
        have hD := lx_dj hD hFc
        refine lv_istore_n (lv' := [(3, .int r_17), (0, .ref M.o), (1, .int y_1), (2, .int y_2)]) hx hb d_Mo_run_104 rfl hl (by decide) rfl (fun ls hl => ?_)
        refine lv_iload_n hx hb d_Mo_run_105 rfl (lv_at hl 0 rfl) ?_
        refine lv_if_ne (tgt := 113) hx hb d_Mo_run_106 (by decide) (fun c_18 => ?_) (fun c_18 => ?_)
        · have h := lf_f h c_18
          exact hB_113 r_17 S_17 _ _ _ h hP hD hS (lv_sub hl [1, 0] rfl)
        · have h := lf_t h c_18
          refine lv_aload_n hx hb d_Mo_run_109 rfl (lv_at hl 1 rfl) ?_
          obtain ⟨S_19, hc_19, h⟩ := lf_bE h
          have hFc := lx_free hD hS hA
          refine va_callv (va_runV (As := []) (rest := []) ⟨hx, hb, hml, hown, hts⟩ (l_Mo_turn l dC dI X _ hc_19) (cwV 0 hts (gwV good_Mq (u_Mq_Mo _ k_Mo_409) (u_Mq_Mo _ k_Mo_410) (u_Mq_Mo _ k_Mo_557) (u_Mq_Mo _ k_Mo_0) (wcs (u_Mq_Mo _ k_Mo_411) (fun _ h => h))) rfl rfl rfl (by decide +kernel) ⟨Nat.le_of_ble_eq_true rfl, Nat.le_of_ble_eq_true rfl⟩) (pv_ofE (X.same _) (fun U z1 z2 => X.mono _ _ U hFc (hEw _ _ hS U z1 z2)) hP hK hD (va_recv hK hP (ci := 12) (q0 := 0) rfl rfl)) rfl rfl hl.1 rfl (lv_room (Nat.le_of_ble_eq_true rfl)) d_Mo_run_110 ⟨by decide, by decide⟩) hS (fun q _ h => hFc q h) hFc (fun u t H locs ht hvm hw hB hz1 hk1 hS => ?_)
          obtain ⟨hP, -, hD⟩ := hB
          rw [ht] at hP
          have hD := lx_dj hD hFc
          exact hB_113 r_17 S_19 _ _ _ h hP hD hS (lv_sub hl [1, 0] rfl)
  have hB_57 : ∀ (y_1 : Int32) (y_2 : Int32) (z_1 : Int32) (S : MS) (H : Heap) (locs : List Loc) (ls : Array Slot), f_Mo_run_57 K y_1 y_2 z_1 S = some (r, S') → va_P (dC, dI) classes (wM M S) H → va_D A (wM M S) → va_S A s.heap H locs → lv_has ls 4 [(0, .ref M.o), (1, .int y_1), (2, .int y_2)] → W p l e ({ frames := 13, cells := 0, slots := 0, locals := 360 }) s m ([.ref M.o, .int p0, .int p1] : List Value).toArray below meth c H locs 0 0 Q (F0 m 57 ls [.int z_1, .ref M.o]) := by
    intro y_1 y_2 z_1 S H locs ls h hP hD hS hl
    rw [f_Mo_run_57] at h
    refine lv_iconst (v := 2) hx hb d_Mo_run_57 (by decide) ?_
    obtain ⟨r_10, S_10, hc_10, h⟩ := lf_cE h
    have hFc := lx_free hD hS hA
    refine va_calli (va_runV (As := [.int z_1, .int 2]) (rest := []) ⟨hx, hb, hml, hown, hts⟩ (l_Mo_fails l dC dI X _ hc_10) (cwV 2 hts (gwV good_Mq (u_Mq_Mo _ k_Mo_217) (u_Mq_Mo _ k_Mo_218) (u_Mq_Mo _ k_Mo_474) (u_Mq_Mo _ k_Mo_0) (wcs (u_Mq_Mo _ k_Mo_219) (fun _ h => h))) rfl rfl rfl (by decide +kernel) ⟨Nat.le_of_ble_eq_true rfl, Nat.le_of_ble_eq_true rfl⟩) (pv_ofE (X.same _) (fun U z1 z2 => X.mono _ _ U hFc (hEw _ _ hS U z1 z2)) hP hK hD (va_recv hK hP (ci := 12) (q0 := 0) rfl rfl)) rfl rfl hl.1 rfl (lv_room (Nat.le_of_ble_eq_true rfl)) d_Mo_run_58 ⟨by decide, by decide⟩) hS (fun q _ h => hFc q h) hFc (fun r_ u t H locs ht hvm hw hB hz1 hk1 hS => ?_)
    rw [hw]
    obtain ⟨hP, -, hD⟩ := hB
    rw [ht] at hP
    have hD := lx_dj hD hFc
    refine lv_if_eq (tgt := 66) hx hb d_Mo_run_61 (by decide) (fun c_11 => ?_) (fun c_11 => ?_)
    · have h := lf_t h c_11
      refine lv_iconst (v := 0) hx hb d_Mo_run_66 (by decide) ?_
      refine lv_istore_n (lv' := [(3, .int 0), (0, .ref M.o), (1, .int y_1), (2, .int y_2)]) hx hb d_Mo_run_67 rfl hl (by decide) rfl (fun ls hl => ?_)
      refine lv_aload_n hx hb d_Mo_run_68 rfl (lv_at hl 1 rfl) ?_
      refine va_get (D := (dC, dI)) (ci := 12) (v := .int S_10.v_turned) (C := R_Mo) (T := F_Mo) (N := 66) hx hb hts (fun w h => u_Mq_Mo w (i_Mo w h)) hown hK hP 0 rfl rfl 9 (by decide) (hts _ (u_Mq_Mo _ k_Mo_16)) (fun _ h9 => h9) rfl d_Mo_run_69 ?_
      refine lv_if_eq (tgt := 88) hx hb d_Mo_run_72 (by decide) (fun c_12 => ?_) (fun c_12 => ?_)
      · have h := lf_t h c_12
        exact hB_88 y_1 y_2 0 S_10 _ _ _ h hP hD hS (lv_sub hl [1, 2, 3, 0] rfl)
      · have h := lf_f h c_12
        refine lv_iload_n hx hb d_Mo_run_75 rfl (lv_at hl 2 rfl) ?_
        refine lv_iconst (v := 1) hx hb d_Mo_run_76 (by decide) ?_
        refine lv_icmp_ne (tgt := 88) hx hb d_Mo_run_77 (by decide) (fun c_13 => ?_) (fun c_13 => ?_)
        · have h := lf_f h c_13
          exact hB_88 y_1 y_2 0 S_10 _ _ _ h hP hD hS (lv_sub hl [1, 2, 3, 0] rfl)
        · have h := lf_t h c_13
          refine lv_aload_n hx hb d_Mo_run_80 rfl (lv_at hl 1 rfl) ?_
          refine lv_iconst (v := 0) hx hb d_Mo_run_81 (by decide) ?_
          refine va_put (D := (dC, dI)) (ci := 12) (v := .int 0) (ty := .boolean) (C := R_Mo) (T := F_Mo) (N := 66) hx hb hts (fun w h => u_Mq_Mo w (i_Mo w h)) t_Mo t_Mo_ok n_Mo hown hK hP hD hS 0 rfl rfl 9 (by decide) (hts _ (u_Mq_Mo _ k_Mo_16)) (fun _ h9 => h9) rfl (by decide +kernel) rfl rfl (Nat.le_of_ble_eq_true rfl) d_Mo_run_82 (fun H locs hP hD hS => ?_)
          obtain ⟨S_14, eS_14, h⟩ := lf_lX h
          have hP := lx_newP eS_14 hP
          have hD := lx_newD eS_14 hD
          refine lv_goto (tgt := 113) hx hb d_Mo_run_85 (by decide) ?_
          exact hB_113 0 S_14 _ _ _ h hP hD hS (lv_sub hl [1, 0] rfl)
    · have h := lf_f h c_11
      exact hB_64 S_10 _ _ _ h hP hD hS (lv_sub hl [] rfl)
  have hB_52 : ∀ (y_1 : Int32) (y_2 : Int32) (S : MS) (H : Heap) (locs : List Loc) (ls : Array Slot), f_Mo_run_52 K y_1 y_2 S = some (r, S') → va_P (dC, dI) classes (wM M S) H → va_D A (wM M S) → va_S A s.heap H locs → lv_has ls 4 [(0, .ref M.o), (1, .int y_1), (2, .int y_2)] → W p l e ({ frames := 13, cells := 0, slots := 0, locals := 360 }) s m ([.ref M.o, .int p0, .int p1] : List Value).toArray below meth c H locs 0 0 Q (F0 m 52 ls [.ref M.o]) := by
    intro y_1 y_2 S H locs ls h hP hD hS hl
    rw [f_Mo_run_52] at h
    refine lv_iconst (v := 1) hx hb d_Mo_run_52 (by decide) ?_
    refine lv_goto (tgt := 57) hx hb d_Mo_run_53 (by decide) ?_
    exact hB_57 y_1 y_2 1 S _ _ _ h hP hD hS (lv_sub hl [0, 1, 2] rfl)
  have hB_35 : ∀ (y_1 : Int32) (y_2 : Int32) (z_1 : Int32) (S : MS) (H : Heap) (locs : List Loc) (ls : Array Slot), f_Mo_run_35 K y_1 y_2 z_1 S = some (r, S') → va_P (dC, dI) classes (wM M S) H → va_D A (wM M S) → va_S A s.heap H locs → lv_has ls 4 [(0, .ref M.o), (1, .int y_1), (2, .int y_2)] → W p l e ({ frames := 13, cells := 0, slots := 0, locals := 360 }) s m ([.ref M.o, .int p0, .int p1] : List Value).toArray below meth c H locs 0 0 Q (F0 m 35 ls [.int z_1, .ref M.o]) := by
    intro y_1 y_2 z_1 S H locs ls h hP hD hS hl
    rw [f_Mo_run_35] at h
    refine lv_iconst (v := 1) hx hb d_Mo_run_35 (by decide) ?_
    obtain ⟨r_6, S_6, hc_6, h⟩ := lf_cE h
    have hFc := lx_free hD hS hA
    refine va_calli (va_runV (As := [.int z_1, .int 1]) (rest := []) ⟨hx, hb, hml, hown, hts⟩ (l_Mo_fails l dC dI X _ hc_6) (cwV 2 hts (gwV good_Mq (u_Mq_Mo _ k_Mo_217) (u_Mq_Mo _ k_Mo_218) (u_Mq_Mo _ k_Mo_474) (u_Mq_Mo _ k_Mo_0) (wcs (u_Mq_Mo _ k_Mo_219) (fun _ h => h))) rfl rfl rfl (by decide +kernel) ⟨Nat.le_of_ble_eq_true rfl, Nat.le_of_ble_eq_true rfl⟩) (pv_ofE (X.same _) (fun U z1 z2 => X.mono _ _ U hFc (hEw _ _ hS U z1 z2)) hP hK hD (va_recv hK hP (ci := 12) (q0 := 0) rfl rfl)) rfl rfl hl.1 rfl (lv_room (Nat.le_of_ble_eq_true rfl)) d_Mo_run_36 ⟨by decide, by decide⟩) hS (fun q _ h => hFc q h) hFc (fun r_ u t H locs ht hvm hw hB hz1 hk1 hS => ?_)
    rw [hw]
    obtain ⟨hP, -, hD⟩ := hB
    rw [ht] at hP
    have hD := lx_dj hD hFc
    refine lv_if_ne (tgt := 64) hx hb d_Mo_run_39 (by decide) (fun c_7 => ?_) (fun c_7 => ?_)
    · have h := lf_f h c_7
      exact hB_64 S_6 _ _ _ h hP hD hS (lv_sub hl [] rfl)
    · have h := lf_t h c_7
      refine lv_aload_n hx hb d_Mo_run_42 rfl (lv_at hl 0 rfl) ?_
      refine lv_iload_n hx hb d_Mo_run_43 rfl (lv_at hl 1 rfl) ?_
      refine lv_if_lt (tgt := 52) hx hb d_Mo_run_44 (by decide) (fun c_8 => ?_) (fun c_8 => ?_)
      · have h := lf_t h c_8
        exact hB_52 y_1 y_2 S_6 _ _ _ h hP hD hS (lv_sub hl [0, 1, 2] rfl)
      · have h := lf_f h c_8
        refine lv_iload_n hx hb d_Mo_run_47 rfl (lv_at hl 1 rfl) ?_
        refine lv_iconst (v := 1) hx hb d_Mo_run_48 (by decide) ?_
        refine lv_icmp_le (tgt := 56) hx hb d_Mo_run_49 (by decide) (fun c_9 => ?_) (fun c_9 => ?_)
        · have h := lf_t h c_9
          refine lv_iconst (v := 0) hx hb d_Mo_run_56 (by decide) ?_
          exact hB_57 y_1 y_2 0 S_6 _ _ _ h hP hD hS (lv_sub hl [0, 1, 2] rfl)
        · have h := lf_f h c_9
          exact hB_52 y_1 y_2 S_6 _ _ _ h hP hD hS (lv_sub hl [0, 1, 2] rfl)
  have hB_34 : ∀ (y_1 : Int32) (y_2 : Int32) (S : MS) (H : Heap) (locs : List Loc) (ls : Array Slot), f_Mo_run_34 K y_1 y_2 S = some (r, S') → va_P (dC, dI) classes (wM M S) H → va_D A (wM M S) → va_S A s.heap H locs → lv_has ls 4 [(0, .ref M.o), (1, .int y_1), (2, .int y_2)] → W p l e ({ frames := 13, cells := 0, slots := 0, locals := 360 }) s m ([.ref M.o, .int p0, .int p1] : List Value).toArray below meth c H locs 0 0 Q (F0 m 34 ls [.ref M.o]) := by
    intro y_1 y_2 S H locs ls h hP hD hS hl
    rw [f_Mo_run_34] at h
    refine lv_iconst (v := 0) hx hb d_Mo_run_34 (by decide) ?_
    exact hB_35 y_1 y_2 0 S _ _ _ h hP hD hS (lv_sub hl [0, 1, 2] rfl)
  rw [f_Mo_run] at h
  refine lv_aload_n hx hb d_Mo_run_0 rfl (lv_at hl 0 rfl) ?_
  refine lv_iconst (v := 0) hx hb d_Mo_run_1 (by decide) ?_
  refine va_put (D := (dC, dI)) (ci := 12) (v := .int 0) (ty := .int) (C := R_Mo) (T := F_Mo) (N := 66) hx hb hts (fun w h => u_Mq_Mo w (i_Mo w h)) t_Mo t_Mo_ok n_Mo hown hK hP hD hS 0 rfl rfl 6 (by decide) (hts _ (u_Mq_Mo _ k_Mo_13)) (fun _ h9 => h9) rfl (by decide +kernel) rfl rfl (Nat.le_of_ble_eq_true rfl) d_Mo_run_2 (fun H locs hP hD hS => ?_)
  obtain ⟨S_1, eS_1, h⟩ := lf_lX h
  have hP := lx_newP eS_1 hP
  have hD := lx_newD eS_1 hD
  refine lv_aload_n hx hb d_Mo_run_5 rfl (lv_at hl 0 rfl) ?_
  refine lv_iconst (v := 0) hx hb d_Mo_run_6 (by decide) ?_
  refine va_put (D := (dC, dI)) (ci := 12) (v := .int 0) (ty := .int) (C := R_Mo) (T := F_Mo) (N := 66) hx hb hts (fun w h => u_Mq_Mo w (i_Mo w h)) t_Mo t_Mo_ok n_Mo hown hK hP hD hS 0 rfl rfl 7 (by decide) (hts _ (u_Mq_Mo _ k_Mo_14)) (fun _ h9 => h9) rfl (by decide +kernel) rfl rfl (Nat.le_of_ble_eq_true rfl) d_Mo_run_7 (fun H locs hP hD hS => ?_)
  obtain ⟨S_2, eS_2, h⟩ := lf_lX h
  have hP := lx_newP eS_2 hP
  have hD := lx_newD eS_2 hD
  refine lv_aload_n hx hb d_Mo_run_10 rfl (lv_at hl 0 rfl) ?_
  obtain ⟨S_3, hc_3, h⟩ := lf_bE h
  have hFc := lx_free hD hS hA
  refine va_callv (va_runV (As := []) (rest := []) ⟨hx, hb, hml, hown, hts⟩ (l_Mo_look l dC dI X _ hc_3) (cwV 0 hts (gwV good_Mq (u_Mq_Mo _ k_Mo_88) (u_Mq_Mo _ k_Mo_89) (u_Mq_Mo _ k_Mo_492) (u_Mq_Mo _ k_Mo_0) (wcs (u_Mq_Mo _ k_Mo_90) (fun _ h => h))) rfl rfl rfl (by decide +kernel) ⟨Nat.le_of_ble_eq_true rfl, Nat.le_of_ble_eq_true rfl⟩) (pv_ofE (X.same _) (fun U z1 z2 => X.mono _ _ U hFc (hEw _ _ hS U z1 z2)) hP hK hD (va_recv hK hP (ci := 12) (q0 := 0) rfl rfl)) rfl rfl hl.1 rfl (lv_room (Nat.le_of_ble_eq_true rfl)) d_Mo_run_11 ⟨by decide, by decide⟩) hS (fun q _ h => hFc q h) hFc (fun u t H locs ht hvm hw hB hz1 hk1 hS => ?_)
  obtain ⟨hP, -, hD⟩ := hB
  rw [ht] at hP
  have hD := lx_dj hD hFc
  refine lv_aload_n hx hb d_Mo_run_14 rfl (lv_at hl 0 rfl) ?_
  refine lv_aload_n hx hb d_Mo_run_15 rfl (lv_at hl 0 rfl) ?_
  refine va_get (D := (dC, dI)) (ci := 12) (v := .int S_3.v_turned) (C := R_Mo) (T := F_Mo) (N := 66) hx hb hts (fun w h => u_Mq_Mo w (i_Mo w h)) hown hK hP 0 rfl rfl 9 (by decide) (hts _ (u_Mq_Mo _ k_Mo_16)) (fun _ h9 => h9) rfl d_Mo_run_16 ?_
  refine lv_if_ne (tgt := 34) hx hb d_Mo_run_19 (by decide) (fun c_4 => ?_) (fun c_4 => ?_)
  · have h := lf_f h c_4
    exact hB_34 p0 p1 S_3 _ _ _ h hP hD hS (lv_sub hl [0, 1, 2] rfl)
  · have h := lf_t h c_4
    refine lv_aload_n hx hb d_Mo_run_22 rfl (lv_at hl 0 rfl) ?_
    refine va_get (D := (dC, dI)) (ci := 12) (v := .int S_3.v_fault) (C := R_Mo) (T := F_Mo) (N := 66) hx hb hts (fun w h => u_Mq_Mo w (i_Mo w h)) hown hK hP 0 rfl rfl 20 (by decide) (hts _ (u_Mq_Mo _ k_Mo_27)) (fun _ h9 => h9) rfl d_Mo_run_23 ?_
    refine lv_iconst (v := 1) hx hb d_Mo_run_26 (by decide) ?_
    refine lv_icmp_ne (tgt := 34) hx hb d_Mo_run_27 (by decide) (fun c_5 => ?_) (fun c_5 => ?_)
    · have h := lf_f h c_5
      exact hB_34 p0 p1 S_3 _ _ _ h hP hD hS (lv_sub hl [0, 1, 2] rfl)
    · have h := lf_t h c_5
      refine lv_iconst (v := 1) hx hb d_Mo_run_30 (by decide) ?_
      refine lv_goto (tgt := 35) hx hb d_Mo_run_31 (by decide) ?_
      exact hB_35 p0 p1 1 S_3 _ _ _ h hP hD hS (lv_sub hl [0, 1, 2] rfl)
