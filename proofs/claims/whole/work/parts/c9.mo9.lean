set_option maxHeartbeats 4000000 in
set_option maxRecDepth 100000 in
theorem l_Mo_begins (l : Launch) (dC : Nat → ClassId) (dI : Nat → Nat → Nat) {K : Nat} {M : MA} {E : (Nat → Prop) → State → Prop} (X : lx_X l dC dI K M E) (sz : Nat) {S S' : MS} (h : f_Mo_begins K S = some S') : Met l y_Mo_begins (.code y_Mo_begins b_Mo_begins 1 none :: V_Mq) ({ frames := 1, cells := 0, slots := 0, locals := 21 }) (va_Pc [.ref M.o] (fun U => U.heap.size = sz ∧ at_ (dC, dI) (fun _ => True) (wM M S) (tM M) U ∧ E (va_A (wM M S) sz) U)) (va_Qv (fun (u : Unit) => True) (fun (u : Unit) t => at_ (dC, dI) (va_A (wM M S) sz) (wM M S') (tM M) t) (va_A (wM M S) sz)) 0 0 (va_A (wM M S) sz) := by
  refine Met.ofW (cc := b_Mo_begins) (maxL := 1) (ret := none) (by decide) rfl ?_
  intro p e s m args below meth c s₁ B hml hv
  obtain ⟨rfl, hsz, ⟨hP, hK, hD0⟩, hE⟩ := hv
  have hx := B.exec
  have hb := B.bytes
  have hr := B.returns
  have hts0 := atoms_spec (ws := .code y_Mo_begins b_Mo_begins 1 none :: V_Mq) B.pre
  have hts : ∀ w ∈ V_Mq, w.before ([.ref M.o] : List Value).toArray s = true := fun w h => hts0 w (List.mem_cons_of_mem _ h)
  have hown : s.vm.findClass R_Mo = some m.cls := findClass_of_methodNamed B.named
  subst hsz
  have hD := hD0.self (sz := s.heap.size)
  generalize hAe : va_A (wM M S) s.heap.size = A at hD hE ⊢
  have hA : ∀ q : Nat, s.heap.size ≤ q → A q := fun q h => by rw [← hAe]; exact Or.inr h
  have hS : va_S A s.heap s.heap [] := va_S.rf
  have hP : va_P (dC, dI) classes (wM M S) s.heap := hP
  have hK : va_K (dC, dI) classes (tM M) s := hK
  have hEw : ∀ (H : Heap) (locs : List Loc), va_S A s.heap H locs → ∀ U : State, U.heap = H → s.WarmedH U.vm → E A U := fun H locs hS U hU hW => X.kept A s U H locs hE hS hU hW
  have hl := lv_entry ([.ref M.o]) (n := 1) (Nat.le_of_ble_eq_true rfl)
  rw [lg_entry_eq]
  generalize (lg_sl ([.ref M.o]) ++ List.replicate (1 - (lg_sl ([.ref M.o])).length) Slot.unset).toArray = ls at hl ⊢
  have hl : lv_has ls 1 [(0, .ref M.o)] := hl
  refine qabs (fun Q hQ => ?_)
  rw [f_Mo_begins] at h
  refine lv_aload_n hx hb d_Mo_begins_0 rfl (lv_at hl 0 rfl) ?_
  refine lv_sipush (v := 1024) hx hb d_Mo_begins_1 (by decide) ?_
  refine lv_aload_n hx hb d_Mo_begins_4 rfl (lv_at hl 0 rfl) ?_
  obtain ⟨r_1, S_1, hc_1, h⟩ := lf_cE h
  have hFc := lx_free hD hS hA
  refine va_calli (va_runV (As := []) (rest := [.int 1024, .ref M.o]) ⟨hx, hb, hml, hown, hts⟩ (l_Mo_build l dC dI X _ hc_1) (cwV 0 hts (gwV good_Mq (u_Mq_Mo _ k_Mo_415) (u_Mq_Mo _ k_Mo_416) (u_Mq_Mo _ k_Mo_539) (u_Mq_Mo _ k_Mo_0) (wcs (u_Mq_Mo _ k_Mo_417) (fun _ h => h))) rfl rfl rfl (by decide +kernel) ⟨Nat.le_of_ble_eq_true rfl, Nat.le_of_ble_eq_true rfl⟩) (pv_ofE (X.same _) (fun U z1 z2 => X.mono _ _ U hFc (hEw _ _ hS U z1 z2)) hP hK hD (va_recv hK hP (ci := 12) (q0 := 0) rfl rfl)) rfl rfl hl.1 rfl (lv_room (Nat.le_of_ble_eq_true rfl)) d_Mo_begins_5 ⟨by decide, by decide⟩) hS (fun q _ h => hFc q h) hFc (fun r_ u t H locs ht hvm hw hB hz1 hk1 hS => ?_)
  rw [hw]
  obtain ⟨hP, -, hD⟩ := hB
  rw [ht] at hP
  have hD := lx_dj hD hFc
  refine lv_imul hx hb d_Mo_begins_8 ?_
  refine va_put (D := (dC, dI)) (ci := 12) (v := .int (1024 * r_1)) (ty := .int) (C := R_Mo) (T := F_Mo) (N := 66) hx hb hts (fun w h => u_Mq_Mo w (i_Mo w h)) t_Mo t_Mo_ok n_Mo hown hK hP hD hS 0 rfl rfl 63 (by decide) (hts _ (u_Mq_Mo _ k_Mo_70)) (fun _ h9 => h9) rfl (by decide +kernel) rfl rfl (Nat.le_of_ble_eq_true rfl) d_Mo_begins_9 (fun H locs hP hD hS => ?_)
  obtain ⟨S_2, eS_2, h⟩ := lf_lX h
  have hP := lx_newP eS_2 hP
  have hD := lx_newD eS_2 hD
  refine lv_aload_n hx hb d_Mo_begins_12 rfl (lv_at hl 0 rfl) ?_
  refine lv_iconst (v := 0) hx hb d_Mo_begins_13 (by decide) ?_
  refine va_put (D := (dC, dI)) (ci := 12) (v := .int 0) (ty := .int) (C := R_Mo) (T := F_Mo) (N := 66) hx hb hts (fun w h => u_Mq_Mo w (i_Mo w h)) t_Mo t_Mo_ok n_Mo hown hK hP hD hS 0 rfl rfl 64 (by decide) (hts _ (u_Mq_Mo _ k_Mo_71)) (fun _ h9 => h9) rfl (by decide +kernel) rfl rfl (Nat.le_of_ble_eq_true rfl) d_Mo_begins_14 (fun H locs hP hD hS => ?_)
  obtain ⟨S_3, eS_3, h⟩ := lf_lX h
  have hP := lx_newP eS_3 hP
  have hD := lx_newD eS_3 hD
  rw [hQ]
  have e2 : S_3 = S' := Option.some.inj h
  have hP := lx_newP e2.symm hP
  have hD := lx_newD e2.symm hD
  exact W.vret hx hb hr (fun t ht hW => ⟨⟨(), rfl, trivial, by rw [ht]; exact hP, va_K.moved hW.alike hK, hD⟩, hS.F ht⟩) hS.2.2 d_Mo_begins_17
set_option maxHeartbeats 4000000 in
set_option maxRecDepth 100000 in
theorem l_Mo_entered (l : Launch) (dC : Nat → ClassId) (dI : Nat → Nat → Nat) {K : Nat} {M : MA} {E : (Nat → Prop) → State → Prop} (X : lx_X l dC dI K M E) (sz : Nat) {S S' : MS} {p0 : Int32} {p1 : Int32} {p2 : Int32} {p3 : Int32} {p4 : Int32} {r : Int32} (h : f_Mo_entered K S p0 p1 p2 p3 p4 = some (r, S')) : Met l y_Mo_entered (.code y_Mo_entered b_Mo_entered 10 (some .int) :: V_Mq) ({ frames := 8, cells := 0, slots := 0, locals := 247 }) (va_Pc [.ref M.o, .int p0, .int p1, .int p2, .int p3, .int p4] (fun U => U.heap.size = sz ∧ at_ (dC, dI) (fun _ => True) (wM M S) (tM M) U ∧ E (va_A (wM M S) sz) U)) (va_Qi (fun (r_ : Int32) (u : Unit) => r_ = r) (fun (u : Unit) t => at_ (dC, dI) (va_A (wM M S) sz) (wM M S') (tM M) t) (va_A (wM M S) sz)) 0 0 (va_A (wM M S) sz) := by
  refine Met.ofW (cc := b_Mo_entered) (maxL := 10) (ret := (some .int)) (by decide) rfl ?_
  intro p e s m args below meth c s₁ B hml hv
  obtain ⟨rfl, hsz, ⟨hP, hK, hD0⟩, hE⟩ := hv
  have hx := B.exec
  have hb := B.bytes
  have hr := B.returns
  have hts0 := atoms_spec (ws := .code y_Mo_entered b_Mo_entered 10 (some .int) :: V_Mq) B.pre
  have hts : ∀ w ∈ V_Mq, w.before ([.ref M.o, .int p0, .int p1, .int p2, .int p3, .int p4] : List Value).toArray s = true := fun w h => hts0 w (List.mem_cons_of_mem _ h)
  have hown : s.vm.findClass R_Mo = some m.cls := findClass_of_methodNamed B.named
  subst hsz
  have hD := hD0.self (sz := s.heap.size)
  generalize hAe : va_A (wM M S) s.heap.size = A at hD hE ⊢
  have hA : ∀ q : Nat, s.heap.size ≤ q → A q := fun q h => by rw [← hAe]; exact Or.inr h
  have hS : va_S A s.heap s.heap [] := va_S.rf
  have hP : va_P (dC, dI) classes (wM M S) s.heap := hP
  have hK : va_K (dC, dI) classes (tM M) s := hK
  have hEw : ∀ (H : Heap) (locs : List Loc), va_S A s.heap H locs → ∀ U : State, U.heap = H → s.WarmedH U.vm → E A U := fun H locs hS U hU hW => X.kept A s U H locs hE hS hU hW
  have hl := lv_entry ([.ref M.o, .int p0, .int p1, .int p2, .int p3, .int p4]) (n := 10) (Nat.le_of_ble_eq_true rfl)
  rw [lg_entry_eq]
  generalize (lg_sl ([.ref M.o, .int p0, .int p1, .int p2, .int p3, .int p4]) ++ List.replicate (10 - (lg_sl ([.ref M.o, .int p0, .int p1, .int p2, .int p3, .int p4])).length) Slot.unset).toArray = ls at hl ⊢
  have hl : lv_has ls 10 [(0, .ref M.o), (1, .int p0), (2, .int p1), (3, .int p2), (4, .int p3), (5, .int p4)] := hl
  refine qabs (fun Q hQ => ?_)
  have hB_173 : ∀ (rec_137 : Int32 → Int32 → Int32 → Int32 → Int32 → Int32 → MS → Option (Int32 × MS)) (hr_137 : ∀ (y_3 : Int32) (y_5 : Int32) (y_6 : Int32) (y_7 : Int32) (y_8 : Int32) (y_9 : Int32) (S : MS) (H : Heap) (locs : List Loc) (ls : Array Slot), rec_137 y_3 y_5 y_6 y_7 y_8 y_9 S = some (r, S') → va_P (dC, dI) classes (wM M S) H → va_D A (wM M S) → va_S A s.heap H locs → lv_has ls 10 [(0, .ref M.o), (3, .int y_3), (5, .int y_5), (6, .int y_6), (7, .int y_7), (8, .int y_8), (9, .int y_9)] → W p l e ({ frames := 8, cells := 0, slots := 0, locals := 247 }) s m ([.ref M.o, .int p0, .int p1, .int p2, .int p3, .int p4] : List Value).toArray below meth c H locs 0 0 Q (F0 m 137 ls [])), ∀ (y_3 : Int32) (y_5 : Int32) (y_6 : Int32) (y_7 : Int32) (y_8 : Int32) (y_9 : Int32) (z_1 : Int32) (z_2 : Int32) (S : MS) (H : Heap) (locs : List Loc) (ls : Array Slot), f_Mo_entered_173 K rec_137 y_3 y_5 y_6 y_7 y_8 y_9 z_1 z_2 S = some (r, S') → va_P (dC, dI) classes (wM M S) H → va_D A (wM M S) → va_S A s.heap H locs → lv_has ls 10 [(0, .ref M.o), (3, .int y_3), (5, .int y_5), (6, .int y_6), (7, .int y_7), (8, .int y_8), (9, .int y_9)] → W p l e ({ frames := 8, cells := 0, slots := 0, locals := 247 }) s m ([.ref M.o, .int p0, .int p1, .int p2, .int p3, .int p4] : List Value).toArray below meth c H locs 0 0 Q (F0 m 173 ls [.int z_2, .int z_1, .ref M.a_fresh]) := by
    intro rec_137 hr_137 y_3 y_5 y_6 y_7 y_8 y_9 z_1 z_2 S H locs ls h hP hD hS hl
    rw [f_Mo_entered_173] at h
    refine lv_i2b hx hb d_Mo_entered_173 rfl ?_
    obtain ⟨g_19, h⟩ := lf_gE h
    refine va_bast hx hb hK hP hD hS 2 1 rfl rfl g_19 d_Mo_entered_174 (fun H locs hP hD hS => ?_)
    obtain ⟨S_20, eS_20, h⟩ := lf_lX h
    have hP := lx_newP eS_20 hP
    have hD := lx_newD eS_20 hD
    obtain ⟨x_21, ex_21, h⟩ := lf_lX h
    refine lv_iinc (v := x_21) (lv' := [(9, .int x_21), (0, .ref M.o), (3, .int y_3), (5, .int y_5), (6, .int y_6), (7, .int y_7), (8, .int y_8)]) hx hb d_Mo_entered_175 hl (k := 6) rfl (by rw [ex_21]; rfl) (by decide) rfl (fun ls hl => ?_)
    refine lv_goto (tgt := 137) hx hb d_Mo_entered_178 (by decide) ?_
    exact hr_137 y_3 y_5 y_6 y_7 y_8 x_21 S_20 _ _ _ h hP hD hS (lv_sub hl [1, 2, 3, 4, 5, 6, 0] rfl)
  have hB_137 : ∀ (k : Nat), ∀ (y_3 : Int32) (y_5 : Int32) (y_6 : Int32) (y_7 : Int32) (y_8 : Int32) (y_9 : Int32) (S : MS) (H : Heap) (locs : List Loc) (ls : Array Slot), f_Mo_entered_137 K k y_3 y_5 y_6 y_7 y_8 y_9 S = some (r, S') → va_P (dC, dI) classes (wM M S) H → va_D A (wM M S) → va_S A s.heap H locs → lv_has ls 10 [(0, .ref M.o), (3, .int y_3), (5, .int y_5), (6, .int y_6), (7, .int y_7), (8, .int y_8), (9, .int y_9)] → W p l e ({ frames := 8, cells := 0, slots := 0, locals := 247 }) s m ([.ref M.o, .int p0, .int p1, .int p2, .int p3, .int p4] : List Value).toArray below meth c H locs 0 0 Q (F0 m 137 ls []) := by
    intro k
    induction k with
    | zero => intro y_3 y_5 y_6 y_7 y_8 y_9 S H locs ls h; exact lf_no h
    | succ k hr_137 =>
      intro y_3 y_5 y_6 y_7 y_8 y_9 S H locs ls h hP hD hS hl
      rw [f_Mo_entered_137] at h
      refine lv_iload hx hb d_Mo_entered_137 (lv_at hl 6 rfl) ?_
      refine lv_iload hx hb d_Mo_entered_139 (lv_at hl 2 rfl) ?_
      refine lv_icmp_ge (tgt := 181) hx hb d_Mo_entered_141 (by decide) (fun c_14 => ?_) (fun c_14 => ?_)
      · have h := lf_t h c_14
        refine lv_aload_n hx hb d_Mo_entered_181 rfl (lv_at hl 0 rfl) ?_
        refine lv_aload_n hx hb d_Mo_entered_182 rfl (lv_at hl 0 rfl) ?_
        refine va_get (D := (dC, dI)) (ci := 12) (v := .int S.v_filled) (C := R_Mo) (T := F_Mo) (N := 66) hx hb hts (fun w h => u_Mq_Mo w (i_Mo w h)) hown hK hP 0 rfl rfl 64 (by decide) (hts _ (u_Mq_Mo _ k_Mo_71)) (fun _ h9 => h9) rfl d_Mo_entered_183 ?_
        refine va_put (D := (dC, dI)) (ci := 12) (v := .int S.v_filled) (ty := .int) (C := R_Mo) (T := F_Mo) (N := 66) hx hb hts (fun w h => u_Mq_Mo w (i_Mo w h)) t_Mo t_Mo_ok n_Mo hown hK hP hD hS 0 rfl rfl 65 (by decide) (hts _ (u_Mq_Mo _ k_Mo_72)) (fun _ h9 => h9) rfl (by decide +kernel) rfl rfl (Nat.le_of_ble_eq_true rfl) d_Mo_entered_186 (fun H locs hP hD hS => ?_)
        obtain ⟨S_15, eS_15, h⟩ := lf_lX h
        have hP := lx_newP eS_15 hP
        have hD := lx_newD eS_15 hD
        refine lv_aload_n hx hb d_Mo_entered_189 rfl (lv_at hl 0 rfl) ?_
        refine lv_dup hx hb d_Mo_entered_190 rfl ?_
        refine va_get (D := (dC, dI)) (ci := 12) (v := .int S_15.v_filled) (C := R_Mo) (T := F_Mo) (N := 66) hx hb hts (fun w h => u_Mq_Mo w (i_Mo w h)) hown hK hP 0 rfl rfl 64 (by decide) (hts _ (u_Mq_Mo _ k_Mo_71)) (fun _ h9 => h9) rfl d_Mo_entered_191 ?_
        refine lv_iload hx hb d_Mo_entered_194 (lv_at hl 3 rfl) ?_
        refine lv_iadd hx hb d_Mo_entered_196 ?_
        refine va_put (D := (dC, dI)) (ci := 12) (v := .int (S_15.v_filled + y_6)) (ty := .int) (C := R_Mo) (T := F_Mo) (N := 66) hx hb hts (fun w h => u_Mq_Mo w (i_Mo w h)) t_Mo t_Mo_ok n_Mo hown hK hP hD hS 0 rfl rfl 64 (by decide) (hts _ (u_Mq_Mo _ k_Mo_71)) (fun _ h9 => h9) rfl (by decide +kernel) rfl rfl (Nat.le_of_ble_eq_true rfl) d_Mo_entered_197 (fun H locs hP hD hS => ?_)
        obtain ⟨S_16, eS_16, h⟩ := lf_lX h
        have hP := lx_newP eS_16 hP
        have hD := lx_newD eS_16 hD
        refine lv_iload hx hb d_Mo_entered_200 (lv_at hl 4 rfl) ?_
        rw [hQ]
        have e1 : y_7 = r := congrArg Prod.fst (Option.some.inj h)
        have e2 : S_16 = S' := congrArg Prod.snd (Option.some.inj h)
        have hP := lx_newP e2.symm hP
        have hD := lx_newD e2.symm hD
        exact W.iret (v := y_7) hx hb hr (fun t ht hW => ⟨⟨y_7, (), rfl, e1, by rw [ht]; exact hP, va_K.moved hW.alike hK, hD⟩, hS.F ht⟩) hS.2.2 d_Mo_entered_202
      · have h := lf_f h c_14
        refine lv_aload_n hx hb d_Mo_entered_144 rfl (lv_at hl 0 rfl) ?_
        refine va_get (D := (dC, dI)) (ci := 12) (v := .ref M.a_fresh) (C := R_Mo) (T := F_Mo) (N := 66) hx hb hts (fun w h => u_Mq_Mo w (i_Mo w h)) hown hK hP 0 rfl rfl 2 (by decide) (hts _ (u_Mq_Mo _ k_Mo_9)) (fun _ h9 => h9) rfl d_Mo_entered_145 ?_
        refine lv_iload hx hb d_Mo_entered_148 (lv_at hl 5 rfl) ?_
        refine lv_bipush (v := 8) hx hb d_Mo_entered_150 (by decide) ?_
        refine lv_iadd hx hb d_Mo_entered_152 ?_
        refine lv_iload hx hb d_Mo_entered_153 (lv_at hl 6 rfl) ?_
        refine lv_iadd hx hb d_Mo_entered_155 ?_
        refine lv_iload_n hx hb d_Mo_entered_156 rfl (lv_at hl 1 rfl) ?_
        refine lv_iconst (v := (-1)) hx hb d_Mo_entered_157 (by decide) ?_
        refine lv_icmp_ge (tgt := 166) hx hb d_Mo_entered_158 (by decide) (fun c_17 => ?_) (fun c_17 => ?_)
        · have h := lf_t h c_17
          refine lv_aload_n hx hb d_Mo_entered_166 rfl (lv_at hl 0 rfl) ?_
          refine lv_iload_n hx hb d_Mo_entered_167 rfl (lv_at hl 1 rfl) ?_
          refine lv_iload hx hb d_Mo_entered_168 (lv_at hl 6 rfl) ?_
          obtain ⟨r_18, S_18, hc_18, h⟩ := lf_cE h
          have hFc := lx_free hD hS hA
          refine va_calli (va_runV (As := [.int y_3, .int y_9]) (rest := [.int ((y_8 + 8) + y_9), .ref M.a_fresh]) ⟨hx, hb, hml, hown, hts⟩ (l_Mo_text l dC dI X _ hc_18) (cwV 2 hts (gwV good_Mq (u_Mq_Mo _ k_Mo_258) (u_Mq_Mo _ k_Mo_259) (u_Mq_Mo _ k_Mo_513) (u_Mq_Mo _ k_Mo_0) (wcs (u_Mq_Mo _ k_Mo_260) (fun _ h => h))) rfl rfl rfl (by decide +kernel) ⟨Nat.le_of_ble_eq_true rfl, Nat.le_of_ble_eq_true rfl⟩) (pv_ofE (X.same _) (fun U z1 z2 => X.mono _ _ U hFc (hEw _ _ hS U z1 z2)) hP hK hD (va_recv hK hP (ci := 12) (q0 := 0) rfl rfl)) rfl rfl hl.1 rfl (lv_room (Nat.le_of_ble_eq_true rfl)) d_Mo_entered_170 ⟨by decide, by decide⟩) hS (fun q _ h => hFc q h) hFc (fun r_ u t H locs ht hvm hw hB hz1 hk1 hS => ?_)
          rw [hw]
          obtain ⟨hP, -, hD⟩ := hB
          rw [ht] at hP
          have hD := lx_dj hD hFc
          exact hB_173 _ hr_137 y_3 y_5 y_6 y_7 y_8 y_9 ((y_8 + 8) + y_9) r_18 S_18 _ _ _ h hP hD hS (lv_sub hl [0, 1, 2, 3, 4, 5, 6] rfl)
        · have h := lf_f h c_17
          refine lv_bipush (v := 46) hx hb d_Mo_entered_161 (by decide) ?_
          refine lv_goto (tgt := 173) hx hb d_Mo_entered_163 (by decide) ?_
          exact hB_173 _ hr_137 y_3 y_5 y_6 y_7 y_8 y_9 ((y_8 + 8) + y_9) 46 S _ _ _ h hP hD hS (lv_sub hl [0, 1, 2, 3, 4, 5, 6] rfl)
  have hB_76 : ∀ (y_2 : Int32) (y_3 : Int32) (y_4 : Int32) (y_5 : Int32) (y_6 : Int32) (y_7 : Int32) (S : MS) (H : Heap) (locs : List Loc) (ls : Array Slot), f_Mo_entered_76 K y_2 y_3 y_4 y_5 y_6 y_7 S = some (r, S') → va_P (dC, dI) classes (wM M S) H → va_D A (wM M S) → va_S A s.heap H locs → lv_has ls 10 [(0, .ref M.o), (2, .int y_2), (3, .int y_3), (4, .int y_4), (5, .int y_5), (6, .int y_6), (7, .int y_7)] → W p l e ({ frames := 8, cells := 0, slots := 0, locals := 247 }) s m ([.ref M.o, .int p0, .int p1, .int p2, .int p3, .int p4] : List Value).toArray below meth c H locs 0 0 Q (F0 m 76 ls []) := by
    intro y_2 y_3 y_4 y_5 y_6 y_7 S H locs ls h hP hD hS hl
    rw [f_Mo_entered_76] at h
    refine lv_aload_n hx hb d_Mo_entered_76 rfl (lv_at hl 0 rfl) ?_
    refine va_get (D := (dC, dI)) (ci := 12) (v := .int S.v_spot) (C := R_Mo) (T := F_Mo) (N := 66) hx hb hts (fun w h => u_Mq_Mo w (i_Mo w h)) hown hK hP 0 rfl rfl 63 (by decide) (hts _ (u_Mq_Mo _ k_Mo_70)) (fun _ h9 => h9) rfl d_Mo_entered_77 ?_
    refine lv_aload_n hx hb d_Mo_entered_80 rfl (lv_at hl 0 rfl) ?_
    refine va_get (D := (dC, dI)) (ci := 12) (v := .int S.v_filled) (C := R_Mo) (T := F_Mo) (N := 66) hx hb hts (fun w h => u_Mq_Mo w (i_Mo w h)) hown hK hP 0 rfl rfl 64 (by decide) (hts _ (u_Mq_Mo _ k_Mo_71)) (fun _ h9 => h9) rfl d_Mo_entered_81 ?_
    refine lv_iadd hx hb d_Mo_entered_84 ?_
    refine lv_topi (fun x_9 ex_9 => ?_)
    have h := lf_lE h ex_9
    refine lv_istore (lv' := [(8, .int x_9), (0, .ref M.o), (2, .int y_2), (3, .int y_3), (4, .int y_4), (5, .int y_5), (6, .int y_6), (7, .int y_7)]) hx hb d_Mo_entered_85 hl (by decide) rfl (fun ls hl => ?_)
    refine lv_aload_n hx hb d_Mo_entered_87 rfl (lv_at hl 1 rfl) ?_
    refine lv_iload hx hb d_Mo_entered_88 (lv_at hl 0 rfl) ?_
    refine lv_iconst (v := 4) hx hb d_Mo_entered_90 (by decide) ?_
    refine lv_iload_n hx hb d_Mo_entered_91 rfl (lv_at hl 2 rfl) ?_
    refine lv_i2l hx hb d_Mo_entered_92 rfl ?_
    obtain ⟨S_10, hc_10, h⟩ := lf_bE h
    have hFc := lx_free hD hS hA
    refine va_callv (va_runV (As := [.int x_9, .int 4, .long y_2.toInt64]) (rest := []) ⟨hx, hb, hml, hown, hts⟩ (l_Mo_lay l dC dI X _ hc_10) (cwV 3 hts (gwV good_Mq (u_Mq_Mo _ k_Mo_418) (u_Mq_Mo _ k_Mo_419) (u_Mq_Mo _ k_Mo_538) (u_Mq_Mo _ k_Mo_0) (wcs (u_Mq_Mo _ k_Mo_420) (fun _ h => h))) rfl rfl rfl (by decide +kernel) ⟨Nat.le_of_ble_eq_true rfl, Nat.le_of_ble_eq_true rfl⟩) (pv_ofE (X.same _) (fun U z1 z2 => X.mono _ _ U hFc (hEw _ _ hS U z1 z2)) hP hK hD (va_recv hK hP (ci := 12) (q0 := 0) rfl rfl)) rfl rfl hl.1 rfl (lv_room (Nat.le_of_ble_eq_true rfl)) d_Mo_entered_93 ⟨by decide, by decide⟩) hS (fun q _ h => hFc q h) hFc (fun u t H locs ht hvm hw hB hz1 hk1 hS => ?_)
    obtain ⟨hP, -, hD⟩ := hB
    rw [ht] at hP
    have hD := lx_dj hD hFc
    refine lv_aload_n hx hb d_Mo_entered_96 rfl (lv_at hl 1 rfl) ?_
    refine lv_iload hx hb d_Mo_entered_97 (lv_at hl 0 rfl) ?_
    refine lv_iconst (v := 4) hx hb d_Mo_entered_99 (by decide) ?_
    refine lv_iadd hx hb d_Mo_entered_100 ?_
    refine lv_iconst (v := 2) hx hb d_Mo_entered_101 (by decide) ?_
    refine lv_iload hx hb d_Mo_entered_102 (lv_at hl 6 rfl) ?_
    refine lv_i2l hx hb d_Mo_entered_104 rfl ?_
    obtain ⟨S_11, hc_11, h⟩ := lf_bE h
    have hFc := lx_free hD hS hA
    refine va_callv (va_runV (As := [.int (x_9 + 4), .int 2, .long y_6.toInt64]) (rest := []) ⟨hx, hb, hml, hown, hts⟩ (l_Mo_lay l dC dI X _ hc_11) (cwV 3 hts (gwV good_Mq (u_Mq_Mo _ k_Mo_418) (u_Mq_Mo _ k_Mo_419) (u_Mq_Mo _ k_Mo_538) (u_Mq_Mo _ k_Mo_0) (wcs (u_Mq_Mo _ k_Mo_420) (fun _ h => h))) rfl rfl rfl (by decide +kernel) ⟨Nat.le_of_ble_eq_true rfl, Nat.le_of_ble_eq_true rfl⟩) (pv_ofE (X.same _) (fun U z1 z2 => X.mono _ _ U hFc (hEw _ _ hS U z1 z2)) hP hK hD (va_recv hK hP (ci := 12) (q0 := 0) rfl rfl)) rfl rfl hl.1 rfl (lv_room (Nat.le_of_ble_eq_true rfl)) d_Mo_entered_105 ⟨by decide, by decide⟩) hS (fun q _ h => hFc q h) hFc (fun u t H locs ht hvm hw hB hz1 hk1 hS => ?_)
    obtain ⟨hP, -, hD⟩ := hB
    rw [ht] at hP
    have hD := lx_dj hD hFc
    refine lv_aload_n hx hb d_Mo_entered_108 rfl (lv_at hl 1 rfl) ?_
    refine lv_iload hx hb d_Mo_entered_109 (lv_at hl 0 rfl) ?_
    refine lv_bipush (v := 6) hx hb d_Mo_entered_111 (by decide) ?_
    refine lv_iadd hx hb d_Mo_entered_113 ?_
    refine lv_iconst (v := 1) hx hb d_Mo_entered_114 (by decide) ?_
    refine lv_iload hx hb d_Mo_entered_115 (lv_at hl 5 rfl) ?_
    refine lv_i2l hx hb d_Mo_entered_117 rfl ?_
    obtain ⟨S_12, hc_12, h⟩ := lf_bE h
    have hFc := lx_free hD hS hA
    refine va_callv (va_runV (As := [.int (x_9 + 6), .int 1, .long y_5.toInt64]) (rest := []) ⟨hx, hb, hml, hown, hts⟩ (l_Mo_lay l dC dI X _ hc_12) (cwV 3 hts (gwV good_Mq (u_Mq_Mo _ k_Mo_418) (u_Mq_Mo _ k_Mo_419) (u_Mq_Mo _ k_Mo_538) (u_Mq_Mo _ k_Mo_0) (wcs (u_Mq_Mo _ k_Mo_420) (fun _ h => h))) rfl rfl rfl (by decide +kernel) ⟨Nat.le_of_ble_eq_true rfl, Nat.le_of_ble_eq_true rfl⟩) (pv_ofE (X.same _) (fun U z1 z2 => X.mono _ _ U hFc (hEw _ _ hS U z1 z2)) hP hK hD (va_recv hK hP (ci := 12) (q0 := 0) rfl rfl)) rfl rfl hl.1 rfl (lv_room (Nat.le_of_ble_eq_true rfl)) d_Mo_entered_118 ⟨by decide, by decide⟩) hS (fun q _ h => hFc q h) hFc (fun u t H locs ht hvm hw hB hz1 hk1 hS => ?_)
    obtain ⟨hP, -, hD⟩ := hB
    rw [ht] at hP
    have hD := lx_dj hD hFc
    refine lv_aload_n hx hb d_Mo_entered_121 rfl (lv_at hl 1 rfl) ?_
    refine lv_iload hx hb d_Mo_entered_122 (lv_at hl 0 rfl) ?_
    refine lv_bipush (v := 7) hx hb d_Mo_entered_124 (by decide) ?_
    refine lv_iadd hx hb d_Mo_entered_126 ?_
    refine lv_iconst (v := 1) hx hb d_Mo_entered_127 (by decide) ?_
    refine lv_iload hx hb d_Mo_entered_128 (lv_at hl 4 rfl) ?_
    refine lv_i2l hx hb d_Mo_entered_130 rfl ?_
    obtain ⟨S_13, hc_13, h⟩ := lf_bE h
    have hFc := lx_free hD hS hA
    refine va_callv (va_runV (As := [.int (x_9 + 7), .int 1, .long y_4.toInt64]) (rest := []) ⟨hx, hb, hml, hown, hts⟩ (l_Mo_lay l dC dI X _ hc_13) (cwV 3 hts (gwV good_Mq (u_Mq_Mo _ k_Mo_418) (u_Mq_Mo _ k_Mo_419) (u_Mq_Mo _ k_Mo_538) (u_Mq_Mo _ k_Mo_0) (wcs (u_Mq_Mo _ k_Mo_420) (fun _ h => h))) rfl rfl rfl (by decide +kernel) ⟨Nat.le_of_ble_eq_true rfl, Nat.le_of_ble_eq_true rfl⟩) (pv_ofE (X.same _) (fun U z1 z2 => X.mono _ _ U hFc (hEw _ _ hS U z1 z2)) hP hK hD (va_recv hK hP (ci := 12) (q0 := 0) rfl rfl)) rfl rfl hl.1 rfl (lv_room (Nat.le_of_ble_eq_true rfl)) d_Mo_entered_131 ⟨by decide, by decide⟩) hS (fun q _ h => hFc q h) hFc (fun u t H locs ht hvm hw hB hz1 hk1 hS => ?_)
    obtain ⟨hP, -, hD⟩ := hB
    rw [ht] at hP
    have hD := lx_dj hD hFc
    refine lv_iconst (v := 0) hx hb d_Mo_entered_134 (by decide) ?_
    refine lv_istore (lv' := [(9, .int 0), (8, .int x_9), (0, .ref M.o), (2, .int y_2), (3, .int y_3), (4, .int y_4), (5, .int y_5), (6, .int y_6), (7, .int y_7)]) hx hb d_Mo_entered_135 hl (by decide) rfl (fun ls hl => ?_)
    exact hB_137 K y_3 y_5 y_6 y_7 x_9 0 S_13 _ _ _ h hP hD hS (lv_sub hl [2, 4, 6, 7, 8, 1, 0] rfl)
  rw [f_Mo_entered] at h
  refine lv_bipush (v := 8) hx hb d_Mo_entered_0 (by decide) ?_
  refine lv_iload hx hb d_Mo_entered_2 (lv_at hl 5 rfl) ?_
  refine lv_iconst (v := 4) hx hb d_Mo_entered_4 (by decide) ?_
  obtain ⟨r_1, hc_1, h⟩ := lf_bE h
  have hFc := lx_free0 hS hA
  refine va_calli (va_runS (As := [.int p4, .int 4]) (rest := [.int 8]) ⟨hx, hb, hml, hown, hts⟩ (l_Mo_whole l dC dI  _ hc_1) (va_cwS 2 hts (gwS good_Mq (u_Mq_Mo _ k_Mo_178) (u_Mq_Mo _ k_Mo_179) (u_Mq_Mo _ k_Mo_0) (wcs (u_Mq_Mo _ k_Mo_180) (fun _ h => h))) rfl rfl rfl (by decide +kernel) ⟨Nat.le_of_ble_eq_true rfl, Nat.le_of_ble_eq_true rfl⟩) (ps_of (W := []) (tys := []) (hP.sub (ws' := []) [] rfl) (hK.sub [] rfl) (hD.sub (ws' := []) [] (by decide) rfl)) rfl rfl hl.1 rfl (lv_room (Nat.le_of_ble_eq_true rfl)) d_Mo_entered_5 ⟨by decide, by decide⟩) hS (fun q _ h => hFc q h) hFc (fun r_ u t H locs ht hvm hw hB hz1 hk1 hS => ?_)
  rw [hw]
  have hP := lx_stat (A := A) hP hk1
  refine lv_iconst (v := 4) hx hb d_Mo_entered_8 (by decide) ?_
  refine lv_imul hx hb d_Mo_entered_9 ?_
  refine lv_iadd hx hb d_Mo_entered_10 ?_
  refine lv_topi (fun x_2 ex_2 => ?_)
  have h := lf_lE h ex_2
  refine lv_istore (lv' := [(6, .int x_2), (0, .ref M.o), (1, .int p0), (2, .int p1), (3, .int p2), (4, .int p3), (5, .int p4)]) hx hb d_Mo_entered_11 hl (by decide) rfl (fun ls hl => ?_)
  refine lv_iload_n hx hb d_Mo_entered_13 rfl (lv_at hl 2 rfl) ?_
  refine lv_istore (lv' := [(7, .int p0), (6, .int x_2), (0, .ref M.o), (1, .int p0), (2, .int p1), (3, .int p2), (4, .int p3), (5, .int p4)]) hx hb d_Mo_entered_14 hl (by decide) rfl (fun ls hl => ?_)
  refine lv_aload_n hx hb d_Mo_entered_16 rfl (lv_at hl 2 rfl) ?_
  refine va_get (D := (dC, dI)) (ci := 12) (v := .int S.v_filled) (C := R_Mo) (T := F_Mo) (N := 66) hx hb hts (fun w h => u_Mq_Mo w (i_Mo w h)) hown hK hP 0 rfl rfl 64 (by decide) (hts _ (u_Mq_Mo _ k_Mo_71)) (fun _ h9 => h9) rfl d_Mo_entered_17 ?_
  refine lv_iload hx hb d_Mo_entered_20 (lv_at hl 1 rfl) ?_
  refine lv_iadd hx hb d_Mo_entered_22 ?_
  refine lv_sipush (v := 1024) hx hb d_Mo_entered_23 (by decide) ?_
  refine lv_icmp_le (tgt := 76) hx hb d_Mo_entered_26 (by decide) (fun c_3 => ?_) (fun c_3 => ?_)
  · have h := lf_t h c_3
    exact hB_76 p1 p2 p3 p4 x_2 p0 S _ _ _ h hP hD hS (lv_sub hl [2, 4, 5, 6, 7, 1, 0] rfl)
  · have h := lf_f h c_3
    refine lv_aload_n hx hb d_Mo_entered_29 rfl (lv_at hl 2 rfl) ?_
    refine lv_aload_n hx hb d_Mo_entered_30 rfl (lv_at hl 2 rfl) ?_
    refine va_get (D := (dC, dI)) (ci := 12) (v := .int S.v_spot) (C := R_Mo) (T := F_Mo) (N := 66) hx hb hts (fun w h => u_Mq_Mo w (i_Mo w h)) hown hK hP 0 rfl rfl 63 (by decide) (hts _ (u_Mq_Mo _ k_Mo_70)) (fun _ h9 => h9) rfl d_Mo_entered_31 ?_
    refine lv_aload_n hx hb d_Mo_entered_34 rfl (lv_at hl 2 rfl) ?_
    refine va_get (D := (dC, dI)) (ci := 12) (v := .int S.v_latest) (C := R_Mo) (T := F_Mo) (N := 66) hx hb hts (fun w h => u_Mq_Mo w (i_Mo w h)) hown hK hP 0 rfl rfl 65 (by decide) (hts _ (u_Mq_Mo _ k_Mo_72)) (fun _ h9 => h9) rfl d_Mo_entered_35 ?_
    refine lv_iadd hx hb d_Mo_entered_38 ?_
    refine lv_iconst (v := 4) hx hb d_Mo_entered_39 (by decide) ?_
    refine lv_iadd hx hb d_Mo_entered_40 ?_
    refine lv_iconst (v := 2) hx hb d_Mo_entered_41 (by decide) ?_
    refine lv_sipush (v := 1024) hx hb d_Mo_entered_42 (by decide) ?_
    refine lv_aload_n hx hb d_Mo_entered_45 rfl (lv_at hl 2 rfl) ?_
    refine va_get (D := (dC, dI)) (ci := 12) (v := .int S.v_latest) (C := R_Mo) (T := F_Mo) (N := 66) hx hb hts (fun w h => u_Mq_Mo w (i_Mo w h)) hown hK hP 0 rfl rfl 65 (by decide) (hts _ (u_Mq_Mo _ k_Mo_72)) (fun _ h9 => h9) rfl d_Mo_entered_46 ?_
    refine lv_isub hx hb d_Mo_entered_49 ?_
    refine lv_i2l hx hb d_Mo_entered_50 rfl ?_
    obtain ⟨S_4, hc_4, h⟩ := lf_bE h
    have hFc := lx_free hD hS hA
    refine va_callv (va_runV (As := [.int ((S.v_spot + S.v_latest) + 4), .int 2, .long ((1024 - S.v_latest).toInt64)]) (rest := []) ⟨hx, hb, hml, hown, hts⟩ (l_Mo_lay l dC dI X _ hc_4) (cwV 3 hts (gwV good_Mq (u_Mq_Mo _ k_Mo_418) (u_Mq_Mo _ k_Mo_419) (u_Mq_Mo _ k_Mo_538) (u_Mq_Mo _ k_Mo_0) (wcs (u_Mq_Mo _ k_Mo_420) (fun _ h => h))) rfl rfl rfl (by decide +kernel) ⟨Nat.le_of_ble_eq_true rfl, Nat.le_of_ble_eq_true rfl⟩) (pv_ofE (X.same _) (fun U z1 z2 => X.mono _ _ U hFc (hEw _ _ hS U z1 z2)) hP hK hD (va_recv hK hP (ci := 12) (q0 := 0) rfl rfl)) rfl rfl hl.1 rfl (lv_room (Nat.le_of_ble_eq_true rfl)) d_Mo_entered_51 ⟨by decide, by decide⟩) hS (fun q _ h => hFc q h) hFc (fun u t H locs ht hvm hw hB hz1 hk1 hS => ?_)
    obtain ⟨hP, -, hD⟩ := hB
    rw [ht] at hP
    have hD := lx_dj hD hFc
    refine lv_aload_n hx hb d_Mo_entered_54 rfl (lv_at hl 2 rfl) ?_
    obtain ⟨S_5, hc_5, h⟩ := lf_bE h
    have hFc := lx_free hD hS hA
    refine va_callv (va_runV (As := []) (rest := []) ⟨hx, hb, hml, hown, hts⟩ (l_Mo_begins l dC dI X _ hc_5) (cwV 0 hts (gwV good_Mq (u_Mq_Mo _ k_Mo_437) (u_Mq_Mo _ k_Mo_438) (u_Mq_Mo _ k_Mo_547) (u_Mq_Mo _ k_Mo_0) (wcs (u_Mq_Mo _ k_Mo_439) (fun _ h => h))) rfl rfl rfl (by decide +kernel) ⟨Nat.le_of_ble_eq_true rfl, Nat.le_of_ble_eq_true rfl⟩) (pv_ofE (X.same _) (fun U z1 z2 => X.mono _ _ U hFc (hEw _ _ hS U z1 z2)) hP hK hD (va_recv hK hP (ci := 12) (q0 := 0) rfl rfl)) rfl rfl hl.1 rfl (lv_room (Nat.le_of_ble_eq_true rfl)) d_Mo_entered_55 ⟨by decide, by decide⟩) hS (fun q _ h => hFc q h) hFc (fun u t H locs ht hvm hw hB hz1 hk1 hS => ?_)
    obtain ⟨hP, -, hD⟩ := hB
    rw [ht] at hP
    have hD := lx_dj hD hFc
    refine lv_aload_n hx hb d_Mo_entered_58 rfl (lv_at hl 2 rfl) ?_
    refine va_get (D := (dC, dI)) (ci := 12) (v := .ref M.a_list) (C := R_Mo) (T := F_Mo) (N := 66) hx hb hts (fun w h => u_Mq_Mo w (i_Mo w h)) hown hK hP 0 rfl rfl 62 (by decide) (hts _ (u_Mq_Mo _ k_Mo_69)) (fun _ h9 => h9) rfl d_Mo_entered_59 ?_
    refine lv_iload hx hb d_Mo_entered_62 (lv_at hl 0 rfl) ?_
    refine lv_aload_n hx hb d_Mo_entered_64 rfl (lv_at hl 2 rfl) ?_
    refine va_get (D := (dC, dI)) (ci := 12) (v := .int S_5.v_spot) (C := R_Mo) (T := F_Mo) (N := 66) hx hb hts (fun w h => u_Mq_Mo w (i_Mo w h)) hown hK hP 0 rfl rfl 63 (by decide) (hts _ (u_Mq_Mo _ k_Mo_70)) (fun _ h9 => h9) rfl d_Mo_entered_65 ?_
    refine lv_sipush (v := 1024) hx hb d_Mo_entered_68 (by decide) ?_
    refine lv_idiv hx hb d_Mo_entered_71 (by decide) ?_
    obtain ⟨g_6, h⟩ := lf_gE h
    refine va_iast hx hb hK hP hD hS 27 26 rfl rfl g_6 d_Mo_entered_72 (fun H locs hP hD hS => ?_)
    obtain ⟨S_7, eS_7, h⟩ := lf_lX h
    have hP := lx_newP eS_7 hP
    have hD := lx_newD eS_7 hD
    obtain ⟨x_8, ex_8, h⟩ := lf_lX h
    refine lv_iinc (v := x_8) (lv' := [(7, .int x_8), (6, .int x_2), (0, .ref M.o), (1, .int p0), (2, .int p1), (3, .int p2), (4, .int p3), (5, .int p4)]) hx hb d_Mo_entered_73 hl (k := 0) rfl (by rw [ex_8]; rfl) (by decide) rfl (fun ls hl => ?_)
    exact hB_76 p1 p2 p3 p4 x_2 x_8 S_7 _ _ _ h hP hD hS (lv_sub hl [2, 4, 5, 6, 7, 1, 0] rfl)
set_option maxHeartbeats 4000000 in
set_option maxRecDepth 100000 in
theorem l_Mo_makeFolder (l : Launch) (dC : Nat → ClassId) (dI : Nat → Nat → Nat) {K : Nat} {M : MA} {E : (Nat → Prop) → State → Prop} (X : lx_X l dC dI K M E) (sz : Nat) {S S' : MS} {p0 : Int32} (h : f_Mo_makeFolder K S p0 = some S') : Met l y_Mo_makeFolder (.code y_Mo_makeFolder b_Mo_makeFolder 5 none :: V_Mq) ({ frames := 9, cells := 0, slots := 0, locals := 276 }) (va_Pc [.ref M.o, .int p0] (fun U => U.heap.size = sz ∧ at_ (dC, dI) (fun _ => True) (wM M S) (tM M) U ∧ E (va_A (wM M S) sz) U)) (va_Qv (fun (u : Unit) => True) (fun (u : Unit) t => at_ (dC, dI) (va_A (wM M S) sz) (wM M S') (tM M) t) (va_A (wM M S) sz)) 0 0 (va_A (wM M S) sz) := by
  refine Met.ofW (cc := b_Mo_makeFolder) (maxL := 5) (ret := none) (by decide) rfl ?_
  intro p e s m args below meth c s₁ B hml hv
  obtain ⟨rfl, hsz, ⟨hP, hK, hD0⟩, hE⟩ := hv
  have hx := B.exec
  have hb := B.bytes
  have hr := B.returns
  have hts0 := atoms_spec (ws := .code y_Mo_makeFolder b_Mo_makeFolder 5 none :: V_Mq) B.pre
  have hts : ∀ w ∈ V_Mq, w.before ([.ref M.o, .int p0] : List Value).toArray s = true := fun w h => hts0 w (List.mem_cons_of_mem _ h)
  have hown : s.vm.findClass R_Mo = some m.cls := findClass_of_methodNamed B.named
  subst hsz
  have hD := hD0.self (sz := s.heap.size)
  generalize hAe : va_A (wM M S) s.heap.size = A at hD hE ⊢
  have hA : ∀ q : Nat, s.heap.size ≤ q → A q := fun q h => by rw [← hAe]; exact Or.inr h
  have hS : va_S A s.heap s.heap [] := va_S.rf
  have hP : va_P (dC, dI) classes (wM M S) s.heap := hP
  have hK : va_K (dC, dI) classes (tM M) s := hK
  have hEw : ∀ (H : Heap) (locs : List Loc), va_S A s.heap H locs → ∀ U : State, U.heap = H → s.WarmedH U.vm → E A U := fun H locs hS U hU hW => X.kept A s U H locs hE hS hU hW
  have hl := lv_entry ([.ref M.o, .int p0]) (n := 5) (Nat.le_of_ble_eq_true rfl)
  rw [lg_entry_eq]
  generalize (lg_sl ([.ref M.o, .int p0]) ++ List.replicate (5 - (lg_sl ([.ref M.o, .int p0])).length) Slot.unset).toArray = ls at hl ⊢
  have hl : lv_has ls 5 [(0, .ref M.o), (1, .int p0)] := hl
  refine qabs (fun Q hQ => ?_)
  have hB_130 : ∀ (rec_63 : Int32 → Int32 → Int32 → Int32 → MS → Option (MS)) (hr_63 : ∀ (y_1 : Int32) (y_2 : Int32) (y_3 : Int32) (y_4 : Int32) (S : MS) (H : Heap) (locs : List Loc) (ls : Array Slot), rec_63 y_1 y_2 y_3 y_4 S = some S' → va_P (dC, dI) classes (wM M S) H → va_D A (wM M S) → va_S A s.heap H locs → lv_has ls 5 [(0, .ref M.o), (1, .int y_1), (2, .int y_2), (3, .int y_3), (4, .int y_4)] → W p l e ({ frames := 9, cells := 0, slots := 0, locals := 276 }) s m ([.ref M.o, .int p0] : List Value).toArray below meth c H locs 0 0 Q (F0 m 63 ls [])), ∀ (y_1 : Int32) (y_2 : Int32) (y_4 : Int32) (z_0 : Int32) (z_1 : Int32) (S : MS) (H : Heap) (locs : List Loc) (ls : Array Slot), f_Mo_makeFolder_130 K rec_63 y_1 y_2 y_4 z_0 z_1 S = some S' → va_P (dC, dI) classes (wM M S) H → va_D A (wM M S) → va_S A s.heap H locs → lv_has ls 5 [(0, .ref M.o), (1, .int y_1), (2, .int y_2), (4, .int y_4)] → W p l e ({ frames := 9, cells := 0, slots := 0, locals := 276 }) s m ([.ref M.o, .int p0] : List Value).toArray below meth c H locs 0 0 Q (F0 m 130 ls [.int z_1, .int z_0]) := by
    intro rec_63 hr_63 y_1 y_2 y_4 z_0 z_1 S H locs ls h hP hD hS hl
    rw [f_Mo_makeFolder_130] at h
    refine lv_iadd hx hb d_Mo_makeFolder_130 ?_
    refine lv_topi (fun x_30 ex_30 => ?_)
    have h := lf_lE h ex_30
    refine lv_istore_n (lv' := [(3, .int x_30), (0, .ref M.o), (1, .int y_1), (2, .int y_2), (4, .int y_4)]) hx hb d_Mo_makeFolder_131 rfl hl (by decide) rfl (fun ls hl => ?_)
    obtain ⟨x_31, ex_31, h⟩ := lf_lX h
    refine lv_iinc (v := x_31) (lv' := [(4, .int x_31), (3, .int x_30), (0, .ref M.o), (1, .int y_1), (2, .int y_2)]) hx hb d_Mo_makeFolder_132 hl (k := 4) rfl (by rw [ex_31]; rfl) (by decide) rfl (fun ls hl => ?_)
    refine lv_goto (tgt := 63) hx hb d_Mo_makeFolder_135 (by decide) ?_
    exact hr_63 y_1 y_2 x_30 x_31 S _ _ _ h hP hD hS (lv_sub hl [2, 3, 4, 1, 0] rfl)
  have hB_105 : ∀ (rec_63 : Int32 → Int32 → Int32 → Int32 → MS → Option (MS)) (hr_63 : ∀ (y_1 : Int32) (y_2 : Int32) (y_3 : Int32) (y_4 : Int32) (S : MS) (H : Heap) (locs : List Loc) (ls : Array Slot), rec_63 y_1 y_2 y_3 y_4 S = some S' → va_P (dC, dI) classes (wM M S) H → va_D A (wM M S) → va_S A s.heap H locs → lv_has ls 5 [(0, .ref M.o), (1, .int y_1), (2, .int y_2), (3, .int y_3), (4, .int y_4)] → W p l e ({ frames := 9, cells := 0, slots := 0, locals := 276 }) s m ([.ref M.o, .int p0] : List Value).toArray below meth c H locs 0 0 Q (F0 m 63 ls [])), ∀ (y_1 : Int32) (y_3 : Int32) (y_4 : Int32) (z_1 : Int32) (z_2 : Int32) (z_3 : Int32) (z_4 : Int32) (S : MS) (H : Heap) (locs : List Loc) (ls : Array Slot), f_Mo_makeFolder_105 K rec_63 y_1 y_3 y_4 z_1 z_2 z_3 z_4 S = some S' → va_P (dC, dI) classes (wM M S) H → va_D A (wM M S) → va_S A s.heap H locs → lv_has ls 5 [(0, .ref M.o), (1, .int y_1), (3, .int y_3), (4, .int y_4)] → W p l e ({ frames := 9, cells := 0, slots := 0, locals := 276 }) s m ([.ref M.o, .int p0] : List Value).toArray below meth c H locs 0 0 Q (F0 m 105 ls [.int z_4, .int z_3, .int z_2, .int z_1, .ref M.o]) := by
    intro rec_63 hr_63 y_1 y_3 y_4 z_1 z_2 z_3 z_4 S H locs ls h hP hD hS hl
    rw [f_Mo_makeFolder_105] at h
    refine lv_aload_n hx hb d_Mo_makeFolder_105 rfl (lv_at hl 0 rfl) ?_
    refine lv_iload hx hb d_Mo_makeFolder_106 (lv_at hl 3 rfl) ?_
    obtain ⟨r_24, S_24, hc_24, h⟩ := lf_cE h
    have hFc := lx_free hD hS hA
    refine va_calli (va_runV (As := [.int y_4]) (rest := [.int z_4, .int z_3, .int z_2, .int z_1, .ref M.o]) ⟨hx, hb, hml, hown, hts⟩ (l_Mo_textSize l dC dI X _ hc_24) (cwV 1 hts (gwV good_Mq (u_Mq_Mo _ k_Mo_292) (u_Mq_Mo _ k_Mo_293) (u_Mq_Mo _ k_Mo_512) (u_Mq_Mo _ k_Mo_0) (wcs (u_Mq_Mo _ k_Mo_294) (fun _ h => h))) rfl rfl rfl (by decide +kernel) ⟨Nat.le_of_ble_eq_true rfl, Nat.le_of_ble_eq_true rfl⟩) (pv_ofE (X.same _) (fun U z1 z2 => X.mono _ _ U hFc (hEw _ _ hS U z1 z2)) hP hK hD (va_recv hK hP (ci := 12) (q0 := 0) rfl rfl)) rfl rfl hl.1 rfl (lv_room (Nat.le_of_ble_eq_true rfl)) d_Mo_makeFolder_108 ⟨by decide, by decide⟩) hS (fun q _ h => hFc q h) hFc (fun r_ u t H locs ht hvm hw hB hz1 hk1 hS => ?_)
    rw [hw]
    obtain ⟨hP, -, hD⟩ := hB
    rw [ht] at hP
    have hD := lx_dj hD hFc
    obtain ⟨r_25, S_25, hc_25, h⟩ := lf_cE h
    have hFc := lx_free hD hS hA
    refine va_calli (va_runV (As := [.int z_1, .int z_2, .int z_3, .int z_4, .int r_24]) (rest := []) ⟨hx, hb, hml, hown, hts⟩ (l_Mo_entered l dC dI X _ hc_25) (cwV 5 hts (gwV good_Mq (u_Mq_Mo _ k_Mo_443) (u_Mq_Mo _ k_Mo_444) (u_Mq_Mo _ k_Mo_548) (u_Mq_Mo _ k_Mo_0) (wcs (u_Mq_Mo _ k_Mo_445) (fun _ h => h))) rfl rfl rfl (by decide +kernel) ⟨Nat.le_of_ble_eq_true rfl, Nat.le_of_ble_eq_true rfl⟩) (pv_ofE (X.same _) (fun U z1 z2 => X.mono _ _ U hFc (hEw _ _ hS U z1 z2)) hP hK hD (va_recv hK hP (ci := 12) (q0 := 0) rfl rfl)) rfl rfl hl.1 rfl (lv_room (Nat.le_of_ble_eq_true rfl)) d_Mo_makeFolder_111 ⟨by decide, by decide⟩) hS (fun q _ h => hFc q h) hFc (fun r_ u t H locs ht hvm hw hB hz1 hk1 hS => ?_)
    rw [hw]
    obtain ⟨hP, -, hD⟩ := hB
    rw [ht] at hP
    have hD := lx_dj hD hFc
    refine lv_istore_n (lv' := [(2, .int r_25), (0, .ref M.o), (1, .int y_1), (3, .int y_3), (4, .int y_4)]) hx hb d_Mo_makeFolder_114 rfl hl (by decide) rfl (fun ls hl => ?_)
    refine lv_iload_n hx hb d_Mo_makeFolder_115 rfl (lv_at hl 3 rfl) ?_
    refine lv_aload_n hx hb d_Mo_makeFolder_116 rfl (lv_at hl 1 rfl) ?_
    refine lv_iload hx hb d_Mo_makeFolder_117 (lv_at hl 4 rfl) ?_
    obtain ⟨r_26, S_26, hc_26, h⟩ := lf_cE h
    have hFc := lx_free hD hS hA
    refine va_calli (va_runV (As := [.int y_4]) (rest := [.int y_3]) ⟨hx, hb, hml, hown, hts⟩ (l_Mo_isFolder l dC dI X _ hc_26) (cwV 1 hts (gwV good_Mq (u_Mq_Mo _ k_Mo_118) (u_Mq_Mo _ k_Mo_119) (u_Mq_Mo _ k_Mo_489) (u_Mq_Mo _ k_Mo_0) (wcs (u_Mq_Mo _ k_Mo_120) (fun _ h => h))) rfl rfl rfl (by decide +kernel) ⟨Nat.le_of_ble_eq_true rfl, Nat.le_of_ble_eq_true rfl⟩) (pv_ofE (X.same _) (fun U z1 z2 => X.mono _ _ U hFc (hEw _ _ hS U z1 z2)) hP hK hD (va_recv hK hP (ci := 12) (q0 := 0) rfl rfl)) rfl rfl hl.1 rfl (lv_room (Nat.le_of_ble_eq_true rfl)) d_Mo_makeFolder_119 ⟨by decide, by decide⟩) hS (fun q _ h => hFc q h) hFc (fun r_ u t H locs ht hvm hw hB hz1 hk1 hS => ?_)
    rw [hw]
    obtain ⟨hP, -, hD⟩ := hB
    rw [ht] at hP
    have hD := lx_dj hD hFc
    refine lv_if_eq (tgt := 129) hx hb d_Mo_makeFolder_122 (by decide) (fun c_27 => ?_) (fun c_27 => ?_)
    · have h := lf_t h c_27
      refine lv_iconst (v := 0) hx hb d_Mo_makeFolder_129 (by decide) ?_
      exact hB_130 _ hr_63 y_1 r_25 y_4 y_3 0 S_26 _ _ _ h hP hD hS (lv_sub hl [1, 2, 0, 4] rfl)
    · have h := lf_f h c_27
      refine lv_iconst (v := 1) hx hb d_Mo_makeFolder_125 (by decide) ?_
      refine lv_goto (tgt := 130) hx hb d_Mo_makeFolder_126 (by decide) ?_
      exact hB_130 _ hr_63 y_1 r_25 y_4 y_3 1 S_26 _ _ _ h hP hD hS (lv_sub hl [1, 2, 0, 4] rfl)
  have hB_233 : ∀ (y_2 : Int32) (z_1 : Int32) (z_2 : Int32) (z_3 : Int32) (z_4 : Int64) (z_5 : Int64) (z_6 : Int64) (S : MS) (H : Heap) (locs : List Loc) (ls : Array Slot), f_Mo_makeFolder_233 K y_2 z_1 z_2 z_3 z_4 z_5 z_6 S = some S' → va_P (dC, dI) classes (wM M S) H → va_D A (wM M S) → va_S A s.heap H locs → lv_has ls 5 [(0, .ref M.o), (2, .int y_2)] → W p l e ({ frames := 9, cells := 0, slots := 0, locals := 276 }) s m ([.ref M.o, .int p0] : List Value).toArray below meth c H locs 0 0 Q (F0 m 233 ls [.long z_6, .long z_5, .long z_4, .int z_3, .int z_2, .int z_1, .ref M.o]) := by
    intro y_2 z_1 z_2 z_3 z_4 z_5 z_6 S H locs ls h hP hD hS hl
    rw [f_Mo_makeFolder_233] at h
    refine lv_ldc2 (v := 1024) hx hb hown (hts _ (u_Mq_Mo _ k_Mo_268)) d_Mo_makeFolder_233 ?_
    refine lv_iload_n hx hb d_Mo_makeFolder_236 rfl (lv_at hl 1 rfl) ?_
    refine lv_i2l hx hb d_Mo_makeFolder_237 rfl ?_
    refine lv_lmul hx hb d_Mo_makeFolder_238 ?_
    refine lv_aload_n hx hb d_Mo_makeFolder_239 rfl (lv_at hl 0 rfl) ?_
    refine va_get (D := (dC, dI)) (ci := 12) (v := .ref M.a_list) (C := R_Mo) (T := F_Mo) (N := 66) hx hb hts (fun w h => u_Mq_Mo w (i_Mo w h)) hown hK hP 0 rfl rfl 62 (by decide) (hts _ (u_Mq_Mo _ k_Mo_69)) (fun _ h9 => h9) rfl d_Mo_makeFolder_240 ?_
    refine lv_iload_n hx hb d_Mo_makeFolder_243 rfl (lv_at hl 1 rfl) ?_
    obtain ⟨S_34, hc_34, h⟩ := lf_bE h
    have hFc := lx_free hD hS hA
    refine va_callv (va_runV (As := [.int z_1, .int z_2, .int z_3, .long z_4, .long z_5, .long z_6, .long (1024 * y_2.toInt64), .ref M.a_list, .int y_2]) (rest := []) ⟨hx, hb, hml, hown, hts⟩ (l_Mo_inode_list l dC dI X _ hc_34) (cwV 9 hts (gwV good_Mq (u_Mq_Mo _ k_Mo_428) (u_Mq_Mo _ k_Mo_429) (u_Mq_Mo _ k_Mo_543) (u_Mq_Mo _ k_Mo_0) (wcs (u_Mq_Mo _ k_Mo_430) (fun _ h => h))) rfl rfl rfl (by decide +kernel) ⟨Nat.le_of_ble_eq_true rfl, Nat.le_of_ble_eq_true rfl⟩) (pv_ofE (X.same _) (fun U z1 z2 => X.mono _ _ U hFc (hEw _ _ hS U z1 z2)) hP hK hD (va_recv hK hP (ci := 12) (q0 := 0) rfl rfl)) rfl rfl hl.1 rfl (lv_room (Nat.le_of_ble_eq_true rfl)) d_Mo_makeFolder_244 ⟨by decide, by decide⟩) hS (fun q _ h => hFc q h) hFc (fun u t H locs ht hvm hw hB hz1 hk1 hS => ?_)
    obtain ⟨hP, -, hD⟩ := hB
    rw [ht] at hP
    have hD := lx_dj hD hFc
    rw [hQ]
    have e2 : S_34 = S' := Option.some.inj h
    have hP := lx_newP e2.symm hP
    have hD := lx_newD e2.symm hD
    exact W.vret hx hb hr (fun t ht hW => ⟨⟨(), rfl, trivial, by rw [ht]; exact hP, va_K.moved hW.alike hK, hD⟩, hS.F ht⟩) hS.2.2 d_Mo_makeFolder_247
  have hB_219 : ∀ (y_1 : Int32) (y_2 : Int32) (z_1 : Int32) (z_2 : Int32) (z_3 : Int32) (z_4 : Int64) (z_5 : Int64) (S : MS) (H : Heap) (locs : List Loc) (ls : Array Slot), f_Mo_makeFolder_219 K y_1 y_2 z_1 z_2 z_3 z_4 z_5 S = some S' → va_P (dC, dI) classes (wM M S) H → va_D A (wM M S) → va_S A s.heap H locs → lv_has ls 5 [(0, .ref M.o), (1, .int y_1), (2, .int y_2)] → W p l e ({ frames := 9, cells := 0, slots := 0, locals := 276 }) s m ([.ref M.o, .int p0] : List Value).toArray below meth c H locs 0 0 Q (F0 m 219 ls [.long z_5, .long z_4, .int z_3, .int z_2, .int z_1, .ref M.o]) := by
    intro y_1 y_2 z_1 z_2 z_3 z_4 z_5 S H locs ls h hP hD hS hl
    rw [f_Mo_makeFolder_219] at h
    refine lv_iload_n hx hb d_Mo_makeFolder_219 rfl (lv_at hl 1 rfl) ?_
    refine lv_if_ne (tgt := 227) hx hb d_Mo_makeFolder_220 (by decide) (fun c_32 => ?_) (fun c_32 => ?_)
    · have h := lf_f h c_32
      refine lv_aload_n hx hb d_Mo_makeFolder_227 rfl (lv_at hl 0 rfl) ?_
      refine lv_iload_n hx hb d_Mo_makeFolder_228 rfl (lv_at hl 1 rfl) ?_
      refine lv_iconst (v := 2) hx hb d_Mo_makeFolder_229 (by decide) ?_
      obtain ⟨r_33, S_33, hc_33, h⟩ := lf_cE h
      have hFc := lx_free hD hS hA
      refine va_calll (va_runV (As := [.int y_1, .int 2]) (rest := [.long z_5, .long z_4, .int z_3, .int z_2, .int z_1, .ref M.o]) ⟨hx, hb, hml, hown, hts⟩ (l_Mo_timeOf l dC dI X _ hc_33) (cwV 2 hts (gwV good_Mq (u_Mq_Mo _ k_Mo_278) (u_Mq_Mo _ k_Mo_279) (u_Mq_Mo _ k_Mo_514) (u_Mq_Mo _ k_Mo_0) (wcs (u_Mq_Mo _ k_Mo_280) (fun _ h => h))) rfl rfl rfl (by decide +kernel) ⟨Nat.le_of_ble_eq_true rfl, Nat.le_of_ble_eq_true rfl⟩) (pv_ofE (X.same _) (fun U z1 z2 => X.mono _ _ U hFc (hEw _ _ hS U z1 z2)) hP hK hD (va_recv hK hP (ci := 12) (q0 := 0) rfl rfl)) rfl rfl hl.1 rfl (lv_room (Nat.le_of_ble_eq_true rfl)) d_Mo_makeFolder_230 ⟨by decide, by decide⟩) hS (fun q _ h => hFc q h) hFc (fun r_ u t H locs ht hvm hw hB hz1 hk1 hS => ?_)
      rw [hw]
      obtain ⟨hP, -, hD⟩ := hB
      rw [ht] at hP
      have hD := lx_dj hD hFc
      exact hB_233 y_2 z_1 z_2 z_3 z_4 z_5 r_33 S_33 _ _ _ h hP hD hS (lv_sub hl [0, 2] rfl)
    · have h := lf_t h c_32
      refine lv_lconst (v := 0) hx hb d_Mo_makeFolder_223 (by decide) ?_
      refine lv_goto (tgt := 233) hx hb d_Mo_makeFolder_224 (by decide) ?_
      exact hB_233 y_2 z_1 z_2 z_3 z_4 z_5 0 S _ _ _ h hP hD hS (lv_sub hl [0, 2] rfl)
  have hB_205 : ∀ (y_1 : Int32) (y_2 : Int32) (z_1 : Int32) (z_2 : Int32) (z_3 : Int32) (z_4 : Int64) (S : MS) (H : Heap) (locs : List Loc) (ls : Array Slot), f_Mo_makeFolder_205 K y_1 y_2 z_1 z_2 z_3 z_4 S = some S' → va_P (dC, dI) classes (wM M S) H → va_D A (wM M S) → va_S A s.heap H locs → lv_has ls 5 [(0, .ref M.o), (1, .int y_1), (2, .int y_2)] → W p l e ({ frames := 9, cells := 0, slots := 0, locals := 276 }) s m ([.ref M.o, .int p0] : List Value).toArray below meth c H locs 0 0 Q (F0 m 205 ls [.long z_4, .int z_3, .int z_2, .int z_1, .ref M.o]) := by
    intro y_1 y_2 z_1 z_2 z_3 z_4 S H locs ls h hP hD hS hl
    rw [f_Mo_makeFolder_205] at h
    refine lv_iload_n hx hb d_Mo_makeFolder_205 rfl (lv_at hl 1 rfl) ?_
    refine lv_if_ne (tgt := 213) hx hb d_Mo_makeFolder_206 (by decide) (fun c_28 => ?_) (fun c_28 => ?_)
    · have h := lf_f h c_28
      refine lv_aload_n hx hb d_Mo_makeFolder_213 rfl (lv_at hl 0 rfl) ?_
      refine lv_iload_n hx hb d_Mo_makeFolder_214 rfl (lv_at hl 1 rfl) ?_
      refine lv_iconst (v := 1) hx hb d_Mo_makeFolder_215 (by decide) ?_
      obtain ⟨r_29, S_29, hc_29, h⟩ := lf_cE h
      have hFc := lx_free hD hS hA
      refine va_calll (va_runV (As := [.int y_1, .int 1]) (rest := [.long z_4, .int z_3, .int z_2, .int z_1, .ref M.o]) ⟨hx, hb, hml, hown, hts⟩ (l_Mo_timeOf l dC dI X _ hc_29) (cwV 2 hts (gwV good_Mq (u_Mq_Mo _ k_Mo_278) (u_Mq_Mo _ k_Mo_279) (u_Mq_Mo _ k_Mo_514) (u_Mq_Mo _ k_Mo_0) (wcs (u_Mq_Mo _ k_Mo_280) (fun _ h => h))) rfl rfl rfl (by decide +kernel) ⟨Nat.le_of_ble_eq_true rfl, Nat.le_of_ble_eq_true rfl⟩) (pv_ofE (X.same _) (fun U z1 z2 => X.mono _ _ U hFc (hEw _ _ hS U z1 z2)) hP hK hD (va_recv hK hP (ci := 12) (q0 := 0) rfl rfl)) rfl rfl hl.1 rfl (lv_room (Nat.le_of_ble_eq_true rfl)) d_Mo_makeFolder_216 ⟨by decide, by decide⟩) hS (fun q _ h => hFc q h) hFc (fun r_ u t H locs ht hvm hw hB hz1 hk1 hS => ?_)
      rw [hw]
      obtain ⟨hP, -, hD⟩ := hB
      rw [ht] at hP
      have hD := lx_dj hD hFc
      exact hB_219 y_1 y_2 z_1 z_2 z_3 z_4 r_29 S_29 _ _ _ h hP hD hS (lv_sub hl [0, 1, 2] rfl)
    · have h := lf_t h c_28
      refine lv_lconst (v := 0) hx hb d_Mo_makeFolder_209 (by decide) ?_
      refine lv_goto (tgt := 219) hx hb d_Mo_makeFolder_210 (by decide) ?_
      exact hB_219 y_1 y_2 z_1 z_2 z_3 z_4 0 S _ _ _ h hP hD hS (lv_sub hl [0, 1, 2] rfl)
  have hB_154 : ∀ (y_1 : Int32) (y_2 : Int32) (y_3 : Int32) (S : MS) (H : Heap) (locs : List Loc) (ls : Array Slot), f_Mo_makeFolder_154 K y_1 y_2 y_3 S = some S' → va_P (dC, dI) classes (wM M S) H → va_D A (wM M S) → va_S A s.heap H locs → lv_has ls 5 [(0, .ref M.o), (1, .int y_1), (2, .int y_2), (3, .int y_3)] → W p l e ({ frames := 9, cells := 0, slots := 0, locals := 276 }) s m ([.ref M.o, .int p0] : List Value).toArray below meth c H locs 0 0 Q (F0 m 154 ls []) := by
    intro y_1 y_2 y_3 S H locs ls h hP hD hS hl
    rw [f_Mo_makeFolder_154] at h
    refine lv_aload_n hx hb d_Mo_makeFolder_154 rfl (lv_at hl 0 rfl) ?_
    refine lv_aload_n hx hb d_Mo_makeFolder_155 rfl (lv_at hl 0 rfl) ?_
    refine va_get (D := (dC, dI)) (ci := 12) (v := .int S.v_spot) (C := R_Mo) (T := F_Mo) (N := 66) hx hb hts (fun w h => u_Mq_Mo w (i_Mo w h)) hown hK hP 0 rfl rfl 63 (by decide) (hts _ (u_Mq_Mo _ k_Mo_70)) (fun _ h9 => h9) rfl d_Mo_makeFolder_156 ?_
    refine lv_aload_n hx hb d_Mo_makeFolder_159 rfl (lv_at hl 0 rfl) ?_
    refine va_get (D := (dC, dI)) (ci := 12) (v := .int S.v_latest) (C := R_Mo) (T := F_Mo) (N := 66) hx hb hts (fun w h => u_Mq_Mo w (i_Mo w h)) hown hK hP 0 rfl rfl 65 (by decide) (hts _ (u_Mq_Mo _ k_Mo_72)) (fun _ h9 => h9) rfl d_Mo_makeFolder_160 ?_
    refine lv_iadd hx hb d_Mo_makeFolder_163 ?_
    refine lv_iconst (v := 4) hx hb d_Mo_makeFolder_164 (by decide) ?_
    refine lv_iadd hx hb d_Mo_makeFolder_165 ?_
    refine lv_iconst (v := 2) hx hb d_Mo_makeFolder_166 (by decide) ?_
    refine lv_sipush (v := 1024) hx hb d_Mo_makeFolder_167 (by decide) ?_
    refine lv_aload_n hx hb d_Mo_makeFolder_170 rfl (lv_at hl 0 rfl) ?_
    refine va_get (D := (dC, dI)) (ci := 12) (v := .int S.v_latest) (C := R_Mo) (T := F_Mo) (N := 66) hx hb hts (fun w h => u_Mq_Mo w (i_Mo w h)) hown hK hP 0 rfl rfl 65 (by decide) (hts _ (u_Mq_Mo _ k_Mo_72)) (fun _ h9 => h9) rfl d_Mo_makeFolder_171 ?_
    refine lv_isub hx hb d_Mo_makeFolder_174 ?_
    refine lv_i2l hx hb d_Mo_makeFolder_175 rfl ?_
    obtain ⟨S_19, hc_19, h⟩ := lf_bE h
    have hFc := lx_free hD hS hA
    refine va_callv (va_runV (As := [.int ((S.v_spot + S.v_latest) + 4), .int 2, .long ((1024 - S.v_latest).toInt64)]) (rest := []) ⟨hx, hb, hml, hown, hts⟩ (l_Mo_lay l dC dI X _ hc_19) (cwV 3 hts (gwV good_Mq (u_Mq_Mo _ k_Mo_418) (u_Mq_Mo _ k_Mo_419) (u_Mq_Mo _ k_Mo_538) (u_Mq_Mo _ k_Mo_0) (wcs (u_Mq_Mo _ k_Mo_420) (fun _ h => h))) rfl rfl rfl (by decide +kernel) ⟨Nat.le_of_ble_eq_true rfl, Nat.le_of_ble_eq_true rfl⟩) (pv_ofE (X.same _) (fun U z1 z2 => X.mono _ _ U hFc (hEw _ _ hS U z1 z2)) hP hK hD (va_recv hK hP (ci := 12) (q0 := 0) rfl rfl)) rfl rfl hl.1 rfl (lv_room (Nat.le_of_ble_eq_true rfl)) d_Mo_makeFolder_176 ⟨by decide, by decide⟩) hS (fun q _ h => hFc q h) hFc (fun u t H locs ht hvm hw hB hz1 hk1 hS => ?_)
    obtain ⟨hP, -, hD⟩ := hB
    rw [ht] at hP
    have hD := lx_dj hD hFc
    refine lv_aload_n hx hb d_Mo_makeFolder_179 rfl (lv_at hl 0 rfl) ?_
    refine lv_aload_n hx hb d_Mo_makeFolder_180 rfl (lv_at hl 0 rfl) ?_
    refine lv_iload_n hx hb d_Mo_makeFolder_181 rfl (lv_at hl 1 rfl) ?_
    obtain ⟨r_20, S_20, hc_20, h⟩ := lf_cE h
    have hFc := lx_free hD hS hA
    refine va_calli (va_runV (As := [.int y_1]) (rest := [.ref M.o]) ⟨hx, hb, hml, hown, hts⟩ (l_Mo_numberOf l dC dI X _ hc_20) (cwV 1 hts (gwV good_Mq (u_Mq_Mo _ k_Mo_440) (u_Mq_Mo _ k_Mo_441) (u_Mq_Mo _ k_Mo_544) (u_Mq_Mo _ k_Mo_0) (wcs (u_Mq_Mo _ k_Mo_442) (fun _ h => h))) rfl rfl rfl (by decide +kernel) ⟨Nat.le_of_ble_eq_true rfl, Nat.le_of_ble_eq_true rfl⟩) (pv_ofE (X.same _) (fun U z1 z2 => X.mono _ _ U hFc (hEw _ _ hS U z1 z2)) hP hK hD (va_recv hK hP (ci := 12) (q0 := 0) rfl rfl)) rfl rfl hl.1 rfl (lv_room (Nat.le_of_ble_eq_true rfl)) d_Mo_makeFolder_182 ⟨by decide, by decide⟩) hS (fun q _ h => hFc q h) hFc (fun r_ u t H locs ht hvm hw hB hz1 hk1 hS => ?_)
    rw [hw]
    obtain ⟨hP, -, hD⟩ := hB
    rw [ht] at hP
    have hD := lx_dj hD hFc
    refine lv_aload_n hx hb d_Mo_makeFolder_185 rfl (lv_at hl 0 rfl) ?_
    refine lv_iload_n hx hb d_Mo_makeFolder_186 rfl (lv_at hl 1 rfl) ?_
    obtain ⟨r_21, S_21, hc_21, h⟩ := lf_cE h
    have hFc := lx_free hD hS hA
    refine va_calli (va_runV (As := [.int y_1]) (rest := [.int r_20, .ref M.o]) ⟨hx, hb, hml, hown, hts⟩ (l_Mo_mode l dC dI X _ hc_21) (cwV 1 hts (gwV good_Mq (u_Mq_Mo _ k_Mo_446) (u_Mq_Mo _ k_Mo_447) (u_Mq_Mo _ k_Mo_545) (u_Mq_Mo _ k_Mo_0) (wcs (u_Mq_Mo _ k_Mo_448) (fun _ h => h))) rfl rfl rfl (by decide +kernel) ⟨Nat.le_of_ble_eq_true rfl, Nat.le_of_ble_eq_true rfl⟩) (pv_ofE (X.same _) (fun U z1 z2 => X.mono _ _ U hFc (hEw _ _ hS U z1 z2)) hP hK hD (va_recv hK hP (ci := 12) (q0 := 0) rfl rfl)) rfl rfl hl.1 rfl (lv_room (Nat.le_of_ble_eq_true rfl)) d_Mo_makeFolder_187 ⟨by decide, by decide⟩) hS (fun q _ h => hFc q h) hFc (fun r_ u t H locs ht hvm hw hB hz1 hk1 hS => ?_)
    rw [hw]
    obtain ⟨hP, -, hD⟩ := hB
    rw [ht] at hP
    have hD := lx_dj hD hFc
    refine lv_iload_n hx hb d_Mo_makeFolder_190 rfl (lv_at hl 3 rfl) ?_
    refine lv_iload_n hx hb d_Mo_makeFolder_191 rfl (lv_at hl 1 rfl) ?_
    refine lv_if_ne (tgt := 199) hx hb d_Mo_makeFolder_192 (by decide) (fun c_22 => ?_) (fun c_22 => ?_)
    · have h := lf_f h c_22
      refine lv_aload_n hx hb d_Mo_makeFolder_199 rfl (lv_at hl 0 rfl) ?_
      refine lv_iload_n hx hb d_Mo_makeFolder_200 rfl (lv_at hl 1 rfl) ?_
      refine lv_iconst (v := 0) hx hb d_Mo_makeFolder_201 (by decide) ?_
      obtain ⟨r_23, S_23, hc_23, h⟩ := lf_cE h
      have hFc := lx_free hD hS hA
      refine va_calll (va_runV (As := [.int y_1, .int 0]) (rest := [.int y_3, .int r_21, .int r_20, .ref M.o]) ⟨hx, hb, hml, hown, hts⟩ (l_Mo_timeOf l dC dI X _ hc_23) (cwV 2 hts (gwV good_Mq (u_Mq_Mo _ k_Mo_278) (u_Mq_Mo _ k_Mo_279) (u_Mq_Mo _ k_Mo_514) (u_Mq_Mo _ k_Mo_0) (wcs (u_Mq_Mo _ k_Mo_280) (fun _ h => h))) rfl rfl rfl (by decide +kernel) ⟨Nat.le_of_ble_eq_true rfl, Nat.le_of_ble_eq_true rfl⟩) (pv_ofE (X.same _) (fun U z1 z2 => X.mono _ _ U hFc (hEw _ _ hS U z1 z2)) hP hK hD (va_recv hK hP (ci := 12) (q0 := 0) rfl rfl)) rfl rfl hl.1 rfl (lv_room (Nat.le_of_ble_eq_true rfl)) d_Mo_makeFolder_202 ⟨by decide, by decide⟩) hS (fun q _ h => hFc q h) hFc (fun r_ u t H locs ht hvm hw hB hz1 hk1 hS => ?_)
      rw [hw]
      obtain ⟨hP, -, hD⟩ := hB
      rw [ht] at hP
      have hD := lx_dj hD hFc
      exact hB_205 y_1 y_2 r_20 r_21 y_3 r_23 S_23 _ _ _ h hP hD hS (lv_sub hl [0, 1, 2] rfl)
    · have h := lf_t h c_22
      refine lv_lconst (v := 0) hx hb d_Mo_makeFolder_195 (by decide) ?_
      refine lv_goto (tgt := 205) hx hb d_Mo_makeFolder_196 (by decide) ?_
      exact hB_205 y_1 y_2 r_20 r_21 y_3 0 S_21 _ _ _ h hP hD hS (lv_sub hl [0, 1, 2] rfl)
  have hB_63 : ∀ (k : Nat), ∀ (y_1 : Int32) (y_2 : Int32) (y_3 : Int32) (y_4 : Int32) (S : MS) (H : Heap) (locs : List Loc) (ls : Array Slot), f_Mo_makeFolder_63 K k y_1 y_2 y_3 y_4 S = some S' → va_P (dC, dI) classes (wM M S) H → va_D A (wM M S) → va_S A s.heap H locs → lv_has ls 5 [(0, .ref M.o), (1, .int y_1), (2, .int y_2), (3, .int y_3), (4, .int y_4)] → W p l e ({ frames := 9, cells := 0, slots := 0, locals := 276 }) s m ([.ref M.o, .int p0] : List Value).toArray below meth c H locs 0 0 Q (F0 m 63 ls []) := by
    intro k
    induction k with
    | zero => intro y_1 y_2 y_3 y_4 S H locs ls h; exact lf_no h
    | succ k hr_63 =>
      intro y_1 y_2 y_3 y_4 S H locs ls h hP hD hS hl
      rw [f_Mo_makeFolder_63] at h
      refine lv_iload hx hb d_Mo_makeFolder_63 (lv_at hl 4 rfl) ?_
      refine lv_aload_n hx hb d_Mo_makeFolder_65 rfl (lv_at hl 0 rfl) ?_
      refine va_get (D := (dC, dI)) (ci := 12) (v := .ref M.a_firstKid) (C := R_Mo) (T := F_Mo) (N := 66) hx hb hts (fun w h => u_Mq_Mo w (i_Mo w h)) hown hK hP 0 rfl rfl 29 (by decide) (hts _ (u_Mq_Mo _ k_Mo_36)) (fun _ h9 => h9) rfl d_Mo_makeFolder_66 ?_
      refine lv_iload_n hx hb d_Mo_makeFolder_69 rfl (lv_at hl 1 rfl) ?_
      obtain ⟨g_11, h⟩ := lf_gE h
      refine va_iald hx hb hK hP 11 10 rfl rfl g_11 d_Mo_makeFolder_70 ?_
      refine lv_aload_n hx hb d_Mo_makeFolder_71 rfl (lv_at hl 0 rfl) ?_
      refine va_get (D := (dC, dI)) (ci := 12) (v := .ref M.a_kids) (C := R_Mo) (T := F_Mo) (N := 66) hx hb hts (fun w h => u_Mq_Mo w (i_Mo w h)) hown hK hP 0 rfl rfl 28 (by decide) (hts _ (u_Mq_Mo _ k_Mo_35)) (fun _ h9 => h9) rfl d_Mo_makeFolder_72 ?_
      refine lv_iload_n hx hb d_Mo_makeFolder_75 rfl (lv_at hl 1 rfl) ?_
      obtain ⟨g_12, h⟩ := lf_gE h
      refine va_iald hx hb hK hP 10 9 rfl rfl g_12 d_Mo_makeFolder_76 ?_
      refine lv_iadd hx hb d_Mo_makeFolder_77 ?_
      refine lv_icmp_ge (tgt := 138) hx hb d_Mo_makeFolder_78 (by decide) (fun c_13 => ?_) (fun c_13 => ?_)
      · have h := lf_t h c_13
        refine lv_iload_n hx hb d_Mo_makeFolder_138 rfl (lv_at hl 1 rfl) ?_
        refine lv_if_ne (tgt := 154) hx hb d_Mo_makeFolder_139 (by decide) (fun c_14 => ?_) (fun c_14 => ?_)
        · have h := lf_f h c_14
          exact hB_154 y_1 y_2 y_3 S _ _ _ h hP hD hS (lv_sub hl [0, 1, 2, 3] rfl)
        · have h := lf_t h c_14
          refine lv_aload_n hx hb d_Mo_makeFolder_142 rfl (lv_at hl 0 rfl) ?_
          refine lv_iload_n hx hb d_Mo_makeFolder_143 rfl (lv_at hl 2 rfl) ?_
          refine lv_bipush (v := 11) hx hb d_Mo_makeFolder_144 (by decide) ?_
          refine lv_iconst (v := (-1)) hx hb d_Mo_makeFolder_146 (by decide) ?_
          refine lv_iconst (v := 1) hx hb d_Mo_makeFolder_147 (by decide) ?_
          refine lv_bipush (v := 7) hx hb d_Mo_makeFolder_148 (by decide) ?_
          obtain ⟨r_15, S_15, hc_15, h⟩ := lf_cE h
          have hFc := lx_free hD hS hA
          refine va_calli (va_runV (As := [.int y_2, .int 11, .int ((-1)), .int 1, .int 7]) (rest := []) ⟨hx, hb, hml, hown, hts⟩ (l_Mo_entered l dC dI X _ hc_15) (cwV 5 hts (gwV good_Mq (u_Mq_Mo _ k_Mo_443) (u_Mq_Mo _ k_Mo_444) (u_Mq_Mo _ k_Mo_548) (u_Mq_Mo _ k_Mo_0) (wcs (u_Mq_Mo _ k_Mo_445) (fun _ h => h))) rfl rfl rfl (by decide +kernel) ⟨Nat.le_of_ble_eq_true rfl, Nat.le_of_ble_eq_true rfl⟩) (pv_ofE (X.same _) (fun U z1 z2 => X.mono _ _ U hFc (hEw _ _ hS U z1 z2)) hP hK hD (va_recv hK hP (ci := 12) (q0 := 0) rfl rfl)) rfl rfl hl.1 rfl (lv_room (Nat.le_of_ble_eq_true rfl)) d_Mo_makeFolder_150 ⟨by decide, by decide⟩) hS (fun q _ h => hFc q h) hFc (fun r_ u t H locs ht hvm hw hB hz1 hk1 hS => ?_)
          rw [hw]
          obtain ⟨hP, -, hD⟩ := hB
          rw [ht] at hP
          have hD := lx_dj hD hFc
          refine lv_istore_n (lv' := [(2, .int r_15), (0, .ref M.o), (1, .int y_1), (3, .int y_3), (4, .int y_4)]) hx hb d_Mo_makeFolder_153 rfl hl (by decide) rfl (fun ls hl => ?_)
          exact hB_154 y_1 r_15 y_3 S_15 _ _ _ h hP hD hS (lv_sub hl [1, 2, 0, 3] rfl)
      · have h := lf_f h c_13
        refine lv_aload_n hx hb d_Mo_makeFolder_81 rfl (lv_at hl 0 rfl) ?_
        refine lv_iload_n hx hb d_Mo_makeFolder_82 rfl (lv_at hl 2 rfl) ?_
        refine lv_aload_n hx hb d_Mo_makeFolder_83 rfl (lv_at hl 0 rfl) ?_
        refine lv_iload hx hb d_Mo_makeFolder_84 (lv_at hl 4 rfl) ?_
        obtain ⟨r_16, S_16, hc_16, h⟩ := lf_cE h
        have hFc := lx_free hD hS hA
        refine va_calli (va_runV (As := [.int y_4]) (rest := [.int y_2, .ref M.o]) ⟨hx, hb, hml, hown, hts⟩ (l_Mo_numberOf l dC dI X _ hc_16) (cwV 1 hts (gwV good_Mq (u_Mq_Mo _ k_Mo_440) (u_Mq_Mo _ k_Mo_441) (u_Mq_Mo _ k_Mo_544) (u_Mq_Mo _ k_Mo_0) (wcs (u_Mq_Mo _ k_Mo_442) (fun _ h => h))) rfl rfl rfl (by decide +kernel) ⟨Nat.le_of_ble_eq_true rfl, Nat.le_of_ble_eq_true rfl⟩) (pv_ofE (X.same _) (fun U z1 z2 => X.mono _ _ U hFc (hEw _ _ hS U z1 z2)) hP hK hD (va_recv hK hP (ci := 12) (q0 := 0) rfl rfl)) rfl rfl hl.1 rfl (lv_room (Nat.le_of_ble_eq_true rfl)) d_Mo_makeFolder_86 ⟨by decide, by decide⟩) hS (fun q _ h => hFc q h) hFc (fun r_ u t H locs ht hvm hw hB hz1 hk1 hS => ?_)
        rw [hw]
        obtain ⟨hP, -, hD⟩ := hB
        rw [ht] at hP
        have hD := lx_dj hD hFc
        refine lv_iload hx hb d_Mo_makeFolder_89 (lv_at hl 4 rfl) ?_
        refine lv_aload_n hx hb d_Mo_makeFolder_91 rfl (lv_at hl 0 rfl) ?_
        refine lv_iload hx hb d_Mo_makeFolder_92 (lv_at hl 4 rfl) ?_
        obtain ⟨r_17, S_17, hc_17, h⟩ := lf_cE h
        have hFc := lx_free hD hS hA
        refine va_calli (va_runV (As := [.int y_4]) (rest := [.int y_4, .int r_16, .int y_2, .ref M.o]) ⟨hx, hb, hml, hown, hts⟩ (l_Mo_isFolder l dC dI X _ hc_17) (cwV 1 hts (gwV good_Mq (u_Mq_Mo _ k_Mo_118) (u_Mq_Mo _ k_Mo_119) (u_Mq_Mo _ k_Mo_489) (u_Mq_Mo _ k_Mo_0) (wcs (u_Mq_Mo _ k_Mo_120) (fun _ h => h))) rfl rfl rfl (by decide +kernel) ⟨Nat.le_of_ble_eq_true rfl, Nat.le_of_ble_eq_true rfl⟩) (pv_ofE (X.same _) (fun U z1 z2 => X.mono _ _ U hFc (hEw _ _ hS U z1 z2)) hP hK hD (va_recv hK hP (ci := 12) (q0 := 0) rfl rfl)) rfl rfl hl.1 rfl (lv_room (Nat.le_of_ble_eq_true rfl)) d_Mo_makeFolder_94 ⟨by decide, by decide⟩) hS (fun q _ h => hFc q h) hFc (fun r_ u t H locs ht hvm hw hB hz1 hk1 hS => ?_)
        rw [hw]
        obtain ⟨hP, -, hD⟩ := hB
        rw [ht] at hP
        have hD := lx_dj hD hFc
        refine lv_if_eq (tgt := 104) hx hb d_Mo_makeFolder_97 (by decide) (fun c_18 => ?_) (fun c_18 => ?_)
        · have h := lf_t h c_18
          refine lv_iconst (v := 1) hx hb d_Mo_makeFolder_104 (by decide) ?_
          exact hB_105 _ hr_63 y_1 y_3 y_4 y_2 r_16 y_4 1 S_17 _ _ _ h hP hD hS (lv_sub hl [0, 1, 3, 4] rfl)
        · have h := lf_f h c_18
          refine lv_iconst (v := 2) hx hb d_Mo_makeFolder_100 (by decide) ?_
          refine lv_goto (tgt := 105) hx hb d_Mo_makeFolder_101 (by decide) ?_
          exact hB_105 _ hr_63 y_1 y_3 y_4 y_2 r_16 y_4 2 S_17 _ _ _ h hP hD hS (lv_sub hl [0, 1, 3, 4] rfl)
  rw [f_Mo_makeFolder] at h
  refine lv_aload_n hx hb d_Mo_makeFolder_0 rfl (lv_at hl 0 rfl) ?_
  obtain ⟨S_1, hc_1, h⟩ := lf_bE h
  have hFc := lx_free hD hS hA
  refine va_callv (va_runV (As := []) (rest := []) ⟨hx, hb, hml, hown, hts⟩ (l_Mo_begins l dC dI X _ hc_1) (cwV 0 hts (gwV good_Mq (u_Mq_Mo _ k_Mo_437) (u_Mq_Mo _ k_Mo_438) (u_Mq_Mo _ k_Mo_547) (u_Mq_Mo _ k_Mo_0) (wcs (u_Mq_Mo _ k_Mo_439) (fun _ h => h))) rfl rfl rfl (by decide +kernel) ⟨Nat.le_of_ble_eq_true rfl, Nat.le_of_ble_eq_true rfl⟩) (pv_ofE (X.same _) (fun U z1 z2 => X.mono _ _ U hFc (hEw _ _ hS U z1 z2)) hP hK hD (va_recv hK hP (ci := 12) (q0 := 0) rfl rfl)) rfl rfl hl.1 rfl (lv_room (Nat.le_of_ble_eq_true rfl)) d_Mo_makeFolder_1 ⟨by decide, by decide⟩) hS (fun q _ h => hFc q h) hFc (fun u t H locs ht hvm hw hB hz1 hk1 hS => ?_)
  obtain ⟨hP, -, hD⟩ := hB
  rw [ht] at hP
  have hD := lx_dj hD hFc
  refine lv_aload_n hx hb d_Mo_makeFolder_4 rfl (lv_at hl 0 rfl) ?_
  refine va_get (D := (dC, dI)) (ci := 12) (v := .ref M.a_list) (C := R_Mo) (T := F_Mo) (N := 66) hx hb hts (fun w h => u_Mq_Mo w (i_Mo w h)) hown hK hP 0 rfl rfl 62 (by decide) (hts _ (u_Mq_Mo _ k_Mo_69)) (fun _ h9 => h9) rfl d_Mo_makeFolder_5 ?_
  refine lv_iconst (v := 0) hx hb d_Mo_makeFolder_8 (by decide) ?_
  refine lv_aload_n hx hb d_Mo_makeFolder_9 rfl (lv_at hl 0 rfl) ?_
  refine va_get (D := (dC, dI)) (ci := 12) (v := .int S_1.v_spot) (C := R_Mo) (T := F_Mo) (N := 66) hx hb hts (fun w h => u_Mq_Mo w (i_Mo w h)) hown hK hP 0 rfl rfl 63 (by decide) (hts _ (u_Mq_Mo _ k_Mo_70)) (fun _ h9 => h9) rfl d_Mo_makeFolder_10 ?_
  refine lv_sipush (v := 1024) hx hb d_Mo_makeFolder_13 (by decide) ?_
  refine lv_idiv hx hb d_Mo_makeFolder_16 (by decide) ?_
  obtain ⟨g_2, h⟩ := lf_gE h
  refine va_iast hx hb hK hP hD hS 27 26 rfl rfl g_2 d_Mo_makeFolder_17 (fun H locs hP hD hS => ?_)
  obtain ⟨S_3, eS_3, h⟩ := lf_lX h
  have hP := lx_newP eS_3 hP
  have hD := lx_newD eS_3 hD
  refine lv_aload_n hx hb d_Mo_makeFolder_18 rfl (lv_at hl 0 rfl) ?_
  refine lv_iconst (v := 1) hx hb d_Mo_makeFolder_19 (by decide) ?_
  refine lv_aload_n hx hb d_Mo_makeFolder_20 rfl (lv_at hl 0 rfl) ?_
  refine lv_iload_n hx hb d_Mo_makeFolder_21 rfl (lv_at hl 1 rfl) ?_
  obtain ⟨r_4, S_4, hc_4, h⟩ := lf_cE h
  have hFc := lx_free hD hS hA
  refine va_calli (va_runV (As := [.int p0]) (rest := [.int 1, .ref M.o]) ⟨hx, hb, hml, hown, hts⟩ (l_Mo_numberOf l dC dI X _ hc_4) (cwV 1 hts (gwV good_Mq (u_Mq_Mo _ k_Mo_440) (u_Mq_Mo _ k_Mo_441) (u_Mq_Mo _ k_Mo_544) (u_Mq_Mo _ k_Mo_0) (wcs (u_Mq_Mo _ k_Mo_442) (fun _ h => h))) rfl rfl rfl (by decide +kernel) ⟨Nat.le_of_ble_eq_true rfl, Nat.le_of_ble_eq_true rfl⟩) (pv_ofE (X.same _) (fun U z1 z2 => X.mono _ _ U hFc (hEw _ _ hS U z1 z2)) hP hK hD (va_recv hK hP (ci := 12) (q0 := 0) rfl rfl)) rfl rfl hl.1 rfl (lv_room (Nat.le_of_ble_eq_true rfl)) d_Mo_makeFolder_22 ⟨by decide, by decide⟩) hS (fun q _ h => hFc q h) hFc (fun r_ u t H locs ht hvm hw hB hz1 hk1 hS => ?_)
  rw [hw]
  obtain ⟨hP, -, hD⟩ := hB
  rw [ht] at hP
  have hD := lx_dj hD hFc
  refine lv_bipush (v := (-2)) hx hb d_Mo_makeFolder_25 (by decide) ?_
  refine lv_iconst (v := 2) hx hb d_Mo_makeFolder_27 (by decide) ?_
  refine lv_iconst (v := 1) hx hb d_Mo_makeFolder_28 (by decide) ?_
  obtain ⟨r_5, S_5, hc_5, h⟩ := lf_cE h
  have hFc := lx_free hD hS hA
  refine va_calli (va_runV (As := [.int 1, .int r_4, .int ((-2)), .int 2, .int 1]) (rest := []) ⟨hx, hb, hml, hown, hts⟩ (l_Mo_entered l dC dI X _ hc_5) (cwV 5 hts (gwV good_Mq (u_Mq_Mo _ k_Mo_443) (u_Mq_Mo _ k_Mo_444) (u_Mq_Mo _ k_Mo_548) (u_Mq_Mo _ k_Mo_0) (wcs (u_Mq_Mo _ k_Mo_445) (fun _ h => h))) rfl rfl rfl (by decide +kernel) ⟨Nat.le_of_ble_eq_true rfl, Nat.le_of_ble_eq_true rfl⟩) (pv_ofE (X.same _) (fun U z1 z2 => X.mono _ _ U hFc (hEw _ _ hS U z1 z2)) hP hK hD (va_recv hK hP (ci := 12) (q0 := 0) rfl rfl)) rfl rfl hl.1 rfl (lv_room (Nat.le_of_ble_eq_true rfl)) d_Mo_makeFolder_29 ⟨by decide, by decide⟩) hS (fun q _ h => hFc q h) hFc (fun r_ u t H locs ht hvm hw hB hz1 hk1 hS => ?_)
  rw [hw]
  obtain ⟨hP, -, hD⟩ := hB
  rw [ht] at hP
  have hD := lx_dj hD hFc
  refine lv_istore_n (lv' := [(2, .int r_5), (0, .ref M.o), (1, .int p0)]) hx hb d_Mo_makeFolder_32 rfl hl (by decide) rfl (fun ls hl => ?_)
  refine lv_iconst (v := 2) hx hb d_Mo_makeFolder_33 (by decide) ?_
  refine lv_istore_n (lv' := [(3, .int 2), (2, .int r_5), (0, .ref M.o), (1, .int p0)]) hx hb d_Mo_makeFolder_34 rfl hl (by decide) rfl (fun ls hl => ?_)
  refine lv_aload_n hx hb d_Mo_makeFolder_35 rfl (lv_at hl 2 rfl) ?_
  refine lv_iload_n hx hb d_Mo_makeFolder_36 rfl (lv_at hl 1 rfl) ?_
  refine lv_aload_n hx hb d_Mo_makeFolder_37 rfl (lv_at hl 2 rfl) ?_
  refine lv_aload_n hx hb d_Mo_makeFolder_38 rfl (lv_at hl 2 rfl) ?_
  refine va_get (D := (dC, dI)) (ci := 12) (v := .ref M.a_parent) (C := R_Mo) (T := F_Mo) (N := 66) hx hb hts (fun w h => u_Mq_Mo w (i_Mo w h)) hown hK hP 0 rfl rfl 27 (by decide) (hts _ (u_Mq_Mo _ k_Mo_34)) (fun _ h9 => h9) rfl d_Mo_makeFolder_39 ?_
  refine lv_iload_n hx hb d_Mo_makeFolder_42 rfl (lv_at hl 3 rfl) ?_
  obtain ⟨g_6, h⟩ := lf_gE h
  refine va_iald hx hb hK hP 9 8 rfl rfl g_6 d_Mo_makeFolder_43 ?_
  obtain ⟨r_7, S_7, hc_7, h⟩ := lf_cE h
  have hFc := lx_free hD hS hA
  refine va_calli (va_runV (As := [.int (S_5.v_parent p0.toNatClampNeg)]) (rest := [.int r_5, .ref M.o]) ⟨hx, hb, hml, hown, hts⟩ (l_Mo_numberOf l dC dI X _ hc_7) (cwV 1 hts (gwV good_Mq (u_Mq_Mo _ k_Mo_440) (u_Mq_Mo _ k_Mo_441) (u_Mq_Mo _ k_Mo_544) (u_Mq_Mo _ k_Mo_0) (wcs (u_Mq_Mo _ k_Mo_442) (fun _ h => h))) rfl rfl rfl (by decide +kernel) ⟨Nat.le_of_ble_eq_true rfl, Nat.le_of_ble_eq_true rfl⟩) (pv_ofE (X.same _) (fun U z1 z2 => X.mono _ _ U hFc (hEw _ _ hS U z1 z2)) hP hK hD (va_recv hK hP (ci := 12) (q0 := 0) rfl rfl)) rfl rfl hl.1 rfl (lv_room (Nat.le_of_ble_eq_true rfl)) d_Mo_makeFolder_44 ⟨by decide, by decide⟩) hS (fun q _ h => hFc q h) hFc (fun r_ u t H locs ht hvm hw hB hz1 hk1 hS => ?_)
  rw [hw]
  obtain ⟨hP, -, hD⟩ := hB
  rw [ht] at hP
  have hD := lx_dj hD hFc
  refine lv_bipush (v := (-2)) hx hb d_Mo_makeFolder_47 (by decide) ?_
  refine lv_iconst (v := 2) hx hb d_Mo_makeFolder_49 (by decide) ?_
  refine lv_iconst (v := 2) hx hb d_Mo_makeFolder_50 (by decide) ?_
  obtain ⟨r_8, S_8, hc_8, h⟩ := lf_cE h
  have hFc := lx_free hD hS hA
  refine va_calli (va_runV (As := [.int r_5, .int r_7, .int ((-2)), .int 2, .int 2]) (rest := []) ⟨hx, hb, hml, hown, hts⟩ (l_Mo_entered l dC dI X _ hc_8) (cwV 5 hts (gwV good_Mq (u_Mq_Mo _ k_Mo_443) (u_Mq_Mo _ k_Mo_444) (u_Mq_Mo _ k_Mo_548) (u_Mq_Mo _ k_Mo_0) (wcs (u_Mq_Mo _ k_Mo_445) (fun _ h => h))) rfl rfl rfl (by decide +kernel) ⟨Nat.le_of_ble_eq_true rfl, Nat.le_of_ble_eq_true rfl⟩) (pv_ofE (X.same _) (fun U z1 z2 => X.mono _ _ U hFc (hEw _ _ hS U z1 z2)) hP hK hD (va_recv hK hP (ci := 12) (q0 := 0) rfl rfl)) rfl rfl hl.1 rfl (lv_room (Nat.le_of_ble_eq_true rfl)) d_Mo_makeFolder_51 ⟨by decide, by decide⟩) hS (fun q _ h => hFc q h) hFc (fun r_ u t H locs ht hvm hw hB hz1 hk1 hS => ?_)
  rw [hw]
  obtain ⟨hP, -, hD⟩ := hB
  rw [ht] at hP
  have hD := lx_dj hD hFc
  refine lv_istore_n (lv' := [(2, .int r_8), (3, .int 2), (0, .ref M.o), (1, .int p0)]) hx hb d_Mo_makeFolder_54 rfl hl (by decide) rfl (fun ls hl => ?_)
  refine lv_aload_n hx hb d_Mo_makeFolder_55 rfl (lv_at hl 2 rfl) ?_
  refine va_get (D := (dC, dI)) (ci := 12) (v := .ref M.a_firstKid) (C := R_Mo) (T := F_Mo) (N := 66) hx hb hts (fun w h => u_Mq_Mo w (i_Mo w h)) hown hK hP 0 rfl rfl 29 (by decide) (hts _ (u_Mq_Mo _ k_Mo_36)) (fun _ h9 => h9) rfl d_Mo_makeFolder_56 ?_
  refine lv_iload_n hx hb d_Mo_makeFolder_59 rfl (lv_at hl 3 rfl) ?_
  obtain ⟨g_9, h⟩ := lf_gE h
  refine va_iald hx hb hK hP 11 10 rfl rfl g_9 d_Mo_makeFolder_60 ?_
  refine lv_topi (fun x_10 ex_10 => ?_)
  have h := lf_lE h ex_10
  refine lv_istore (lv' := [(4, .int x_10), (2, .int r_8), (3, .int 2), (0, .ref M.o), (1, .int p0)]) hx hb d_Mo_makeFolder_61 hl (by decide) rfl (fun ls hl => ?_)
  exact hB_63 K p0 r_8 2 x_10 S_8 _ _ _ h hP hD hS (lv_sub hl [3, 4, 1, 2, 0] rfl)
set_option maxHeartbeats 4000000 in
set_option maxRecDepth 100000 in
theorem l_Mo_makeFile (l : Launch) (dC : Nat → ClassId) (dI : Nat → Nat → Nat) {K : Nat} {M : MA} {E : (Nat → Prop) → State → Prop} (X : lx_X l dC dI K M E) (sz : Nat) {S S' : MS} {p0 : Int32} (h : f_Mo_makeFile K S p0 = some S') : Met l y_Mo_makeFile (.code y_Mo_makeFile b_Mo_makeFile 4 none :: V_Mq) ({ frames := 5, cells := 0, slots := 0, locals := 114 }) (va_Pc [.ref M.o, .int p0] (fun U => U.heap.size = sz ∧ at_ (dC, dI) (fun _ => True) (wM M S) (tM M) U ∧ E (va_A (wM M S) sz) U)) (va_Qv (fun (u : Unit) => True) (fun (u : Unit) t => at_ (dC, dI) (va_A (wM M S) sz) (wM M S') (tM M) t) (va_A (wM M S) sz)) 0 0 (va_A (wM M S) sz) := by
  refine Met.ofW (cc := b_Mo_makeFile) (maxL := 4) (ret := none) (by decide) rfl ?_
  intro p e s m args below meth c s₁ B hml hv
  obtain ⟨rfl, hsz, ⟨hP, hK, hD0⟩, hE⟩ := hv
  have hx := B.exec
  have hb := B.bytes
  have hr := B.returns
  have hts0 := atoms_spec (ws := .code y_Mo_makeFile b_Mo_makeFile 4 none :: V_Mq) B.pre
  have hts : ∀ w ∈ V_Mq, w.before ([.ref M.o, .int p0] : List Value).toArray s = true := fun w h => hts0 w (List.mem_cons_of_mem _ h)
  have hown : s.vm.findClass R_Mo = some m.cls := findClass_of_methodNamed B.named
  subst hsz
  have hD := hD0.self (sz := s.heap.size)
  generalize hAe : va_A (wM M S) s.heap.size = A at hD hE ⊢
  have hA : ∀ q : Nat, s.heap.size ≤ q → A q := fun q h => by rw [← hAe]; exact Or.inr h
  have hS : va_S A s.heap s.heap [] := va_S.rf
  have hP : va_P (dC, dI) classes (wM M S) s.heap := hP
  have hK : va_K (dC, dI) classes (tM M) s := hK
  have hEw : ∀ (H : Heap) (locs : List Loc), va_S A s.heap H locs → ∀ U : State, U.heap = H → s.WarmedH U.vm → E A U := fun H locs hS U hU hW => X.kept A s U H locs hE hS hU hW
  have hl := lv_entry ([.ref M.o, .int p0]) (n := 4) (Nat.le_of_ble_eq_true rfl)
  rw [lg_entry_eq]
  generalize (lg_sl ([.ref M.o, .int p0]) ++ List.replicate (4 - (lg_sl ([.ref M.o, .int p0])).length) Slot.unset).toArray = ls at hl ⊢
  have hl : lv_has ls 4 [(0, .ref M.o), (1, .int p0)] := hl
  refine qabs (fun Q hQ => ?_)
  have hB_17 : ∀ (k : Nat), ∀ (y_1 : Int32) (y_2 : Int32) (y_3 : Int32) (S : MS) (H : Heap) (locs : List Loc) (ls : Array Slot), f_Mo_makeFile_17 K k y_1 y_2 y_3 S = some S' → va_P (dC, dI) classes (wM M S) H → va_D A (wM M S) → va_S A s.heap H locs → lv_has ls 4 [(0, .ref M.o), (1, .int y_1), (2, .int y_2), (3, .int y_3)] → W p l e ({ frames := 5, cells := 0, slots := 0, locals := 114 }) s m ([.ref M.o, .int p0] : List Value).toArray below meth c H locs 0 0 Q (F0 m 17 ls []) := by
    intro k
    induction k with
    | zero => intro y_1 y_2 y_3 S H locs ls h; exact lf_no h
    | succ k hr_17 =>
      intro y_1 y_2 y_3 S H locs ls h hP hD hS hl
      rw [f_Mo_makeFile_17] at h
      refine lv_iload_n hx hb d_Mo_makeFile_17 rfl (lv_at hl 3 rfl) ?_
      refine lv_iload_n hx hb d_Mo_makeFile_18 rfl (lv_at hl 2 rfl) ?_
      refine lv_icmp_ge (tgt := 39) hx hb d_Mo_makeFile_19 (by decide) (fun c_4 => ?_) (fun c_4 => ?_)
      · have h := lf_t h c_4
        refine lv_aload_n hx hb d_Mo_makeFile_39 rfl (lv_at hl 0 rfl) ?_
        refine lv_aload_n hx hb d_Mo_makeFile_40 rfl (lv_at hl 0 rfl) ?_
        refine lv_iload_n hx hb d_Mo_makeFile_41 rfl (lv_at hl 1 rfl) ?_
        obtain ⟨r_5, S_5, hc_5, h⟩ := lf_cE h
        have hFc := lx_free hD hS hA
        refine va_calli (va_runV (As := [.int y_1]) (rest := [.ref M.o]) ⟨hx, hb, hml, hown, hts⟩ (l_Mo_numberOf l dC dI X _ hc_5) (cwV 1 hts (gwV good_Mq (u_Mq_Mo _ k_Mo_440) (u_Mq_Mo _ k_Mo_441) (u_Mq_Mo _ k_Mo_544) (u_Mq_Mo _ k_Mo_0) (wcs (u_Mq_Mo _ k_Mo_442) (fun _ h => h))) rfl rfl rfl (by decide +kernel) ⟨Nat.le_of_ble_eq_true rfl, Nat.le_of_ble_eq_true rfl⟩) (pv_ofE (X.same _) (fun U z1 z2 => X.mono _ _ U hFc (hEw _ _ hS U z1 z2)) hP hK hD (va_recv hK hP (ci := 12) (q0 := 0) rfl rfl)) rfl rfl hl.1 rfl (lv_room (Nat.le_of_ble_eq_true rfl)) d_Mo_makeFile_42 ⟨by decide, by decide⟩) hS (fun q _ h => hFc q h) hFc (fun r_ u t H locs ht hvm hw hB hz1 hk1 hS => ?_)
        rw [hw]
        obtain ⟨hP, -, hD⟩ := hB
        rw [ht] at hP
        have hD := lx_dj hD hFc
        refine lv_aload_n hx hb d_Mo_makeFile_45 rfl (lv_at hl 0 rfl) ?_
        refine lv_iload_n hx hb d_Mo_makeFile_46 rfl (lv_at hl 1 rfl) ?_
        obtain ⟨r_6, S_6, hc_6, h⟩ := lf_cE h
        have hFc := lx_free hD hS hA
        refine va_calli (va_runV (As := [.int y_1]) (rest := [.int r_5, .ref M.o]) ⟨hx, hb, hml, hown, hts⟩ (l_Mo_mode l dC dI X _ hc_6) (cwV 1 hts (gwV good_Mq (u_Mq_Mo _ k_Mo_446) (u_Mq_Mo _ k_Mo_447) (u_Mq_Mo _ k_Mo_545) (u_Mq_Mo _ k_Mo_0) (wcs (u_Mq_Mo _ k_Mo_448) (fun _ h => h))) rfl rfl rfl (by decide +kernel) ⟨Nat.le_of_ble_eq_true rfl, Nat.le_of_ble_eq_true rfl⟩) (pv_ofE (X.same _) (fun U z1 z2 => X.mono _ _ U hFc (hEw _ _ hS U z1 z2)) hP hK hD (va_recv hK hP (ci := 12) (q0 := 0) rfl rfl)) rfl rfl hl.1 rfl (lv_room (Nat.le_of_ble_eq_true rfl)) d_Mo_makeFile_47 ⟨by decide, by decide⟩) hS (fun q _ h => hFc q h) hFc (fun r_ u t H locs ht hvm hw hB hz1 hk1 hS => ?_)
        rw [hw]
        obtain ⟨hP, -, hD⟩ := hB
        rw [ht] at hP
        have hD := lx_dj hD hFc
        refine lv_iconst (v := 1) hx hb d_Mo_makeFile_50 (by decide) ?_
        refine lv_aload_n hx hb d_Mo_makeFile_51 rfl (lv_at hl 0 rfl) ?_
        refine lv_iload_n hx hb d_Mo_makeFile_52 rfl (lv_at hl 1 rfl) ?_
        refine lv_iconst (v := 0) hx hb d_Mo_makeFile_53 (by decide) ?_
        obtain ⟨r_7, S_7, hc_7, h⟩ := lf_cE h
        have hFc := lx_free hD hS hA
        refine va_calll (va_runV (As := [.int y_1, .int 0]) (rest := [.int 1, .int r_6, .int r_5, .ref M.o]) ⟨hx, hb, hml, hown, hts⟩ (l_Mo_timeOf l dC dI X _ hc_7) (cwV 2 hts (gwV good_Mq (u_Mq_Mo _ k_Mo_278) (u_Mq_Mo _ k_Mo_279) (u_Mq_Mo _ k_Mo_514) (u_Mq_Mo _ k_Mo_0) (wcs (u_Mq_Mo _ k_Mo_280) (fun _ h => h))) rfl rfl rfl (by decide +kernel) ⟨Nat.le_of_ble_eq_true rfl, Nat.le_of_ble_eq_true rfl⟩) (pv_ofE (X.same _) (fun U z1 z2 => X.mono _ _ U hFc (hEw _ _ hS U z1 z2)) hP hK hD (va_recv hK hP (ci := 12) (q0 := 0) rfl rfl)) rfl rfl hl.1 rfl (lv_room (Nat.le_of_ble_eq_true rfl)) d_Mo_makeFile_54 ⟨by decide, by decide⟩) hS (fun q _ h => hFc q h) hFc (fun r_ u t H locs ht hvm hw hB hz1 hk1 hS => ?_)
        rw [hw]
        obtain ⟨hP, -, hD⟩ := hB
        rw [ht] at hP
        have hD := lx_dj hD hFc
        refine lv_aload_n hx hb d_Mo_makeFile_57 rfl (lv_at hl 0 rfl) ?_
        refine lv_iload_n hx hb d_Mo_makeFile_58 rfl (lv_at hl 1 rfl) ?_
        refine lv_iconst (v := 1) hx hb d_Mo_makeFile_59 (by decide) ?_
        obtain ⟨r_8, S_8, hc_8, h⟩ := lf_cE h
        have hFc := lx_free hD hS hA
        refine va_calll (va_runV (As := [.int y_1, .int 1]) (rest := [.long r_7, .int 1, .int r_6, .int r_5, .ref M.o]) ⟨hx, hb, hml, hown, hts⟩ (l_Mo_timeOf l dC dI X _ hc_8) (cwV 2 hts (gwV good_Mq (u_Mq_Mo _ k_Mo_278) (u_Mq_Mo _ k_Mo_279) (u_Mq_Mo _ k_Mo_514) (u_Mq_Mo _ k_Mo_0) (wcs (u_Mq_Mo _ k_Mo_280) (fun _ h => h))) rfl rfl rfl (by decide +kernel) ⟨Nat.le_of_ble_eq_true rfl, Nat.le_of_ble_eq_true rfl⟩) (pv_ofE (X.same _) (fun U z1 z2 => X.mono _ _ U hFc (hEw _ _ hS U z1 z2)) hP hK hD (va_recv hK hP (ci := 12) (q0 := 0) rfl rfl)) rfl rfl hl.1 rfl (lv_room (Nat.le_of_ble_eq_true rfl)) d_Mo_makeFile_60 ⟨by decide, by decide⟩) hS (fun q _ h => hFc q h) hFc (fun r_ u t H locs ht hvm hw hB hz1 hk1 hS => ?_)
        rw [hw]
        obtain ⟨hP, -, hD⟩ := hB
        rw [ht] at hP
        have hD := lx_dj hD hFc
        refine lv_aload_n hx hb d_Mo_makeFile_63 rfl (lv_at hl 0 rfl) ?_
        refine lv_iload_n hx hb d_Mo_makeFile_64 rfl (lv_at hl 1 rfl) ?_
        refine lv_iconst (v := 2) hx hb d_Mo_makeFile_65 (by decide) ?_
        obtain ⟨r_9, S_9, hc_9, h⟩ := lf_cE h
        have hFc := lx_free hD hS hA
        refine va_calll (va_runV (As := [.int y_1, .int 2]) (rest := [.long r_8, .long r_7, .int 1, .int r_6, .int r_5, .ref M.o]) ⟨hx, hb, hml, hown, hts⟩ (l_Mo_timeOf l dC dI X _ hc_9) (cwV 2 hts (gwV good_Mq (u_Mq_Mo _ k_Mo_278) (u_Mq_Mo _ k_Mo_279) (u_Mq_Mo _ k_Mo_514) (u_Mq_Mo _ k_Mo_0) (wcs (u_Mq_Mo _ k_Mo_280) (fun _ h => h))) rfl rfl rfl (by decide +kernel) ⟨Nat.le_of_ble_eq_true rfl, Nat.le_of_ble_eq_true rfl⟩) (pv_ofE (X.same _) (fun U z1 z2 => X.mono _ _ U hFc (hEw _ _ hS U z1 z2)) hP hK hD (va_recv hK hP (ci := 12) (q0 := 0) rfl rfl)) rfl rfl hl.1 rfl (lv_room (Nat.le_of_ble_eq_true rfl)) d_Mo_makeFile_66 ⟨by decide, by decide⟩) hS (fun q _ h => hFc q h) hFc (fun r_ u t H locs ht hvm hw hB hz1 hk1 hS => ?_)
        rw [hw]
        obtain ⟨hP, -, hD⟩ := hB
        rw [ht] at hP
        have hD := lx_dj hD hFc
        refine lv_aload_n hx hb d_Mo_makeFile_69 rfl (lv_at hl 0 rfl) ?_
        refine lv_aload_n hx hb d_Mo_makeFile_70 rfl (lv_at hl 0 rfl) ?_
        refine va_get (D := (dC, dI)) (ci := 12) (v := .ref M.a_at) (C := R_Mo) (T := F_Mo) (N := 66) hx hb hts (fun w h => u_Mq_Mo w (i_Mo w h)) hown hK hP 0 rfl rfl 24 (by decide) (hts _ (u_Mq_Mo _ k_Mo_31)) (fun _ h9 => h9) rfl d_Mo_makeFile_71 ?_
        refine lv_iload_n hx hb d_Mo_makeFile_74 rfl (lv_at hl 1 rfl) ?_
        obtain ⟨g_10, h⟩ := lf_gE h
        refine va_iald hx hb hK hP 6 5 rfl rfl g_10 d_Mo_makeFile_75 ?_
        refine lv_bipush (v := 28) hx hb d_Mo_makeFile_76 (by decide) ?_
        refine lv_iadd hx hb d_Mo_makeFile_78 ?_
        obtain ⟨r_11, S_11, hc_11, h⟩ := lf_cE h
        have hFc := lx_free hD hS hA
        refine va_calli (lx_runV16 (As := [.int ((S_9.v_at y_1.toNatClampNeg) + 28)]) (rest := [.long r_9, .long r_8, .long r_7, .int 1, .int r_6, .int r_5, .ref M.o]) ⟨hx, hb, hml, hown, hts⟩ (l_Mo_four l dC dI X _ hc_11) (cwV 1 hts (gwV good_Mq (u_Mq_Mo _ k_Mo_100) (u_Mq_Mo _ k_Mo_101) (u_Mq_Mo _ k_Mo_477) (u_Mq_Mo _ k_Mo_0) (wcs (u_Mq_Mo _ k_Mo_102) (fun _ h => h))) rfl rfl rfl (by decide +kernel) ⟨Nat.le_of_ble_eq_true rfl, Nat.le_of_ble_eq_true rfl⟩) (pv_ofE (X.same _) (fun U z1 z2 => X.mono _ _ U hFc (hEw _ _ hS U z1 z2)) hP hK hD (va_recv hK hP (ci := 12) (q0 := 0) rfl rfl)) (Nat.le_of_ble_eq_true rfl) rfl rfl hl.1 rfl (lx_room (Nat.le_of_ble_eq_true rfl)) d_Mo_makeFile_79 ⟨by decide, by decide⟩) hS (fun q _ h => hFc q h) hFc (fun r_ u t H locs ht hvm hw hB hz1 hk1 hS => ?_)
        rw [hw]
        obtain ⟨hP, -, hD⟩ := hB
        rw [ht] at hP
        have hD := lx_dj hD hFc
        refine lv_i2l hx hb d_Mo_makeFile_82 rfl ?_
        refine lv_aload_n hx hb d_Mo_makeFile_83 rfl (lv_at hl 0 rfl) ?_
        refine va_get (D := (dC, dI)) (ci := 12) (v := .ref M.a_list) (C := R_Mo) (T := F_Mo) (N := 66) hx hb hts (fun w h => u_Mq_Mo w (i_Mo w h)) hown hK hP 0 rfl rfl 62 (by decide) (hts _ (u_Mq_Mo _ k_Mo_69)) (fun _ h9 => h9) rfl d_Mo_makeFile_84 ?_
        refine lv_iload_n hx hb d_Mo_makeFile_87 rfl (lv_at hl 2 rfl) ?_
        obtain ⟨S_12, hc_12, h⟩ := lf_bE h
        have hFc := lx_free hD hS hA
        refine va_callv (va_runV (As := [.int r_5, .int r_6, .int 1, .long r_7, .long r_8, .long r_9, .long r_11.toInt64, .ref M.a_list, .int y_2]) (rest := []) ⟨hx, hb, hml, hown, hts⟩ (l_Mo_inode_list l dC dI X _ hc_12) (cwV 9 hts (gwV good_Mq (u_Mq_Mo _ k_Mo_428) (u_Mq_Mo _ k_Mo_429) (u_Mq_Mo _ k_Mo_543) (u_Mq_Mo _ k_Mo_0) (wcs (u_Mq_Mo _ k_Mo_430) (fun _ h => h))) rfl rfl rfl (by decide +kernel) ⟨Nat.le_of_ble_eq_true rfl, Nat.le_of_ble_eq_true rfl⟩) (pv_ofE (X.same _) (fun U z1 z2 => X.mono _ _ U hFc (hEw _ _ hS U z1 z2)) hP hK hD (va_recv hK hP (ci := 12) (q0 := 0) rfl rfl)) rfl rfl hl.1 rfl (lv_room (Nat.le_of_ble_eq_true rfl)) d_Mo_makeFile_88 ⟨by decide, by decide⟩) hS (fun q _ h => hFc q h) hFc (fun u t H locs ht hvm hw hB hz1 hk1 hS => ?_)
        obtain ⟨hP, -, hD⟩ := hB
        rw [ht] at hP
        have hD := lx_dj hD hFc
        rw [hQ]
        have e2 : S_12 = S' := Option.some.inj h
        have hP := lx_newP e2.symm hP
        have hD := lx_newD e2.symm hD
        exact W.vret hx hb hr (fun t ht hW => ⟨⟨(), rfl, trivial, by rw [ht]; exact hP, va_K.moved hW.alike hK, hD⟩, hS.F ht⟩) hS.2.2 d_Mo_makeFile_91
      · have h := lf_f h c_4
        refine lv_aload_n hx hb d_Mo_makeFile_22 rfl (lv_at hl 0 rfl) ?_
        refine va_get (D := (dC, dI)) (ci := 12) (v := .ref M.a_list) (C := R_Mo) (T := F_Mo) (N := 66) hx hb hts (fun w h => u_Mq_Mo w (i_Mo w h)) hown hK hP 0 rfl rfl 62 (by decide) (hts _ (u_Mq_Mo _ k_Mo_69)) (fun _ h9 => h9) rfl d_Mo_makeFile_23 ?_
        refine lv_iload_n hx hb d_Mo_makeFile_26 rfl (lv_at hl 3 rfl) ?_
        refine lv_aload_n hx hb d_Mo_makeFile_27 rfl (lv_at hl 0 rfl) ?_
        refine lv_iload_n hx hb d_Mo_makeFile_28 rfl (lv_at hl 3 rfl) ?_
        obtain ⟨r_13, S_13, hc_13, h⟩ := lf_cE h
        have hFc := lx_free hD hS hA
        refine va_calli (va_runV (As := [.int y_3]) (rest := [.int y_3, .ref M.a_list]) ⟨hx, hb, hml, hown, hts⟩ (l_Mo_copied l dC dI X _ hc_13) (cwV 1 hts (gwV good_Mq (u_Mq_Mo _ k_Mo_421) (u_Mq_Mo _ k_Mo_422) (u_Mq_Mo _ k_Mo_542) (u_Mq_Mo _ k_Mo_0) (wcs (u_Mq_Mo _ k_Mo_423) (fun _ h => h))) rfl rfl rfl (by decide +kernel) ⟨Nat.le_of_ble_eq_true rfl, Nat.le_of_ble_eq_true rfl⟩) (pv_ofE (X.same _) (fun U z1 z2 => X.mono _ _ U hFc (hEw _ _ hS U z1 z2)) hP hK hD (va_recv hK hP (ci := 12) (q0 := 0) rfl rfl)) rfl rfl hl.1 rfl (lv_room (Nat.le_of_ble_eq_true rfl)) d_Mo_makeFile_29 ⟨by decide, by decide⟩) hS (fun q _ h => hFc q h) hFc (fun r_ u t H locs ht hvm hw hB hz1 hk1 hS => ?_)
        rw [hw]
        obtain ⟨hP, -, hD⟩ := hB
        rw [ht] at hP
        have hD := lx_dj hD hFc
        obtain ⟨g_14, h⟩ := lf_gE h
        refine va_iast hx hb hK hP hD hS 27 26 rfl rfl g_14 d_Mo_makeFile_32 (fun H locs hP hD hS => ?_)
        obtain ⟨S_15, eS_15, h⟩ := lf_lX h
        have hP := lx_newP eS_15 hP
        have hD := lx_newD eS_15 hD
        obtain ⟨x_16, ex_16, h⟩ := lf_lX h
        refine lv_iinc (v := x_16) (lv' := [(3, .int x_16), (0, .ref M.o), (1, .int y_1), (2, .int y_2)]) hx hb d_Mo_makeFile_33 hl (k := 3) rfl (by rw [ex_16]; rfl) (by decide) rfl (fun ls hl => ?_)
        refine lv_goto (tgt := 17) hx hb d_Mo_makeFile_36 (by decide) ?_
        exact hr_17 y_1 y_2 x_16 S_15 _ _ _ h hP hD hS (lv_sub hl [1, 2, 3, 0] rfl)
  rw [f_Mo_makeFile] at h
  refine lv_aload_n hx hb d_Mo_makeFile_0 rfl (lv_at hl 0 rfl) ?_
  refine lv_aload_n hx hb d_Mo_makeFile_1 rfl (lv_at hl 0 rfl) ?_
  refine lv_iload_n hx hb d_Mo_makeFile_2 rfl (lv_at hl 1 rfl) ?_
  obtain ⟨r_1, S_1, hc_1, h⟩ := lf_cE h
  have hFc := lx_free hD hS hA
  refine va_calli (va_runV (As := [.int p0]) (rest := [.ref M.o]) ⟨hx, hb, hml, hown, hts⟩ (l_Mo_beginOf l dC dI X _ hc_1) (cwV 1 hts (gwV good_Mq (u_Mq_Mo _ k_Mo_124) (u_Mq_Mo _ k_Mo_125) (u_Mq_Mo _ k_Mo_490) (u_Mq_Mo _ k_Mo_0) (wcs (u_Mq_Mo _ k_Mo_126) (fun _ h => h))) rfl rfl rfl (by decide +kernel) ⟨Nat.le_of_ble_eq_true rfl, Nat.le_of_ble_eq_true rfl⟩) (pv_ofE (X.same _) (fun U z1 z2 => X.mono _ _ U hFc (hEw _ _ hS U z1 z2)) hP hK hD (va_recv hK hP (ci := 12) (q0 := 0) rfl rfl)) rfl rfl hl.1 rfl (lv_room (Nat.le_of_ble_eq_true rfl)) d_Mo_makeFile_3 ⟨by decide, by decide⟩) hS (fun q _ h => hFc q h) hFc (fun r_ u t H locs ht hvm hw hB hz1 hk1 hS => ?_)
  rw [hw]
  obtain ⟨hP, -, hD⟩ := hB
  rw [ht] at hP
  have hD := lx_dj hD hFc
  obtain ⟨S_2, hc_2, h⟩ := lf_bE h
  have hFc := lx_free hD hS hA
  refine va_callv (va_runV (As := [.int r_1]) (rest := []) ⟨hx, hb, hml, hown, hts⟩ (l_Mo_walk l dC dI X _ hc_2) (cwV 1 hts (gwV good_Mq (u_Mq_Mo _ k_Mo_275) (u_Mq_Mo _ k_Mo_276) (u_Mq_Mo _ k_Mo_487) (u_Mq_Mo _ k_Mo_0) (wcs (u_Mq_Mo _ k_Mo_277) (fun _ h => h))) rfl rfl rfl (by decide +kernel) ⟨Nat.le_of_ble_eq_true rfl, Nat.le_of_ble_eq_true rfl⟩) (pv_ofE (X.same _) (fun U z1 z2 => X.mono _ _ U hFc (hEw _ _ hS U z1 z2)) hP hK hD (va_recv hK hP (ci := 12) (q0 := 0) rfl rfl)) rfl rfl hl.1 rfl (lv_room (Nat.le_of_ble_eq_true rfl)) d_Mo_makeFile_6 ⟨by decide, by decide⟩) hS (fun q _ h => hFc q h) hFc (fun u t H locs ht hvm hw hB hz1 hk1 hS => ?_)
  obtain ⟨hP, -, hD⟩ := hB
  rw [ht] at hP
  have hD := lx_dj hD hFc
  refine lv_aload_n hx hb d_Mo_makeFile_9 rfl (lv_at hl 0 rfl) ?_
  refine lv_iload_n hx hb d_Mo_makeFile_10 rfl (lv_at hl 1 rfl) ?_
  obtain ⟨r_3, S_3, hc_3, h⟩ := lf_cE h
  have hFc := lx_free hD hS hA
  refine va_calli (va_runV (As := [.int p0]) (rest := []) ⟨hx, hb, hml, hown, hts⟩ (l_Mo_fileBlocks l dC dI X _ hc_3) (cwV 1 hts (gwV good_Mq (u_Mq_Mo _ k_Mo_397) (u_Mq_Mo _ k_Mo_398) (u_Mq_Mo _ k_Mo_528) (u_Mq_Mo _ k_Mo_0) (wcs (u_Mq_Mo _ k_Mo_399) (fun _ h => h))) rfl rfl rfl (by decide +kernel) ⟨Nat.le_of_ble_eq_true rfl, Nat.le_of_ble_eq_true rfl⟩) (pv_ofE (X.same _) (fun U z1 z2 => X.mono _ _ U hFc (hEw _ _ hS U z1 z2)) hP hK hD (va_recv hK hP (ci := 12) (q0 := 0) rfl rfl)) rfl rfl hl.1 rfl (lv_room (Nat.le_of_ble_eq_true rfl)) d_Mo_makeFile_11 ⟨by decide, by decide⟩) hS (fun q _ h => hFc q h) hFc (fun r_ u t H locs ht hvm hw hB hz1 hk1 hS => ?_)
  rw [hw]
  obtain ⟨hP, -, hD⟩ := hB
  rw [ht] at hP
  have hD := lx_dj hD hFc
  refine lv_istore_n (lv' := [(2, .int r_3), (0, .ref M.o), (1, .int p0)]) hx hb d_Mo_makeFile_14 rfl hl (by decide) rfl (fun ls hl => ?_)
  refine lv_iconst (v := 0) hx hb d_Mo_makeFile_15 (by decide) ?_
  refine lv_istore_n (lv' := [(3, .int 0), (2, .int r_3), (0, .ref M.o), (1, .int p0)]) hx hb d_Mo_makeFile_16 rfl hl (by decide) rfl (fun ls hl => ?_)
  exact hB_17 K p0 r_3 0 S_3 _ _ _ h hP hD hS (lv_sub hl [2, 3, 1, 0] rfl)
set_option maxHeartbeats 4000000 in
set_option maxRecDepth 100000 in
theorem l_Mo_freeBlocks (l : Launch) (dC : Nat → ClassId) (dI : Nat → Nat → Nat) {K : Nat} {M : MA} {E : (Nat → Prop) → State → Prop} (X : lx_X l dC dI K M E) (sz : Nat) {S S' : MS} {p0 : Int32} {r : Int32} (h : f_Mo_freeBlocks K S p0 = some (r, S')) : Met l y_Mo_freeBlocks (.code y_Mo_freeBlocks b_Mo_freeBlocks 4 (some .int) :: V_Mq) ({ frames := 1, cells := 0, slots := 0, locals := 21 }) (va_Pc [.ref M.o, .int p0] (fun U => U.heap.size = sz ∧ at_ (dC, dI) (fun _ => True) (wM M S) (tM M) U ∧ E (va_A (wM M S) sz) U)) (va_Qi (fun (r_ : Int32) (u : Unit) => r_ = r) (fun (u : Unit) t => at_ (dC, dI) (va_A (wM M S) sz) (wM M S') (tM M) t) (va_A (wM M S) sz)) 0 0 (va_A (wM M S) sz) := by
  refine Met.ofW (cc := b_Mo_freeBlocks) (maxL := 4) (ret := (some .int)) (by decide) rfl ?_
  intro p e s m args below meth c s₁ B hml hv
  obtain ⟨rfl, hsz, ⟨hP, hK, hD0⟩, hE⟩ := hv
  have hx := B.exec
  have hb := B.bytes
  have hr := B.returns
  have hts0 := atoms_spec (ws := .code y_Mo_freeBlocks b_Mo_freeBlocks 4 (some .int) :: V_Mq) B.pre
  have hts : ∀ w ∈ V_Mq, w.before ([.ref M.o, .int p0] : List Value).toArray s = true := fun w h => hts0 w (List.mem_cons_of_mem _ h)
  have hown : s.vm.findClass R_Mo = some m.cls := findClass_of_methodNamed B.named
  subst hsz
  have hD := hD0.self (sz := s.heap.size)
  generalize hAe : va_A (wM M S) s.heap.size = A at hD hE ⊢
  have hA : ∀ q : Nat, s.heap.size ≤ q → A q := fun q h => by rw [← hAe]; exact Or.inr h
  have hS : va_S A s.heap s.heap [] := va_S.rf
  have hP : va_P (dC, dI) classes (wM M S) s.heap := hP
  have hK : va_K (dC, dI) classes (tM M) s := hK
  have hEw : ∀ (H : Heap) (locs : List Loc), va_S A s.heap H locs → ∀ U : State, U.heap = H → s.WarmedH U.vm → E A U := fun H locs hS U hU hW => X.kept A s U H locs hE hS hU hW
  have hl := lv_entry ([.ref M.o, .int p0]) (n := 4) (Nat.le_of_ble_eq_true rfl)
  rw [lg_entry_eq]
  generalize (lg_sl ([.ref M.o, .int p0]) ++ List.replicate (4 - (lg_sl ([.ref M.o, .int p0])).length) Slot.unset).toArray = ls at hl ⊢
  have hl : lv_has ls 4 [(0, .ref M.o), (1, .int p0)] := hl
  refine qabs (fun Q hQ => ?_)
  have hB_37 : ∀ (rec_4 : Int32 → Int32 → Int32 → MS → Option (Int32 × MS)) (hr_4 : ∀ (y_1 : Int32) (y_2 : Int32) (y_3 : Int32) (S : MS) (H : Heap) (locs : List Loc) (ls : Array Slot), rec_4 y_1 y_2 y_3 S = some (r, S') → va_P (dC, dI) classes (wM M S) H → va_D A (wM M S) → va_S A s.heap H locs → lv_has ls 4 [(0, .ref M.o), (1, .int y_1), (2, .int y_2), (3, .int y_3)] → W p l e ({ frames := 1, cells := 0, slots := 0, locals := 21 }) s m ([.ref M.o, .int p0] : List Value).toArray below meth c H locs 0 0 Q (F0 m 4 ls [])), ∀ (y_1 : Int32) (y_3 : Int32) (z_0 : Int32) (z_1 : Int32) (S : MS) (H : Heap) (locs : List Loc) (ls : Array Slot), f_Mo_freeBlocks_37 K rec_4 y_1 y_3 z_0 z_1 S = some (r, S') → va_P (dC, dI) classes (wM M S) H → va_D A (wM M S) → va_S A s.heap H locs → lv_has ls 4 [(0, .ref M.o), (1, .int y_1), (3, .int y_3)] → W p l e ({ frames := 1, cells := 0, slots := 0, locals := 21 }) s m ([.ref M.o, .int p0] : List Value).toArray below meth c H locs 0 0 Q (F0 m 37 ls [.int z_1, .int z_0]) := by
    intro rec_4 hr_4 y_1 y_3 z_0 z_1 S H locs ls h hP hD hS hl
    rw [f_Mo_freeBlocks_37] at h
    refine lv_iadd hx hb d_Mo_freeBlocks_37 ?_
    refine lv_topi (fun x_5 ex_5 => ?_)
    have h := lf_lE h ex_5
    refine lv_istore_n (lv' := [(2, .int x_5), (0, .ref M.o), (1, .int y_1), (3, .int y_3)]) hx hb d_Mo_freeBlocks_38 rfl hl (by decide) rfl (fun ls hl => ?_)
    obtain ⟨x_6, ex_6, h⟩ := lf_lX h
    refine lv_iinc (v := x_6) (lv' := [(3, .int x_6), (2, .int x_5), (0, .ref M.o), (1, .int y_1)]) hx hb d_Mo_freeBlocks_39 hl (k := 3) rfl (by rw [ex_6]; rfl) (by decide) rfl (fun ls hl => ?_)
    refine lv_goto (tgt := 4) hx hb d_Mo_freeBlocks_42 (by decide) ?_
    exact hr_4 y_1 x_5 x_6 S _ _ _ h hP hD hS (lv_sub hl [2, 3, 1, 0] rfl)
  have hB_4 : ∀ (k : Nat), ∀ (y_1 : Int32) (y_2 : Int32) (y_3 : Int32) (S : MS) (H : Heap) (locs : List Loc) (ls : Array Slot), f_Mo_freeBlocks_4 K k y_1 y_2 y_3 S = some (r, S') → va_P (dC, dI) classes (wM M S) H → va_D A (wM M S) → va_S A s.heap H locs → lv_has ls 4 [(0, .ref M.o), (1, .int y_1), (2, .int y_2), (3, .int y_3)] → W p l e ({ frames := 1, cells := 0, slots := 0, locals := 21 }) s m ([.ref M.o, .int p0] : List Value).toArray below meth c H locs 0 0 Q (F0 m 4 ls []) := by
    intro k
    induction k with
    | zero => intro y_1 y_2 y_3 S H locs ls h; exact lf_no h
    | succ k hr_4 =>
      intro y_1 y_2 y_3 S H locs ls h hP hD hS hl
      rw [f_Mo_freeBlocks_4] at h
      refine lv_iload_n hx hb d_Mo_freeBlocks_4 rfl (lv_at hl 3 rfl) ?_
      refine lv_aload_n hx hb d_Mo_freeBlocks_5 rfl (lv_at hl 0 rfl) ?_
      refine lv_iload_n hx hb d_Mo_freeBlocks_6 rfl (lv_at hl 1 rfl) ?_
      obtain ⟨r_1, S_1, hc_1, h⟩ := lf_cE h
      have hFc := lx_free hD hS hA
      refine va_calli (va_runV (As := [.int y_1]) (rest := [.int y_3]) ⟨hx, hb, hml, hown, hts⟩ (l_Mo_groupSize l dC dI X _ hc_1) (cwV 1 hts (gwV good_Mq (u_Mq_Mo _ k_Mo_373) (u_Mq_Mo _ k_Mo_374) (u_Mq_Mo _ k_Mo_529) (u_Mq_Mo _ k_Mo_0) (wcs (u_Mq_Mo _ k_Mo_375) (fun _ h => h))) rfl rfl rfl (by decide +kernel) ⟨Nat.le_of_ble_eq_true rfl, Nat.le_of_ble_eq_true rfl⟩) (pv_ofE (X.same _) (fun U z1 z2 => X.mono _ _ U hFc (hEw _ _ hS U z1 z2)) hP hK hD (va_recv hK hP (ci := 12) (q0 := 0) rfl rfl)) rfl rfl hl.1 rfl (lv_room (Nat.le_of_ble_eq_true rfl)) d_Mo_freeBlocks_7 ⟨by decide, by decide⟩) hS (fun q _ h => hFc q h) hFc (fun r_ u t H locs ht hvm hw hB hz1 hk1 hS => ?_)
      rw [hw]
      obtain ⟨hP, -, hD⟩ := hB
      rw [ht] at hP
      have hD := lx_dj hD hFc
      refine lv_icmp_ge (tgt := 45) hx hb d_Mo_freeBlocks_10 (by decide) (fun c_2 => ?_) (fun c_2 => ?_)
      · have h := lf_t h c_2
        refine lv_iload_n hx hb d_Mo_freeBlocks_45 rfl (lv_at hl 2 rfl) ?_
        rw [hQ]
        have e1 : y_2 = r := congrArg Prod.fst (Option.some.inj h)
        have e2 : S_1 = S' := congrArg Prod.snd (Option.some.inj h)
        have hP := lx_newP e2.symm hP
        have hD := lx_newD e2.symm hD
        exact W.iret (v := y_2) hx hb hr (fun t ht hW => ⟨⟨y_2, (), rfl, e1, by rw [ht]; exact hP, va_K.moved hW.alike hK, hD⟩, hS.F ht⟩) hS.2.2 d_Mo_freeBlocks_46
      · have h := lf_f h c_2
        refine lv_iload_n hx hb d_Mo_freeBlocks_13 rfl (lv_at hl 2 rfl) ?_
        refine lv_aload_n hx hb d_Mo_freeBlocks_14 rfl (lv_at hl 0 rfl) ?_
        refine va_get (D := (dC, dI)) (ci := 12) (v := .ref M.a_used) (C := R_Mo) (T := F_Mo) (N := 66) hx hb hts (fun w h => u_Mq_Mo w (i_Mo w h)) hown hK hP 0 rfl rfl 52 (by decide) (hts _ (u_Mq_Mo _ k_Mo_59)) (fun _ h9 => h9) rfl d_Mo_freeBlocks_15 ?_
        refine lv_iconst (v := 1) hx hb d_Mo_freeBlocks_18 (by decide) ?_
        refine lv_iload_n hx hb d_Mo_freeBlocks_19 rfl (lv_at hl 1 rfl) ?_
        refine lv_aload_n hx hb d_Mo_freeBlocks_20 rfl (lv_at hl 0 rfl) ?_
        refine va_get (D := (dC, dI)) (ci := 12) (v := .int S_1.v_per) (C := R_Mo) (T := F_Mo) (N := 66) hx hb hts (fun w h => u_Mq_Mo w (i_Mo w h)) hown hK hP 0 rfl rfl 47 (by decide) (hts _ (u_Mq_Mo _ k_Mo_54)) (fun _ h9 => h9) rfl d_Mo_freeBlocks_21 ?_
        refine lv_imul hx hb d_Mo_freeBlocks_24 ?_
        refine lv_iadd hx hb d_Mo_freeBlocks_25 ?_
        refine lv_iload_n hx hb d_Mo_freeBlocks_26 rfl (lv_at hl 3 rfl) ?_
        refine lv_iadd hx hb d_Mo_freeBlocks_27 ?_
        obtain ⟨g_3, h⟩ := lf_gE h
        refine va_zald hx hb hK hP 22 21 rfl rfl g_3 d_Mo_freeBlocks_28 ?_
        refine lv_if_eq (tgt := 36) hx hb d_Mo_freeBlocks_29 (by decide) (fun c_4 => ?_) (fun c_4 => ?_)
        · have h := lf_t h c_4
          refine lv_iconst (v := 1) hx hb d_Mo_freeBlocks_36 (by decide) ?_
          exact hB_37 _ hr_4 y_1 y_3 y_2 1 S_1 _ _ _ h hP hD hS (lv_sub hl [0, 1, 3] rfl)
        · have h := lf_f h c_4
          refine lv_iconst (v := 0) hx hb d_Mo_freeBlocks_32 (by decide) ?_
          refine lv_goto (tgt := 37) hx hb d_Mo_freeBlocks_33 (by decide) ?_
          exact hB_37 _ hr_4 y_1 y_3 y_2 0 S_1 _ _ _ h hP hD hS (lv_sub hl [0, 1, 3] rfl)
  rw [f_Mo_freeBlocks] at h
  refine lv_iconst (v := 0) hx hb d_Mo_freeBlocks_0 (by decide) ?_
  refine lv_istore_n (lv' := [(2, .int 0), (0, .ref M.o), (1, .int p0)]) hx hb d_Mo_freeBlocks_1 rfl hl (by decide) rfl (fun ls hl => ?_)
  refine lv_iconst (v := 0) hx hb d_Mo_freeBlocks_2 (by decide) ?_
  refine lv_istore_n (lv' := [(3, .int 0), (2, .int 0), (0, .ref M.o), (1, .int p0)]) hx hb d_Mo_freeBlocks_3 rfl hl (by decide) rfl (fun ls hl => ?_)
  exact hB_4 K p0 0 0 S _ _ _ h hP hD hS (lv_sub hl [2, 3, 1, 0] rfl)
set_option maxHeartbeats 4000000 in
set_option maxRecDepth 100000 in
theorem l_Mo_isUsed (l : Launch) (dC : Nat → ClassId) (dI : Nat → Nat → Nat) {K : Nat} {M : MA} {E : (Nat → Prop) → State → Prop} (X : lx_X l dC dI K M E) (sz : Nat) {S S' : MS} {p0 : Int32} {r : Int32} (h : f_Mo_isUsed K S p0 = some (r, S')) : Met l y_Mo_isUsed (.code y_Mo_isUsed b_Mo_isUsed 2 (some .boolean) :: V_Mq) ({ frames := 0, cells := 0, slots := 0, locals := 0 }) (va_Pc [.ref M.o, .int p0] (fun U => U.heap.size = sz ∧ at_ (dC, dI) (fun _ => True) (wM M S) (tM M) U ∧ E (va_A (wM M S) sz) U)) (va_Qi (fun (r_ : Int32) (u : Unit) => r_ = r) (fun (u : Unit) t => at_ (dC, dI) (va_A (wM M S) sz) (wM M S') (tM M) t) (va_A (wM M S) sz)) 0 0 (va_A (wM M S) sz) := by
  refine Met.ofW (cc := b_Mo_isUsed) (maxL := 2) (ret := (some .boolean)) (by decide) rfl ?_
  intro p e s m args below meth c s₁ B hml hv
  obtain ⟨rfl, hsz, ⟨hP, hK, hD0⟩, hE⟩ := hv
  have hx := B.exec
  have hb := B.bytes
  have hr := B.returns
  have hts0 := atoms_spec (ws := .code y_Mo_isUsed b_Mo_isUsed 2 (some .boolean) :: V_Mq) B.pre
  have hts : ∀ w ∈ V_Mq, w.before ([.ref M.o, .int p0] : List Value).toArray s = true := fun w h => hts0 w (List.mem_cons_of_mem _ h)
  have hown : s.vm.findClass R_Mo = some m.cls := findClass_of_methodNamed B.named
  subst hsz
  have hD := hD0.self (sz := s.heap.size)
  generalize hAe : va_A (wM M S) s.heap.size = A at hD hE ⊢
  have hA : ∀ q : Nat, s.heap.size ≤ q → A q := fun q h => by rw [← hAe]; exact Or.inr h
  have hS : va_S A s.heap s.heap [] := va_S.rf
  have hP : va_P (dC, dI) classes (wM M S) s.heap := hP
  have hK : va_K (dC, dI) classes (tM M) s := hK
  have hEw : ∀ (H : Heap) (locs : List Loc), va_S A s.heap H locs → ∀ U : State, U.heap = H → s.WarmedH U.vm → E A U := fun H locs hS U hU hW => X.kept A s U H locs hE hS hU hW
  have hl := lv_entry ([.ref M.o, .int p0]) (n := 2) (Nat.le_of_ble_eq_true rfl)
  rw [lg_entry_eq]
  generalize (lg_sl ([.ref M.o, .int p0]) ++ List.replicate (2 - (lg_sl ([.ref M.o, .int p0])).length) Slot.unset).toArray = ls at hl ⊢
  have hl : lv_has ls 2 [(0, .ref M.o), (1, .int p0)] := hl
  refine qabs (fun Q hQ => ?_)
  rw [f_Mo_isUsed] at h
  refine lv_iload_n hx hb d_Mo_isUsed_0 rfl (lv_at hl 1 rfl) ?_
  refine lv_bipush (v := 10) hx hb d_Mo_isUsed_1 (by decide) ?_
  refine lv_aload_n hx hb d_Mo_isUsed_3 rfl (lv_at hl 0 rfl) ?_
  refine va_get (D := (dC, dI)) (ci := 12) (v := .int S.v_items) (C := R_Mo) (T := F_Mo) (N := 66) hx hb hts (fun w h => u_Mq_Mo w (i_Mo w h)) hown hK hP 0 rfl rfl 21 (by decide) (hts _ (u_Mq_Mo _ k_Mo_28)) (fun _ h9 => h9) rfl d_Mo_isUsed_4 ?_
  refine lv_iadd hx hb d_Mo_isUsed_7 ?_
  refine lv_icmp_gt (tgt := 15) hx hb d_Mo_isUsed_8 (by decide) (fun c_1 => ?_) (fun c_1 => ?_)
  · have h := lf_t h c_1
    refine lv_iconst (v := 0) hx hb d_Mo_isUsed_15 (by decide) ?_
    rw [hQ]
    have e1 : (0 : Int32) = r := congrArg Prod.fst (Option.some.inj h)
    have e2 : S = S' := congrArg Prod.snd (Option.some.inj h)
    have hP := lx_newP e2.symm hP
    have hD := lx_newD e2.symm hD
    exact W.zret (v := 0) hx hb hr rfl (fun t ht hW => ⟨⟨0, (), rfl, e1, by rw [ht]; exact hP, va_K.moved hW.alike hK, hD⟩, hS.F ht⟩) hS.2.2 d_Mo_isUsed_16
  · have h := lf_f h c_1
    refine lv_iconst (v := 1) hx hb d_Mo_isUsed_11 (by decide) ?_
    refine lv_goto (tgt := 16) hx hb d_Mo_isUsed_12 (by decide) ?_
    rw [hQ]
    have e1 : (1 : Int32) = r := congrArg Prod.fst (Option.some.inj h)
    have e2 : S = S' := congrArg Prod.snd (Option.some.inj h)
    have hP := lx_newP e2.symm hP
    have hD := lx_newD e2.symm hD
    exact W.zret (v := 1) hx hb hr rfl (fun t ht hW => ⟨⟨1, (), rfl, e1, by rw [ht]; exact hP, va_K.moved hW.alike hK, hD⟩, hS.F ht⟩) hS.2.2 d_Mo_isUsed_16
set_option maxHeartbeats 4000000 in
set_option maxRecDepth 100000 in
theorem l_Mo_freeInodes (l : Launch) (dC : Nat → ClassId) (dI : Nat → Nat → Nat) {K : Nat} {M : MA} {E : (Nat → Prop) → State → Prop} (X : lx_X l dC dI K M E) (sz : Nat) {S S' : MS} {p0 : Int32} {r : Int32} (h : f_Mo_freeInodes K S p0 = some (r, S')) : Met l y_Mo_freeInodes (.code y_Mo_freeInodes b_Mo_freeInodes 4 (some .int) :: V_Mq) ({ frames := 1, cells := 0, slots := 0, locals := 21 }) (va_Pc [.ref M.o, .int p0] (fun U => U.heap.size = sz ∧ at_ (dC, dI) (fun _ => True) (wM M S) (tM M) U ∧ E (va_A (wM M S) sz) U)) (va_Qi (fun (r_ : Int32) (u : Unit) => r_ = r) (fun (u : Unit) t => at_ (dC, dI) (va_A (wM M S) sz) (wM M S') (tM M) t) (va_A (wM M S) sz)) 0 0 (va_A (wM M S) sz) := by
  refine Met.ofW (cc := b_Mo_freeInodes) (maxL := 4) (ret := (some .int)) (by decide) rfl ?_
  intro p e s m args below meth c s₁ B hml hv
  obtain ⟨rfl, hsz, ⟨hP, hK, hD0⟩, hE⟩ := hv
  have hx := B.exec
  have hb := B.bytes
  have hr := B.returns
  have hts0 := atoms_spec (ws := .code y_Mo_freeInodes b_Mo_freeInodes 4 (some .int) :: V_Mq) B.pre
  have hts : ∀ w ∈ V_Mq, w.before ([.ref M.o, .int p0] : List Value).toArray s = true := fun w h => hts0 w (List.mem_cons_of_mem _ h)
  have hown : s.vm.findClass R_Mo = some m.cls := findClass_of_methodNamed B.named
  subst hsz
  have hD := hD0.self (sz := s.heap.size)
  generalize hAe : va_A (wM M S) s.heap.size = A at hD hE ⊢
  have hA : ∀ q : Nat, s.heap.size ≤ q → A q := fun q h => by rw [← hAe]; exact Or.inr h
  have hS : va_S A s.heap s.heap [] := va_S.rf
  have hP : va_P (dC, dI) classes (wM M S) s.heap := hP
  have hK : va_K (dC, dI) classes (tM M) s := hK
  have hEw : ∀ (H : Heap) (locs : List Loc), va_S A s.heap H locs → ∀ U : State, U.heap = H → s.WarmedH U.vm → E A U := fun H locs hS U hU hW => X.kept A s U H locs hE hS hU hW
  have hl := lv_entry ([.ref M.o, .int p0]) (n := 4) (Nat.le_of_ble_eq_true rfl)
  rw [lg_entry_eq]
  generalize (lg_sl ([.ref M.o, .int p0]) ++ List.replicate (4 - (lg_sl ([.ref M.o, .int p0])).length) Slot.unset).toArray = ls at hl ⊢
  have hl : lv_has ls 4 [(0, .ref M.o), (1, .int p0)] := hl
  refine qabs (fun Q hQ => ?_)
  have hB_33 : ∀ (rec_4 : Int32 → Int32 → Int32 → MS → Option (Int32 × MS)) (hr_4 : ∀ (y_1 : Int32) (y_2 : Int32) (y_3 : Int32) (S : MS) (H : Heap) (locs : List Loc) (ls : Array Slot), rec_4 y_1 y_2 y_3 S = some (r, S') → va_P (dC, dI) classes (wM M S) H → va_D A (wM M S) → va_S A s.heap H locs → lv_has ls 4 [(0, .ref M.o), (1, .int y_1), (2, .int y_2), (3, .int y_3)] → W p l e ({ frames := 1, cells := 0, slots := 0, locals := 21 }) s m ([.ref M.o, .int p0] : List Value).toArray below meth c H locs 0 0 Q (F0 m 4 ls [])), ∀ (y_1 : Int32) (y_3 : Int32) (z_0 : Int32) (z_1 : Int32) (S : MS) (H : Heap) (locs : List Loc) (ls : Array Slot), f_Mo_freeInodes_33 K rec_4 y_1 y_3 z_0 z_1 S = some (r, S') → va_P (dC, dI) classes (wM M S) H → va_D A (wM M S) → va_S A s.heap H locs → lv_has ls 4 [(0, .ref M.o), (1, .int y_1), (3, .int y_3)] → W p l e ({ frames := 1, cells := 0, slots := 0, locals := 21 }) s m ([.ref M.o, .int p0] : List Value).toArray below meth c H locs 0 0 Q (F0 m 33 ls [.int z_1, .int z_0]) := by
    intro rec_4 hr_4 y_1 y_3 z_0 z_1 S H locs ls h hP hD hS hl
    rw [f_Mo_freeInodes_33] at h
    refine lv_iadd hx hb d_Mo_freeInodes_33 ?_
    refine lv_topi (fun x_4 ex_4 => ?_)
    have h := lf_lE h ex_4
    refine lv_istore_n (lv' := [(2, .int x_4), (0, .ref M.o), (1, .int y_1), (3, .int y_3)]) hx hb d_Mo_freeInodes_34 rfl hl (by decide) rfl (fun ls hl => ?_)
    obtain ⟨x_5, ex_5, h⟩ := lf_lX h
    refine lv_iinc (v := x_5) (lv' := [(3, .int x_5), (2, .int x_4), (0, .ref M.o), (1, .int y_1)]) hx hb d_Mo_freeInodes_35 hl (k := 3) rfl (by rw [ex_5]; rfl) (by decide) rfl (fun ls hl => ?_)
    refine lv_goto (tgt := 4) hx hb d_Mo_freeInodes_38 (by decide) ?_
    exact hr_4 y_1 x_4 x_5 S _ _ _ h hP hD hS (lv_sub hl [2, 3, 1, 0] rfl)
  have hB_4 : ∀ (k : Nat), ∀ (y_1 : Int32) (y_2 : Int32) (y_3 : Int32) (S : MS) (H : Heap) (locs : List Loc) (ls : Array Slot), f_Mo_freeInodes_4 K k y_1 y_2 y_3 S = some (r, S') → va_P (dC, dI) classes (wM M S) H → va_D A (wM M S) → va_S A s.heap H locs → lv_has ls 4 [(0, .ref M.o), (1, .int y_1), (2, .int y_2), (3, .int y_3)] → W p l e ({ frames := 1, cells := 0, slots := 0, locals := 21 }) s m ([.ref M.o, .int p0] : List Value).toArray below meth c H locs 0 0 Q (F0 m 4 ls []) := by
    intro k
    induction k with
    | zero => intro y_1 y_2 y_3 S H locs ls h; exact lf_no h
    | succ k hr_4 =>
      intro y_1 y_2 y_3 S H locs ls h hP hD hS hl
      rw [f_Mo_freeInodes_4] at h
      refine lv_iload_n hx hb d_Mo_freeInodes_4 rfl (lv_at hl 3 rfl) ?_
      refine lv_aload_n hx hb d_Mo_freeInodes_5 rfl (lv_at hl 0 rfl) ?_
      refine va_get (D := (dC, dI)) (ci := 12) (v := .int S.v_inodes) (C := R_Mo) (T := F_Mo) (N := 66) hx hb hts (fun w h => u_Mq_Mo w (i_Mo w h)) hown hK hP 0 rfl rfl 48 (by decide) (hts _ (u_Mq_Mo _ k_Mo_55)) (fun _ h9 => h9) rfl d_Mo_freeInodes_6 ?_
      refine lv_icmp_gt (tgt := 41) hx hb d_Mo_freeInodes_9 (by decide) (fun c_1 => ?_) (fun c_1 => ?_)
      · have h := lf_t h c_1
        refine lv_iload_n hx hb d_Mo_freeInodes_41 rfl (lv_at hl 2 rfl) ?_
        rw [hQ]
        have e1 : y_2 = r := congrArg Prod.fst (Option.some.inj h)
        have e2 : S = S' := congrArg Prod.snd (Option.some.inj h)
        have hP := lx_newP e2.symm hP
        have hD := lx_newD e2.symm hD
        exact W.iret (v := y_2) hx hb hr (fun t ht hW => ⟨⟨y_2, (), rfl, e1, by rw [ht]; exact hP, va_K.moved hW.alike hK, hD⟩, hS.F ht⟩) hS.2.2 d_Mo_freeInodes_42
      · have h := lf_f h c_1
        refine lv_iload_n hx hb d_Mo_freeInodes_12 rfl (lv_at hl 2 rfl) ?_
        refine lv_aload_n hx hb d_Mo_freeInodes_13 rfl (lv_at hl 0 rfl) ?_
        refine lv_iload_n hx hb d_Mo_freeInodes_14 rfl (lv_at hl 1 rfl) ?_
        refine lv_aload_n hx hb d_Mo_freeInodes_15 rfl (lv_at hl 0 rfl) ?_
        refine va_get (D := (dC, dI)) (ci := 12) (v := .int S.v_inodes) (C := R_Mo) (T := F_Mo) (N := 66) hx hb hts (fun w h => u_Mq_Mo w (i_Mo w h)) hown hK hP 0 rfl rfl 48 (by decide) (hts _ (u_Mq_Mo _ k_Mo_55)) (fun _ h9 => h9) rfl d_Mo_freeInodes_16 ?_
        refine lv_imul hx hb d_Mo_freeInodes_19 ?_
        refine lv_iload_n hx hb d_Mo_freeInodes_20 rfl (lv_at hl 3 rfl) ?_
        refine lv_iadd hx hb d_Mo_freeInodes_21 ?_
        obtain ⟨r_2, S_2, hc_2, h⟩ := lf_cE h
        have hFc := lx_free hD hS hA
        refine va_calli (va_runV (As := [.int ((y_1 * S.v_inodes) + y_3)]) (rest := [.int y_2]) ⟨hx, hb, hml, hown, hts⟩ (l_Mo_isUsed l dC dI X _ hc_2) (cwV 1 hts (gwV good_Mq (u_Mq_Mo _ k_Mo_459) (u_Mq_Mo _ k_Mo_460) (u_Mq_Mo _ k_Mo_552) (u_Mq_Mo _ k_Mo_0) (wcs (u_Mq_Mo _ k_Mo_461) (fun _ h => h))) rfl rfl rfl (by decide +kernel) ⟨Nat.le_of_ble_eq_true rfl, Nat.le_of_ble_eq_true rfl⟩) (pv_ofE (X.same _) (fun U z1 z2 => X.mono _ _ U hFc (hEw _ _ hS U z1 z2)) hP hK hD (va_recv hK hP (ci := 12) (q0 := 0) rfl rfl)) rfl rfl hl.1 rfl (lv_room (Nat.le_of_ble_eq_true rfl)) d_Mo_freeInodes_22 ⟨by decide, by decide⟩) hS (fun q _ h => hFc q h) hFc (fun r_ u t H locs ht hvm hw hB hz1 hk1 hS => ?_)
        rw [hw]
        obtain ⟨hP, -, hD⟩ := hB
        rw [ht] at hP
        have hD := lx_dj hD hFc
        refine lv_if_eq (tgt := 32) hx hb d_Mo_freeInodes_25 (by decide) (fun c_3 => ?_) (fun c_3 => ?_)
        · have h := lf_t h c_3
          refine lv_iconst (v := 1) hx hb d_Mo_freeInodes_32 (by decide) ?_
          exact hB_33 _ hr_4 y_1 y_3 y_2 1 S_2 _ _ _ h hP hD hS (lv_sub hl [0, 1, 3] rfl)
        · have h := lf_f h c_3
          refine lv_iconst (v := 0) hx hb d_Mo_freeInodes_28 (by decide) ?_
          refine lv_goto (tgt := 33) hx hb d_Mo_freeInodes_29 (by decide) ?_
          exact hB_33 _ hr_4 y_1 y_3 y_2 0 S_2 _ _ _ h hP hD hS (lv_sub hl [0, 1, 3] rfl)
  rw [f_Mo_freeInodes] at h
  refine lv_iconst (v := 0) hx hb d_Mo_freeInodes_0 (by decide) ?_
  refine lv_istore_n (lv' := [(2, .int 0), (0, .ref M.o), (1, .int p0)]) hx hb d_Mo_freeInodes_1 rfl hl (by decide) rfl (fun ls hl => ?_)
  refine lv_iconst (v := 1) hx hb d_Mo_freeInodes_2 (by decide) ?_
  refine lv_istore_n (lv' := [(3, .int 1), (2, .int 0), (0, .ref M.o), (1, .int p0)]) hx hb d_Mo_freeInodes_3 rfl hl (by decide) rfl (fun ls hl => ?_)
  exact hB_4 K p0 0 1 S _ _ _ h hP hD hS (lv_sub hl [2, 3, 1, 0] rfl)
set_option maxHeartbeats 4000000 in
set_option maxRecDepth 100000 in
theorem l_Mo_foldersOf (l : Launch) (dC : Nat → ClassId) (dI : Nat → Nat → Nat) {K : Nat} {M : MA} {E : (Nat → Prop) → State → Prop} (X : lx_X l dC dI K M E) (sz : Nat) {S S' : MS} {p0 : Int32} {r : Int32} (h : f_Mo_foldersOf K S p0 = some (r, S')) : Met l y_Mo_foldersOf (.code y_Mo_foldersOf b_Mo_foldersOf 4 (some .int) :: V_Mq) ({ frames := 2, cells := 0, slots := 0, locals := 42 }) (va_Pc [.ref M.o, .int p0] (fun U => U.heap.size = sz ∧ at_ (dC, dI) (fun _ => True) (wM M S) (tM M) U ∧ E (va_A (wM M S) sz) U)) (va_Qi (fun (r_ : Int32) (u : Unit) => r_ = r) (fun (u : Unit) t => at_ (dC, dI) (va_A (wM M S) sz) (wM M S') (tM M) t) (va_A (wM M S) sz)) 0 0 (va_A (wM M S) sz) := by
  refine Met.ofW (cc := b_Mo_foldersOf) (maxL := 4) (ret := (some .int)) (by decide) rfl ?_
  intro p e s m args below meth c s₁ B hml hv
  obtain ⟨rfl, hsz, ⟨hP, hK, hD0⟩, hE⟩ := hv
  have hx := B.exec
  have hb := B.bytes
  have hr := B.returns
  have hts0 := atoms_spec (ws := .code y_Mo_foldersOf b_Mo_foldersOf 4 (some .int) :: V_Mq) B.pre
  have hts : ∀ w ∈ V_Mq, w.before ([.ref M.o, .int p0] : List Value).toArray s = true := fun w h => hts0 w (List.mem_cons_of_mem _ h)
  have hown : s.vm.findClass R_Mo = some m.cls := findClass_of_methodNamed B.named
  subst hsz
  have hD := hD0.self (sz := s.heap.size)
  generalize hAe : va_A (wM M S) s.heap.size = A at hD hE ⊢
  have hA : ∀ q : Nat, s.heap.size ≤ q → A q := fun q h => by rw [← hAe]; exact Or.inr h
  have hS : va_S A s.heap s.heap [] := va_S.rf
  have hP : va_P (dC, dI) classes (wM M S) s.heap := hP
  have hK : va_K (dC, dI) classes (tM M) s := hK
  have hEw : ∀ (H : Heap) (locs : List Loc), va_S A s.heap H locs → ∀ U : State, U.heap = H → s.WarmedH U.vm → E A U := fun H locs hS U hU hW => X.kept A s U H locs hE hS hU hW
  have hl := lv_entry ([.ref M.o, .int p0]) (n := 4) (Nat.le_of_ble_eq_true rfl)
  rw [lg_entry_eq]
  generalize (lg_sl ([.ref M.o, .int p0]) ++ List.replicate (4 - (lg_sl ([.ref M.o, .int p0])).length) Slot.unset).toArray = ls at hl ⊢
  have hl : lv_has ls 4 [(0, .ref M.o), (1, .int p0)] := hl
  refine qabs (fun Q hQ => ?_)
  have hB_42 : ∀ (rec_4 : Int32 → Int32 → Int32 → MS → Option (Int32 × MS)) (hr_4 : ∀ (y_1 : Int32) (y_2 : Int32) (y_3 : Int32) (S : MS) (H : Heap) (locs : List Loc) (ls : Array Slot), rec_4 y_1 y_2 y_3 S = some (r, S') → va_P (dC, dI) classes (wM M S) H → va_D A (wM M S) → va_S A s.heap H locs → lv_has ls 4 [(0, .ref M.o), (1, .int y_1), (2, .int y_2), (3, .int y_3)] → W p l e ({ frames := 2, cells := 0, slots := 0, locals := 42 }) s m ([.ref M.o, .int p0] : List Value).toArray below meth c H locs 0 0 Q (F0 m 4 ls [])), ∀ (y_1 : Int32) (y_3 : Int32) (z_0 : Int32) (z_1 : Int32) (S : MS) (H : Heap) (locs : List Loc) (ls : Array Slot), f_Mo_foldersOf_42 K rec_4 y_1 y_3 z_0 z_1 S = some (r, S') → va_P (dC, dI) classes (wM M S) H → va_D A (wM M S) → va_S A s.heap H locs → lv_has ls 4 [(0, .ref M.o), (1, .int y_1), (3, .int y_3)] → W p l e ({ frames := 2, cells := 0, slots := 0, locals := 42 }) s m ([.ref M.o, .int p0] : List Value).toArray below meth c H locs 0 0 Q (F0 m 42 ls [.int z_1, .int z_0]) := by
    intro rec_4 hr_4 y_1 y_3 z_0 z_1 S H locs ls h hP hD hS hl
    rw [f_Mo_foldersOf_42] at h
    refine lv_iadd hx hb d_Mo_foldersOf_42 ?_
    refine lv_topi (fun x_7 ex_7 => ?_)
    have h := lf_lE h ex_7
    refine lv_istore_n (lv' := [(2, .int x_7), (0, .ref M.o), (1, .int y_1), (3, .int y_3)]) hx hb d_Mo_foldersOf_43 rfl hl (by decide) rfl (fun ls hl => ?_)
    obtain ⟨x_8, ex_8, h⟩ := lf_lX h
    refine lv_iinc (v := x_8) (lv' := [(3, .int x_8), (2, .int x_7), (0, .ref M.o), (1, .int y_1)]) hx hb d_Mo_foldersOf_44 hl (k := 3) rfl (by rw [ex_8]; rfl) (by decide) rfl (fun ls hl => ?_)
    refine lv_goto (tgt := 4) hx hb d_Mo_foldersOf_47 (by decide) ?_
    exact hr_4 y_1 x_7 x_8 S _ _ _ h hP hD hS (lv_sub hl [2, 3, 1, 0] rfl)
  have hB_41 : ∀ (rec_4 : Int32 → Int32 → Int32 → MS → Option (Int32 × MS)) (hr_4 : ∀ (y_1 : Int32) (y_2 : Int32) (y_3 : Int32) (S : MS) (H : Heap) (locs : List Loc) (ls : Array Slot), rec_4 y_1 y_2 y_3 S = some (r, S') → va_P (dC, dI) classes (wM M S) H → va_D A (wM M S) → va_S A s.heap H locs → lv_has ls 4 [(0, .ref M.o), (1, .int y_1), (2, .int y_2), (3, .int y_3)] → W p l e ({ frames := 2, cells := 0, slots := 0, locals := 42 }) s m ([.ref M.o, .int p0] : List Value).toArray below meth c H locs 0 0 Q (F0 m 4 ls [])), ∀ (y_1 : Int32) (y_3 : Int32) (z_0 : Int32) (S : MS) (H : Heap) (locs : List Loc) (ls : Array Slot), f_Mo_foldersOf_41 K rec_4 y_1 y_3 z_0 S = some (r, S') → va_P (dC, dI) classes (wM M S) H → va_D A (wM M S) → va_S A s.heap H locs → lv_has ls 4 [(0, .ref M.o), (1, .int y_1), (3, .int y_3)] → W p l e ({ frames := 2, cells := 0, slots := 0, locals := 42 }) s m ([.ref M.o, .int p0] : List Value).toArray below meth c H locs 0 0 Q (F0 m 41 ls [.int z_0]) := by
    intro rec_4 hr_4 y_1 y_3 z_0 S H locs ls h hP hD hS hl
    rw [f_Mo_foldersOf_41] at h
    refine lv_iconst (v := 0) hx hb d_Mo_foldersOf_41 (by decide) ?_
    exact hB_42 _ hr_4 y_1 y_3 z_0 0 S _ _ _ h hP hD hS (lv_sub hl [0, 1, 2] rfl)
  have hB_4 : ∀ (k : Nat), ∀ (y_1 : Int32) (y_2 : Int32) (y_3 : Int32) (S : MS) (H : Heap) (locs : List Loc) (ls : Array Slot), f_Mo_foldersOf_4 K k y_1 y_2 y_3 S = some (r, S') → va_P (dC, dI) classes (wM M S) H → va_D A (wM M S) → va_S A s.heap H locs → lv_has ls 4 [(0, .ref M.o), (1, .int y_1), (2, .int y_2), (3, .int y_3)] → W p l e ({ frames := 2, cells := 0, slots := 0, locals := 42 }) s m ([.ref M.o, .int p0] : List Value).toArray below meth c H locs 0 0 Q (F0 m 4 ls []) := by
    intro k
    induction k with
    | zero => intro y_1 y_2 y_3 S H locs ls h; exact lf_no h
    | succ k hr_4 =>
      intro y_1 y_2 y_3 S H locs ls h hP hD hS hl
      rw [f_Mo_foldersOf_4] at h
      refine lv_iload_n hx hb d_Mo_foldersOf_4 rfl (lv_at hl 3 rfl) ?_
      refine lv_aload_n hx hb d_Mo_foldersOf_5 rfl (lv_at hl 0 rfl) ?_
      refine va_get (D := (dC, dI)) (ci := 12) (v := .int S.v_items) (C := R_Mo) (T := F_Mo) (N := 66) hx hb hts (fun w h => u_Mq_Mo w (i_Mo w h)) hown hK hP 0 rfl rfl 21 (by decide) (hts _ (u_Mq_Mo _ k_Mo_28)) (fun _ h9 => h9) rfl d_Mo_foldersOf_6 ?_
      refine lv_icmp_ge (tgt := 50) hx hb d_Mo_foldersOf_9 (by decide) (fun c_1 => ?_) (fun c_1 => ?_)
      · have h := lf_t h c_1
        refine lv_iload_n hx hb d_Mo_foldersOf_50 rfl (lv_at hl 2 rfl) ?_
        rw [hQ]
        have e1 : y_2 = r := congrArg Prod.fst (Option.some.inj h)
        have e2 : S = S' := congrArg Prod.snd (Option.some.inj h)
        have hP := lx_newP e2.symm hP
        have hD := lx_newD e2.symm hD
        exact W.iret (v := y_2) hx hb hr (fun t ht hW => ⟨⟨y_2, (), rfl, e1, by rw [ht]; exact hP, va_K.moved hW.alike hK, hD⟩, hS.F ht⟩) hS.2.2 d_Mo_foldersOf_51
      · have h := lf_f h c_1
        refine lv_iload_n hx hb d_Mo_foldersOf_12 rfl (lv_at hl 2 rfl) ?_
        refine lv_aload_n hx hb d_Mo_foldersOf_13 rfl (lv_at hl 0 rfl) ?_
        refine lv_iload_n hx hb d_Mo_foldersOf_14 rfl (lv_at hl 3 rfl) ?_
        obtain ⟨r_2, S_2, hc_2, h⟩ := lf_cE h
        have hFc := lx_free hD hS hA
        refine va_calli (va_runV (As := [.int y_3]) (rest := [.int y_2]) ⟨hx, hb, hml, hown, hts⟩ (l_Mo_isFolder l dC dI X _ hc_2) (cwV 1 hts (gwV good_Mq (u_Mq_Mo _ k_Mo_118) (u_Mq_Mo _ k_Mo_119) (u_Mq_Mo _ k_Mo_489) (u_Mq_Mo _ k_Mo_0) (wcs (u_Mq_Mo _ k_Mo_120) (fun _ h => h))) rfl rfl rfl (by decide +kernel) ⟨Nat.le_of_ble_eq_true rfl, Nat.le_of_ble_eq_true rfl⟩) (pv_ofE (X.same _) (fun U z1 z2 => X.mono _ _ U hFc (hEw _ _ hS U z1 z2)) hP hK hD (va_recv hK hP (ci := 12) (q0 := 0) rfl rfl)) rfl rfl hl.1 rfl (lv_room (Nat.le_of_ble_eq_true rfl)) d_Mo_foldersOf_15 ⟨by decide, by decide⟩) hS (fun q _ h => hFc q h) hFc (fun r_ u t H locs ht hvm hw hB hz1 hk1 hS => ?_)
        rw [hw]
        obtain ⟨hP, -, hD⟩ := hB
        rw [ht] at hP
        have hD := lx_dj hD hFc
        refine lv_if_eq (tgt := 41) hx hb d_Mo_foldersOf_18 (by decide) (fun c_3 => ?_) (fun c_3 => ?_)
        · have h := lf_t h c_3
          exact hB_41 _ hr_4 y_1 y_3 y_2 S_2 _ _ _ h hP hD hS (lv_sub hl [0, 1, 3] rfl)
        · have h := lf_f h c_3
          refine lv_aload_n hx hb d_Mo_foldersOf_21 rfl (lv_at hl 0 rfl) ?_
          refine lv_iload_n hx hb d_Mo_foldersOf_22 rfl (lv_at hl 3 rfl) ?_
          obtain ⟨r_4, S_4, hc_4, h⟩ := lf_cE h
          have hFc := lx_free hD hS hA
          refine va_calli (va_runV (As := [.int y_3]) (rest := [.int y_2]) ⟨hx, hb, hml, hown, hts⟩ (l_Mo_numberOf l dC dI X _ hc_4) (cwV 1 hts (gwV good_Mq (u_Mq_Mo _ k_Mo_440) (u_Mq_Mo _ k_Mo_441) (u_Mq_Mo _ k_Mo_544) (u_Mq_Mo _ k_Mo_0) (wcs (u_Mq_Mo _ k_Mo_442) (fun _ h => h))) rfl rfl rfl (by decide +kernel) ⟨Nat.le_of_ble_eq_true rfl, Nat.le_of_ble_eq_true rfl⟩) (pv_ofE (X.same _) (fun U z1 z2 => X.mono _ _ U hFc (hEw _ _ hS U z1 z2)) hP hK hD (va_recv hK hP (ci := 12) (q0 := 0) rfl rfl)) rfl rfl hl.1 rfl (lv_room (Nat.le_of_ble_eq_true rfl)) d_Mo_foldersOf_23 ⟨by decide, by decide⟩) hS (fun q _ h => hFc q h) hFc (fun r_ u t H locs ht hvm hw hB hz1 hk1 hS => ?_)
          rw [hw]
          obtain ⟨hP, -, hD⟩ := hB
          rw [ht] at hP
          have hD := lx_dj hD hFc
          refine lv_iconst (v := 1) hx hb d_Mo_foldersOf_26 (by decide) ?_
          refine lv_isub hx hb d_Mo_foldersOf_27 ?_
          refine lv_aload_n hx hb d_Mo_foldersOf_28 rfl (lv_at hl 0 rfl) ?_
          refine va_get (D := (dC, dI)) (ci := 12) (v := .int S_4.v_inodes) (C := R_Mo) (T := F_Mo) (N := 66) hx hb hts (fun w h => u_Mq_Mo w (i_Mo w h)) hown hK hP 0 rfl rfl 48 (by decide) (hts _ (u_Mq_Mo _ k_Mo_55)) (fun _ h9 => h9) rfl d_Mo_foldersOf_29 ?_
          obtain ⟨g_5, h⟩ := lf_gE h
          refine lv_idiv hx hb d_Mo_foldersOf_32 g_5 ?_
          refine lv_iload_n hx hb d_Mo_foldersOf_33 rfl (lv_at hl 1 rfl) ?_
          refine lv_icmp_ne (tgt := 41) hx hb d_Mo_foldersOf_34 (by decide) (fun c_6 => ?_) (fun c_6 => ?_)
          · have h := lf_f h c_6
            exact hB_41 _ hr_4 y_1 y_3 y_2 S_4 _ _ _ h hP hD hS (lv_sub hl [0, 1, 3] rfl)
          · have h := lf_t h c_6
            refine lv_iconst (v := 1) hx hb d_Mo_foldersOf_37 (by decide) ?_
            refine lv_goto (tgt := 42) hx hb d_Mo_foldersOf_38 (by decide) ?_
            exact hB_42 _ hr_4 y_1 y_3 y_2 1 S_4 _ _ _ h hP hD hS (lv_sub hl [0, 1, 3] rfl)
  rw [f_Mo_foldersOf] at h
  refine lv_iconst (v := 0) hx hb d_Mo_foldersOf_0 (by decide) ?_
  refine lv_istore_n (lv' := [(2, .int 0), (0, .ref M.o), (1, .int p0)]) hx hb d_Mo_foldersOf_1 rfl hl (by decide) rfl (fun ls hl => ?_)
  refine lv_iconst (v := 0) hx hb d_Mo_foldersOf_2 (by decide) ?_
  refine lv_istore_n (lv' := [(3, .int 0), (2, .int 0), (0, .ref M.o), (1, .int p0)]) hx hb d_Mo_foldersOf_3 rfl hl (by decide) rfl (fun ls hl => ?_)
  exact hB_4 K p0 0 0 S _ _ _ h hP hD hS (lv_sub hl [2, 3, 1, 0] rfl)
set_option maxHeartbeats 4000000 in
set_option maxRecDepth 100000 in
theorem l_Mo_makeMaps (l : Launch) (dC : Nat → ClassId) (dI : Nat → Nat → Nat) {K : Nat} {M : MA} {E : (Nat → Prop) → State → Prop} (X : lx_X l dC dI K M E) (sz : Nat) {S S' : MS} {p0 : Int32} (h : f_Mo_makeMaps K S p0 = some S') : Met l y_Mo_makeMaps (.code y_Mo_makeMaps b_Mo_makeMaps 4 none :: V_Mq) ({ frames := 1, cells := 0, slots := 0, locals := 21 }) (va_Pc [.ref M.o, .int p0] (fun U => U.heap.size = sz ∧ at_ (dC, dI) (fun _ => True) (wM M S) (tM M) U ∧ E (va_A (wM M S) sz) U)) (va_Qv (fun (u : Unit) => True) (fun (u : Unit) t => at_ (dC, dI) (va_A (wM M S) sz) (wM M S') (tM M) t) (va_A (wM M S) sz)) 0 0 (va_A (wM M S) sz) := by
  refine Met.ofW (cc := b_Mo_makeMaps) (maxL := 4) (ret := none) (by decide) rfl ?_
  intro p e s m args below meth c s₁ B hml hv
  obtain ⟨rfl, hsz, ⟨hP, hK, hD0⟩, hE⟩ := hv
  have hx := B.exec
  have hb := B.bytes
  have hr := B.returns
  have hts0 := atoms_spec (ws := .code y_Mo_makeMaps b_Mo_makeMaps 4 none :: V_Mq) B.pre
  have hts : ∀ w ∈ V_Mq, w.before ([.ref M.o, .int p0] : List Value).toArray s = true := fun w h => hts0 w (List.mem_cons_of_mem _ h)
  have hown : s.vm.findClass R_Mo = some m.cls := findClass_of_methodNamed B.named
  subst hsz
  have hD := hD0.self (sz := s.heap.size)
  generalize hAe : va_A (wM M S) s.heap.size = A at hD hE ⊢
  have hA : ∀ q : Nat, s.heap.size ≤ q → A q := fun q h => by rw [← hAe]; exact Or.inr h
  have hS : va_S A s.heap s.heap [] := va_S.rf
  have hP : va_P (dC, dI) classes (wM M S) s.heap := hP
  have hK : va_K (dC, dI) classes (tM M) s := hK
  have hEw : ∀ (H : Heap) (locs : List Loc), va_S A s.heap H locs → ∀ U : State, U.heap = H → s.WarmedH U.vm → E A U := fun H locs hS U hU hW => X.kept A s U H locs hE hS hU hW
  have hl := lv_entry ([.ref M.o, .int p0]) (n := 4) (Nat.le_of_ble_eq_true rfl)
  rw [lg_entry_eq]
  generalize (lg_sl ([.ref M.o, .int p0]) ++ List.replicate (4 - (lg_sl ([.ref M.o, .int p0])).length) Slot.unset).toArray = ls at hl ⊢
  have hl : lv_has ls 4 [(0, .ref M.o), (1, .int p0)] := hl
  refine qabs (fun Q hQ => ?_)
  have hB_119 : ∀ (rec_12 : Int32 → Int32 → Int32 → MS → Option (MS)) (hr_12 : ∀ (y_1 : Int32) (y_2 : Int32) (y_3 : Int32) (S : MS) (H : Heap) (locs : List Loc) (ls : Array Slot), rec_12 y_1 y_2 y_3 S = some S' → va_P (dC, dI) classes (wM M S) H → va_D A (wM M S) → va_S A s.heap H locs → lv_has ls 4 [(0, .ref M.o), (1, .int y_1), (2, .int y_2), (3, .int y_3)] → W p l e ({ frames := 1, cells := 0, slots := 0, locals := 21 }) s m ([.ref M.o, .int p0] : List Value).toArray below meth c H locs 0 0 Q (F0 m 12 ls [])), ∀ (y_1 : Int32) (y_2 : Int32) (y_3 : Int32) (S : MS) (H : Heap) (locs : List Loc) (ls : Array Slot), f_Mo_makeMaps_119 K rec_12 y_1 y_2 y_3 S = some S' → va_P (dC, dI) classes (wM M S) H → va_D A (wM M S) → va_S A s.heap H locs → lv_has ls 4 [(0, .ref M.o), (1, .int y_1), (2, .int y_2), (3, .int y_3)] → W p l e ({ frames := 1, cells := 0, slots := 0, locals := 21 }) s m ([.ref M.o, .int p0] : List Value).toArray below meth c H locs 0 0 Q (F0 m 119 ls []) := by
    intro rec_12 hr_12 y_1 y_2 y_3 S H locs ls h hP hD hS hl
    rw [f_Mo_makeMaps_119] at h
    obtain ⟨x_17, ex_17, h⟩ := lf_lX h
    refine lv_iinc (v := x_17) (lv' := [(3, .int x_17), (0, .ref M.o), (1, .int y_1), (2, .int y_2)]) hx hb d_Mo_makeMaps_119 hl (k := 3) rfl (by rw [ex_17]; rfl) (by decide) rfl (fun ls hl => ?_)
    refine lv_goto (tgt := 12) hx hb d_Mo_makeMaps_122 (by decide) ?_
    exact hr_12 y_1 y_2 x_17 S _ _ _ h hP hD hS (lv_sub hl [1, 2, 3, 0] rfl)
  have hB_93 : ∀ (rec_12 : Int32 → Int32 → Int32 → MS → Option (MS)) (hr_12 : ∀ (y_1 : Int32) (y_2 : Int32) (y_3 : Int32) (S : MS) (H : Heap) (locs : List Loc) (ls : Array Slot), rec_12 y_1 y_2 y_3 S = some S' → va_P (dC, dI) classes (wM M S) H → va_D A (wM M S) → va_S A s.heap H locs → lv_has ls 4 [(0, .ref M.o), (1, .int y_1), (2, .int y_2), (3, .int y_3)] → W p l e ({ frames := 1, cells := 0, slots := 0, locals := 21 }) s m ([.ref M.o, .int p0] : List Value).toArray below meth c H locs 0 0 Q (F0 m 12 ls [])), ∀ (y_1 : Int32) (y_2 : Int32) (y_3 : Int32) (S : MS) (H : Heap) (locs : List Loc) (ls : Array Slot), f_Mo_makeMaps_93 K rec_12 y_1 y_2 y_3 S = some S' → va_P (dC, dI) classes (wM M S) H → va_D A (wM M S) → va_S A s.heap H locs → lv_has ls 4 [(0, .ref M.o), (1, .int y_1), (2, .int y_2), (3, .int y_3)] → W p l e ({ frames := 1, cells := 0, slots := 0, locals := 21 }) s m ([.ref M.o, .int p0] : List Value).toArray below meth c H locs 0 0 Q (F0 m 93 ls []) := by
    intro rec_12 hr_12 y_1 y_2 y_3 S H locs ls h hP hD hS hl
    rw [f_Mo_makeMaps_93] at h
    refine lv_aload_n hx hb d_Mo_makeMaps_93 rfl (lv_at hl 0 rfl) ?_
    refine va_get (D := (dC, dI)) (ci := 12) (v := .ref M.a_fresh) (C := R_Mo) (T := F_Mo) (N := 66) hx hb hts (fun w h => u_Mq_Mo w (i_Mo w h)) hown hK hP 0 rfl rfl 2 (by decide) (hts _ (u_Mq_Mo _ k_Mo_9)) (fun _ h9 => h9) rfl d_Mo_makeMaps_94 ?_
    refine lv_iload_n hx hb d_Mo_makeMaps_97 rfl (lv_at hl 2 rfl) ?_
    refine lv_sipush (v := 1024) hx hb d_Mo_makeMaps_98 (by decide) ?_
    refine lv_iadd hx hb d_Mo_makeMaps_101 ?_
    refine lv_iload_n hx hb d_Mo_makeMaps_102 rfl (lv_at hl 3 rfl) ?_
    refine lv_bipush (v := 8) hx hb d_Mo_makeMaps_103 (by decide) ?_
    refine lv_idiv hx hb d_Mo_makeMaps_105 (by decide) ?_
    refine lv_iadd hx hb d_Mo_makeMaps_106 ?_
    refine lv_dup2_11 hx hb d_Mo_makeMaps_107 rfl rfl ?_
    obtain ⟨g_14, h⟩ := lf_gE h
    refine va_bald hx hb hK hP 2 1 rfl rfl g_14 d_Mo_makeMaps_108 ?_
    refine lv_iconst (v := 1) hx hb d_Mo_makeMaps_109 (by decide) ?_
    refine lv_iload_n hx hb d_Mo_makeMaps_110 rfl (lv_at hl 3 rfl) ?_
    refine lv_bipush (v := 8) hx hb d_Mo_makeMaps_111 (by decide) ?_
    refine lv_irem hx hb d_Mo_makeMaps_113 (by decide) ?_
    refine lv_ishl hx hb d_Mo_makeMaps_114 ?_
    refine lv_i2b hx hb d_Mo_makeMaps_115 rfl ?_
    refine lv_ior hx hb d_Mo_makeMaps_116 ?_
    refine lv_i2b hx hb d_Mo_makeMaps_117 rfl ?_
    obtain ⟨g_15, h⟩ := lf_gE h
    refine va_bast hx hb hK hP hD hS 2 1 rfl rfl g_15 d_Mo_makeMaps_118 (fun H locs hP hD hS => ?_)
    obtain ⟨S_16, eS_16, h⟩ := lf_lX h
    have hP := lx_newP eS_16 hP
    have hD := lx_newD eS_16 hD
    exact hB_119 _ hr_12 y_1 y_2 y_3 S_16 _ _ _ h hP hD hS (lv_sub hl [0, 1, 2, 3] rfl)
  have hB_68 : ∀ (rec_12 : Int32 → Int32 → Int32 → MS → Option (MS)) (hr_12 : ∀ (y_1 : Int32) (y_2 : Int32) (y_3 : Int32) (S : MS) (H : Heap) (locs : List Loc) (ls : Array Slot), rec_12 y_1 y_2 y_3 S = some S' → va_P (dC, dI) classes (wM M S) H → va_D A (wM M S) → va_S A s.heap H locs → lv_has ls 4 [(0, .ref M.o), (1, .int y_1), (2, .int y_2), (3, .int y_3)] → W p l e ({ frames := 1, cells := 0, slots := 0, locals := 21 }) s m ([.ref M.o, .int p0] : List Value).toArray below meth c H locs 0 0 Q (F0 m 12 ls [])), ∀ (y_1 : Int32) (y_2 : Int32) (y_3 : Int32) (S : MS) (H : Heap) (locs : List Loc) (ls : Array Slot), f_Mo_makeMaps_68 K rec_12 y_1 y_2 y_3 S = some S' → va_P (dC, dI) classes (wM M S) H → va_D A (wM M S) → va_S A s.heap H locs → lv_has ls 4 [(0, .ref M.o), (1, .int y_1), (2, .int y_2), (3, .int y_3)] → W p l e ({ frames := 1, cells := 0, slots := 0, locals := 21 }) s m ([.ref M.o, .int p0] : List Value).toArray below meth c H locs 0 0 Q (F0 m 68 ls []) := by
    intro rec_12 hr_12 y_1 y_2 y_3 S H locs ls h hP hD hS hl
    rw [f_Mo_makeMaps_68] at h
    refine lv_iload_n hx hb d_Mo_makeMaps_68 rfl (lv_at hl 3 rfl) ?_
    refine lv_aload_n hx hb d_Mo_makeMaps_69 rfl (lv_at hl 0 rfl) ?_
    refine va_get (D := (dC, dI)) (ci := 12) (v := .int S.v_inodes) (C := R_Mo) (T := F_Mo) (N := 66) hx hb hts (fun w h => u_Mq_Mo w (i_Mo w h)) hown hK hP 0 rfl rfl 48 (by decide) (hts _ (u_Mq_Mo _ k_Mo_55)) (fun _ h9 => h9) rfl d_Mo_makeMaps_70 ?_
    refine lv_icmp_ge (tgt := 93) hx hb d_Mo_makeMaps_73 (by decide) (fun c_11 => ?_) (fun c_11 => ?_)
    · have h := lf_t h c_11
      exact hB_93 _ hr_12 y_1 y_2 y_3 S _ _ _ h hP hD hS (lv_sub hl [0, 1, 2, 3] rfl)
    · have h := lf_f h c_11
      refine lv_aload_n hx hb d_Mo_makeMaps_76 rfl (lv_at hl 0 rfl) ?_
      refine lv_iload_n hx hb d_Mo_makeMaps_77 rfl (lv_at hl 1 rfl) ?_
      refine lv_aload_n hx hb d_Mo_makeMaps_78 rfl (lv_at hl 0 rfl) ?_
      refine va_get (D := (dC, dI)) (ci := 12) (v := .int S.v_inodes) (C := R_Mo) (T := F_Mo) (N := 66) hx hb hts (fun w h => u_Mq_Mo w (i_Mo w h)) hown hK hP 0 rfl rfl 48 (by decide) (hts _ (u_Mq_Mo _ k_Mo_55)) (fun _ h9 => h9) rfl d_Mo_makeMaps_79 ?_
      refine lv_imul hx hb d_Mo_makeMaps_82 ?_
      refine lv_iload_n hx hb d_Mo_makeMaps_83 rfl (lv_at hl 3 rfl) ?_
      refine lv_iadd hx hb d_Mo_makeMaps_84 ?_
      refine lv_iconst (v := 1) hx hb d_Mo_makeMaps_85 (by decide) ?_
      refine lv_iadd hx hb d_Mo_makeMaps_86 ?_
      obtain ⟨r_12, S_12, hc_12, h⟩ := lf_cE h
      have hFc := lx_free hD hS hA
      refine va_calli (va_runV (As := [.int (((y_1 * S.v_inodes) + y_3) + 1)]) (rest := []) ⟨hx, hb, hml, hown, hts⟩ (l_Mo_isUsed l dC dI X _ hc_12) (cwV 1 hts (gwV good_Mq (u_Mq_Mo _ k_Mo_459) (u_Mq_Mo _ k_Mo_460) (u_Mq_Mo _ k_Mo_552) (u_Mq_Mo _ k_Mo_0) (wcs (u_Mq_Mo _ k_Mo_461) (fun _ h => h))) rfl rfl rfl (by decide +kernel) ⟨Nat.le_of_ble_eq_true rfl, Nat.le_of_ble_eq_true rfl⟩) (pv_ofE (X.same _) (fun U z1 z2 => X.mono _ _ U hFc (hEw _ _ hS U z1 z2)) hP hK hD (va_recv hK hP (ci := 12) (q0 := 0) rfl rfl)) rfl rfl hl.1 rfl (lv_room (Nat.le_of_ble_eq_true rfl)) d_Mo_makeMaps_87 ⟨by decide, by decide⟩) hS (fun q _ h => hFc q h) hFc (fun r_ u t H locs ht hvm hw hB hz1 hk1 hS => ?_)
      rw [hw]
      obtain ⟨hP, -, hD⟩ := hB
      rw [ht] at hP
      have hD := lx_dj hD hFc
      refine lv_if_eq (tgt := 119) hx hb d_Mo_makeMaps_90 (by decide) (fun c_13 => ?_) (fun c_13 => ?_)
      · have h := lf_t h c_13
        exact hB_119 _ hr_12 y_1 y_2 y_3 S_12 _ _ _ h hP hD hS (lv_sub hl [0, 1, 2, 3] rfl)
      · have h := lf_f h c_13
        exact hB_93 _ hr_12 y_1 y_2 y_3 S_12 _ _ _ h hP hD hS (lv_sub hl [0, 1, 2, 3] rfl)
  have hB_46 : ∀ (rec_12 : Int32 → Int32 → Int32 → MS → Option (MS)) (hr_12 : ∀ (y_1 : Int32) (y_2 : Int32) (y_3 : Int32) (S : MS) (H : Heap) (locs : List Loc) (ls : Array Slot), rec_12 y_1 y_2 y_3 S = some S' → va_P (dC, dI) classes (wM M S) H → va_D A (wM M S) → va_S A s.heap H locs → lv_has ls 4 [(0, .ref M.o), (1, .int y_1), (2, .int y_2), (3, .int y_3)] → W p l e ({ frames := 1, cells := 0, slots := 0, locals := 21 }) s m ([.ref M.o, .int p0] : List Value).toArray below meth c H locs 0 0 Q (F0 m 12 ls [])), ∀ (y_1 : Int32) (y_2 : Int32) (y_3 : Int32) (S : MS) (H : Heap) (locs : List Loc) (ls : Array Slot), f_Mo_makeMaps_46 K rec_12 y_1 y_2 y_3 S = some S' → va_P (dC, dI) classes (wM M S) H → va_D A (wM M S) → va_S A s.heap H locs → lv_has ls 4 [(0, .ref M.o), (1, .int y_1), (2, .int y_2), (3, .int y_3)] → W p l e ({ frames := 1, cells := 0, slots := 0, locals := 21 }) s m ([.ref M.o, .int p0] : List Value).toArray below meth c H locs 0 0 Q (F0 m 46 ls []) := by
    intro rec_12 hr_12 y_1 y_2 y_3 S H locs ls h hP hD hS hl
    rw [f_Mo_makeMaps_46] at h
    refine lv_aload_n hx hb d_Mo_makeMaps_46 rfl (lv_at hl 0 rfl) ?_
    refine va_get (D := (dC, dI)) (ci := 12) (v := .ref M.a_fresh) (C := R_Mo) (T := F_Mo) (N := 66) hx hb hts (fun w h => u_Mq_Mo w (i_Mo w h)) hown hK hP 0 rfl rfl 2 (by decide) (hts _ (u_Mq_Mo _ k_Mo_9)) (fun _ h9 => h9) rfl d_Mo_makeMaps_47 ?_
    refine lv_iload_n hx hb d_Mo_makeMaps_50 rfl (lv_at hl 2 rfl) ?_
    refine lv_iload_n hx hb d_Mo_makeMaps_51 rfl (lv_at hl 3 rfl) ?_
    refine lv_bipush (v := 8) hx hb d_Mo_makeMaps_52 (by decide) ?_
    refine lv_idiv hx hb d_Mo_makeMaps_54 (by decide) ?_
    refine lv_iadd hx hb d_Mo_makeMaps_55 ?_
    refine lv_dup2_11 hx hb d_Mo_makeMaps_56 rfl rfl ?_
    obtain ⟨g_8, h⟩ := lf_gE h
    refine va_bald hx hb hK hP 2 1 rfl rfl g_8 d_Mo_makeMaps_57 ?_
    refine lv_iconst (v := 1) hx hb d_Mo_makeMaps_58 (by decide) ?_
    refine lv_iload_n hx hb d_Mo_makeMaps_59 rfl (lv_at hl 3 rfl) ?_
    refine lv_bipush (v := 8) hx hb d_Mo_makeMaps_60 (by decide) ?_
    refine lv_irem hx hb d_Mo_makeMaps_62 (by decide) ?_
    refine lv_ishl hx hb d_Mo_makeMaps_63 ?_
    refine lv_i2b hx hb d_Mo_makeMaps_64 rfl ?_
    refine lv_ior hx hb d_Mo_makeMaps_65 ?_
    refine lv_i2b hx hb d_Mo_makeMaps_66 rfl ?_
    obtain ⟨g_9, h⟩ := lf_gE h
    refine va_bast hx hb hK hP hD hS 2 1 rfl rfl g_9 d_Mo_makeMaps_67 (fun H locs hP hD hS => ?_)
    obtain ⟨S_10, eS_10, h⟩ := lf_lX h
    have hP := lx_newP eS_10 hP
    have hD := lx_newD eS_10 hD
    exact hB_68 _ hr_12 y_1 y_2 y_3 S_10 _ _ _ h hP hD hS (lv_sub hl [0, 1, 2, 3] rfl)
  have hB_12 : ∀ (k : Nat), ∀ (y_1 : Int32) (y_2 : Int32) (y_3 : Int32) (S : MS) (H : Heap) (locs : List Loc) (ls : Array Slot), f_Mo_makeMaps_12 K k y_1 y_2 y_3 S = some S' → va_P (dC, dI) classes (wM M S) H → va_D A (wM M S) → va_S A s.heap H locs → lv_has ls 4 [(0, .ref M.o), (1, .int y_1), (2, .int y_2), (3, .int y_3)] → W p l e ({ frames := 1, cells := 0, slots := 0, locals := 21 }) s m ([.ref M.o, .int p0] : List Value).toArray below meth c H locs 0 0 Q (F0 m 12 ls []) := by
    intro k
    induction k with
    | zero => intro y_1 y_2 y_3 S H locs ls h; exact lf_no h
    | succ k hr_12 =>
      intro y_1 y_2 y_3 S H locs ls h hP hD hS hl
      rw [f_Mo_makeMaps_12] at h
      refine lv_iload_n hx hb d_Mo_makeMaps_12 rfl (lv_at hl 3 rfl) ?_
      refine lv_sipush (v := 8192) hx hb d_Mo_makeMaps_13 (by decide) ?_
      refine lv_icmp_ge (tgt := 125) hx hb d_Mo_makeMaps_16 (by decide) (fun c_3 => ?_) (fun c_3 => ?_)
      · have h := lf_t h c_3
        rw [hQ]
        have e2 : S = S' := Option.some.inj h
        have hP := lx_newP e2.symm hP
        have hD := lx_newD e2.symm hD
        exact W.vret hx hb hr (fun t ht hW => ⟨⟨(), rfl, trivial, by rw [ht]; exact hP, va_K.moved hW.alike hK, hD⟩, hS.F ht⟩) hS.2.2 d_Mo_makeMaps_125
      · have h := lf_f h c_3
        refine lv_iload_n hx hb d_Mo_makeMaps_19 rfl (lv_at hl 3 rfl) ?_
        refine lv_aload_n hx hb d_Mo_makeMaps_20 rfl (lv_at hl 0 rfl) ?_
        refine lv_iload_n hx hb d_Mo_makeMaps_21 rfl (lv_at hl 1 rfl) ?_
        obtain ⟨r_4, S_4, hc_4, h⟩ := lf_cE h
        have hFc := lx_free hD hS hA
        refine va_calli (va_runV (As := [.int y_1]) (rest := [.int y_3]) ⟨hx, hb, hml, hown, hts⟩ (l_Mo_groupSize l dC dI X _ hc_4) (cwV 1 hts (gwV good_Mq (u_Mq_Mo _ k_Mo_373) (u_Mq_Mo _ k_Mo_374) (u_Mq_Mo _ k_Mo_529) (u_Mq_Mo _ k_Mo_0) (wcs (u_Mq_Mo _ k_Mo_375) (fun _ h => h))) rfl rfl rfl (by decide +kernel) ⟨Nat.le_of_ble_eq_true rfl, Nat.le_of_ble_eq_true rfl⟩) (pv_ofE (X.same _) (fun U z1 z2 => X.mono _ _ U hFc (hEw _ _ hS U z1 z2)) hP hK hD (va_recv hK hP (ci := 12) (q0 := 0) rfl rfl)) rfl rfl hl.1 rfl (lv_room (Nat.le_of_ble_eq_true rfl)) d_Mo_makeMaps_22 ⟨by decide, by decide⟩) hS (fun q _ h => hFc q h) hFc (fun r_ u t H locs ht hvm hw hB hz1 hk1 hS => ?_)
        rw [hw]
        obtain ⟨hP, -, hD⟩ := hB
        rw [ht] at hP
        have hD := lx_dj hD hFc
        refine lv_icmp_ge (tgt := 46) hx hb d_Mo_makeMaps_25 (by decide) (fun c_5 => ?_) (fun c_5 => ?_)
        · have h := lf_t h c_5
          exact hB_46 _ hr_12 y_1 y_2 y_3 S_4 _ _ _ h hP hD hS (lv_sub hl [0, 1, 2, 3] rfl)
        · have h := lf_f h c_5
          refine lv_aload_n hx hb d_Mo_makeMaps_28 rfl (lv_at hl 0 rfl) ?_
          refine va_get (D := (dC, dI)) (ci := 12) (v := .ref M.a_used) (C := R_Mo) (T := F_Mo) (N := 66) hx hb hts (fun w h => u_Mq_Mo w (i_Mo w h)) hown hK hP 0 rfl rfl 52 (by decide) (hts _ (u_Mq_Mo _ k_Mo_59)) (fun _ h9 => h9) rfl d_Mo_makeMaps_29 ?_
          refine lv_iconst (v := 1) hx hb d_Mo_makeMaps_32 (by decide) ?_
          refine lv_iload_n hx hb d_Mo_makeMaps_33 rfl (lv_at hl 1 rfl) ?_
          refine lv_aload_n hx hb d_Mo_makeMaps_34 rfl (lv_at hl 0 rfl) ?_
          refine va_get (D := (dC, dI)) (ci := 12) (v := .int S_4.v_per) (C := R_Mo) (T := F_Mo) (N := 66) hx hb hts (fun w h => u_Mq_Mo w (i_Mo w h)) hown hK hP 0 rfl rfl 47 (by decide) (hts _ (u_Mq_Mo _ k_Mo_54)) (fun _ h9 => h9) rfl d_Mo_makeMaps_35 ?_
          refine lv_imul hx hb d_Mo_makeMaps_38 ?_
          refine lv_iadd hx hb d_Mo_makeMaps_39 ?_
          refine lv_iload_n hx hb d_Mo_makeMaps_40 rfl (lv_at hl 3 rfl) ?_
          refine lv_iadd hx hb d_Mo_makeMaps_41 ?_
          obtain ⟨g_6, h⟩ := lf_gE h
          refine va_zald hx hb hK hP 22 21 rfl rfl g_6 d_Mo_makeMaps_42 ?_
          refine lv_if_eq (tgt := 68) hx hb d_Mo_makeMaps_43 (by decide) (fun c_7 => ?_) (fun c_7 => ?_)
          · have h := lf_t h c_7
            exact hB_68 _ hr_12 y_1 y_2 y_3 S_4 _ _ _ h hP hD hS (lv_sub hl [0, 1, 2, 3] rfl)
          · have h := lf_f h c_7
            exact hB_46 _ hr_12 y_1 y_2 y_3 S_4 _ _ _ h hP hD hS (lv_sub hl [0, 1, 2, 3] rfl)
  rw [f_Mo_makeMaps] at h
  refine lv_sipush (v := 1024) hx hb d_Mo_makeMaps_0 (by decide) ?_
  refine lv_aload_n hx hb d_Mo_makeMaps_3 rfl (lv_at hl 0 rfl) ?_
  refine lv_iload_n hx hb d_Mo_makeMaps_4 rfl (lv_at hl 1 rfl) ?_
  obtain ⟨r_1, S_1, hc_1, h⟩ := lf_cE h
  have hFc := lx_free hD hS hA
  refine va_calli (va_runV (As := [.int p0]) (rest := [.int 1024]) ⟨hx, hb, hml, hown, hts⟩ (l_Mo_mapOf l dC dI X _ hc_1) (cwV 1 hts (gwV good_Mq (u_Mq_Mo _ k_Mo_376) (u_Mq_Mo _ k_Mo_377) (u_Mq_Mo _ k_Mo_530) (u_Mq_Mo _ k_Mo_0) (wcs (u_Mq_Mo _ k_Mo_378) (fun _ h => h))) rfl rfl rfl (by decide +kernel) ⟨Nat.le_of_ble_eq_true rfl, Nat.le_of_ble_eq_true rfl⟩) (pv_ofE (X.same _) (fun U z1 z2 => X.mono _ _ U hFc (hEw _ _ hS U z1 z2)) hP hK hD (va_recv hK hP (ci := 12) (q0 := 0) rfl rfl)) rfl rfl hl.1 rfl (lv_room (Nat.le_of_ble_eq_true rfl)) d_Mo_makeMaps_5 ⟨by decide, by decide⟩) hS (fun q _ h => hFc q h) hFc (fun r_ u t H locs ht hvm hw hB hz1 hk1 hS => ?_)
  rw [hw]
  obtain ⟨hP, -, hD⟩ := hB
  rw [ht] at hP
  have hD := lx_dj hD hFc
  refine lv_imul hx hb d_Mo_makeMaps_8 ?_
  refine lv_topi (fun x_2 ex_2 => ?_)
  have h := lf_lE h ex_2
  refine lv_istore_n (lv' := [(2, .int x_2), (0, .ref M.o), (1, .int p0)]) hx hb d_Mo_makeMaps_9 rfl hl (by decide) rfl (fun ls hl => ?_)
  refine lv_iconst (v := 0) hx hb d_Mo_makeMaps_10 (by decide) ?_
  refine lv_istore_n (lv' := [(3, .int 0), (2, .int x_2), (0, .ref M.o), (1, .int p0)]) hx hb d_Mo_makeMaps_11 rfl hl (by decide) rfl (fun ls hl => ?_)
  exact hB_12 K p0 x_2 0 S_1 _ _ _ h hP hD hS (lv_sub hl [2, 3, 1, 0] rfl)
set_option maxHeartbeats 4000000 in
set_option maxRecDepth 100000 in
theorem l_Mo_makeHead (l : Launch) (dC : Nat → ClassId) (dI : Nat → Nat → Nat) {K : Nat} {M : MA} {E : (Nat → Prop) → State → Prop} (X : lx_X l dC dI K M E) (sz : Nat) {S S' : MS} {p0 : Int32} {p1 : Int64} (h : f_Mo_makeHead K S p0 p1 = some S') : Met l y_Mo_makeHead (.code y_Mo_makeHead b_Mo_makeHead 8 none :: V_Mq) ({ frames := 3, cells := 0, slots := 0, locals := 65 }) (va_Pc [.ref M.o, .int p0, .long p1] (fun U => U.heap.size = sz ∧ at_ (dC, dI) (fun _ => True) (wM M S) (tM M) U ∧ E (va_A (wM M S) sz) U)) (va_Qv (fun (u : Unit) => True) (fun (u : Unit) t => at_ (dC, dI) (va_A (wM M S) sz) (wM M S') (tM M) t) (va_A (wM M S) sz)) 0 0 (va_A (wM M S) sz) := by
  refine Met.ofW (cc := b_Mo_makeHead) (maxL := 8) (ret := none) (by decide) rfl ?_
  intro p e s m args below meth c s₁ B hml hv
  obtain ⟨rfl, hsz, ⟨hP, hK, hD0⟩, hE⟩ := hv
  have hx := B.exec
  have hb := B.bytes
  have hr := B.returns
  have hts0 := atoms_spec (ws := .code y_Mo_makeHead b_Mo_makeHead 8 none :: V_Mq) B.pre
  have hts : ∀ w ∈ V_Mq, w.before ([.ref M.o, .int p0, .long p1] : List Value).toArray s = true := fun w h => hts0 w (List.mem_cons_of_mem _ h)
  have hown : s.vm.findClass R_Mo = some m.cls := findClass_of_methodNamed B.named
  subst hsz
  have hD := hD0.self (sz := s.heap.size)
  generalize hAe : va_A (wM M S) s.heap.size = A at hD hE ⊢
  have hA : ∀ q : Nat, s.heap.size ≤ q → A q := fun q h => by rw [← hAe]; exact Or.inr h
  have hS : va_S A s.heap s.heap [] := va_S.rf
  have hP : va_P (dC, dI) classes (wM M S) s.heap := hP
  have hK : va_K (dC, dI) classes (tM M) s := hK
  have hEw : ∀ (H : Heap) (locs : List Loc), va_S A s.heap H locs → ∀ U : State, U.heap = H → s.WarmedH U.vm → E A U := fun H locs hS U hU hW => X.kept A s U H locs hE hS hU hW
  have hl := lv_entry ([.ref M.o, .int p0, .long p1]) (n := 8) (Nat.le_of_ble_eq_true rfl)
  rw [lg_entry_eq]
  generalize (lg_sl ([.ref M.o, .int p0, .long p1]) ++ List.replicate (8 - (lg_sl ([.ref M.o, .int p0, .long p1])).length) Slot.unset).toArray = ls at hl ⊢
  have hl : lv_has ls 8 [(0, .ref M.o), (1, .int p0), (2, .long p1)] := hl
  refine qabs (fun Q hQ => ?_)
  have hB_355 : ∀ (k : Nat), ∀ (y_4 : Int32) (y_6 : Int32) (S : MS) (H : Heap) (locs : List Loc) (ls : Array Slot), f_Mo_makeHead_355 K k y_4 y_6 S = some S' → va_P (dC, dI) classes (wM M S) H → va_D A (wM M S) → va_S A s.heap H locs → lv_has ls 8 [(0, .ref M.o), (4, .int y_4), (6, .int y_6)] → W p l e ({ frames := 3, cells := 0, slots := 0, locals := 65 }) s m ([.ref M.o, .int p0, .long p1] : List Value).toArray below meth c H locs 0 0 Q (F0 m 355 ls []) := by
    intro k
    induction k with
    | zero => intro y_4 y_6 S H locs ls h; exact lf_no h
    | succ k hr_355 =>
      intro y_4 y_6 S H locs ls h hP hD hS hl
      rw [f_Mo_makeHead_355] at h
      refine lv_iload hx hb d_Mo_makeHead_355 (lv_at hl 2 rfl) ?_
      refine lv_aload_n hx hb d_Mo_makeHead_357 rfl (lv_at hl 0 rfl) ?_
      refine va_get (D := (dC, dI)) (ci := 12) (v := .int S.v_groups) (C := R_Mo) (T := F_Mo) (N := 66) hx hb hts (fun w h => u_Mq_Mo w (i_Mo w h)) hown hK hP 0 rfl rfl 46 (by decide) (hts _ (u_Mq_Mo _ k_Mo_53)) (fun _ h9 => h9) rfl d_Mo_makeHead_358 ?_
      refine lv_icmp_ge (tgt := 486) hx hb d_Mo_makeHead_361 (by decide) (fun c_31 => ?_) (fun c_31 => ?_)
      · have h := lf_t h c_31
        rw [hQ]
        have e2 : S = S' := Option.some.inj h
        have hP := lx_newP e2.symm hP
        have hD := lx_newD e2.symm hD
        exact W.vret hx hb hr (fun t ht hW => ⟨⟨(), rfl, trivial, by rw [ht]; exact hP, va_K.moved hW.alike hK, hD⟩, hS.F ht⟩) hS.2.2 d_Mo_makeHead_486
      · have h := lf_f h c_31
        refine lv_iload hx hb d_Mo_makeHead_364 (lv_at hl 1 rfl) ?_
        refine lv_sipush (v := 1024) hx hb d_Mo_makeHead_366 (by decide) ?_
        refine lv_iadd hx hb d_Mo_makeHead_369 ?_
        refine lv_bipush (v := 32) hx hb d_Mo_makeHead_370 (by decide) ?_
        refine lv_iload hx hb d_Mo_makeHead_372 (lv_at hl 2 rfl) ?_
        refine lv_imul hx hb d_Mo_makeHead_374 ?_
        refine lv_iadd hx hb d_Mo_makeHead_375 ?_
        refine lv_topi (fun x_32 ex_32 => ?_)
        have h := lf_lE h ex_32
        refine lv_istore (lv' := [(7, .int x_32), (0, .ref M.o), (4, .int y_4), (6, .int y_6)]) hx hb d_Mo_makeHead_376 hl (by decide) rfl (fun ls hl => ?_)
        refine lv_aload_n hx hb d_Mo_makeHead_378 rfl (lv_at hl 1 rfl) ?_
        refine lv_iload hx hb d_Mo_makeHead_379 (lv_at hl 0 rfl) ?_
        refine lv_iconst (v := 4) hx hb d_Mo_makeHead_381 (by decide) ?_
        refine lv_aload_n hx hb d_Mo_makeHead_382 rfl (lv_at hl 1 rfl) ?_
        refine lv_iload hx hb d_Mo_makeHead_383 (lv_at hl 3 rfl) ?_
        obtain ⟨r_33, S_33, hc_33, h⟩ := lf_cE h
        have hFc := lx_free hD hS hA
        refine va_calli (va_runV (As := [.int y_6]) (rest := [.int 4, .int x_32, .ref M.o]) ⟨hx, hb, hml, hown, hts⟩ (l_Mo_mapOf l dC dI X _ hc_33) (cwV 1 hts (gwV good_Mq (u_Mq_Mo _ k_Mo_376) (u_Mq_Mo _ k_Mo_377) (u_Mq_Mo _ k_Mo_530) (u_Mq_Mo _ k_Mo_0) (wcs (u_Mq_Mo _ k_Mo_378) (fun _ h => h))) rfl rfl rfl (by decide +kernel) ⟨Nat.le_of_ble_eq_true rfl, Nat.le_of_ble_eq_true rfl⟩) (pv_ofE (X.same _) (fun U z1 z2 => X.mono _ _ U hFc (hEw _ _ hS U z1 z2)) hP hK hD (va_recv hK hP (ci := 12) (q0 := 0) rfl rfl)) rfl rfl hl.1 rfl (lv_room (Nat.le_of_ble_eq_true rfl)) d_Mo_makeHead_385 ⟨by decide, by decide⟩) hS (fun q _ h => hFc q h) hFc (fun r_ u t H locs ht hvm hw hB hz1 hk1 hS => ?_)
        rw [hw]
        obtain ⟨hP, -, hD⟩ := hB
        rw [ht] at hP
        have hD := lx_dj hD hFc
        refine lv_i2l hx hb d_Mo_makeHead_388 rfl ?_
        obtain ⟨S_34, hc_34, h⟩ := lf_bE h
        have hFc := lx_free hD hS hA
        refine va_callv (va_runV (As := [.int x_32, .int 4, .long r_33.toInt64]) (rest := []) ⟨hx, hb, hml, hown, hts⟩ (l_Mo_lay l dC dI X _ hc_34) (cwV 3 hts (gwV good_Mq (u_Mq_Mo _ k_Mo_418) (u_Mq_Mo _ k_Mo_419) (u_Mq_Mo _ k_Mo_538) (u_Mq_Mo _ k_Mo_0) (wcs (u_Mq_Mo _ k_Mo_420) (fun _ h => h))) rfl rfl rfl (by decide +kernel) ⟨Nat.le_of_ble_eq_true rfl, Nat.le_of_ble_eq_true rfl⟩) (pv_ofE (X.same _) (fun U z1 z2 => X.mono _ _ U hFc (hEw _ _ hS U z1 z2)) hP hK hD (va_recv hK hP (ci := 12) (q0 := 0) rfl rfl)) rfl rfl hl.1 rfl (lv_room (Nat.le_of_ble_eq_true rfl)) d_Mo_makeHead_389 ⟨by decide, by decide⟩) hS (fun q _ h => hFc q h) hFc (fun u t H locs ht hvm hw hB hz1 hk1 hS => ?_)
        obtain ⟨hP, -, hD⟩ := hB
        rw [ht] at hP
        have hD := lx_dj hD hFc
        refine lv_aload_n hx hb d_Mo_makeHead_392 rfl (lv_at hl 1 rfl) ?_
        refine lv_iload hx hb d_Mo_makeHead_393 (lv_at hl 0 rfl) ?_
        refine lv_iconst (v := 4) hx hb d_Mo_makeHead_395 (by decide) ?_
        refine lv_iadd hx hb d_Mo_makeHead_396 ?_
        refine lv_iconst (v := 4) hx hb d_Mo_makeHead_397 (by decide) ?_
        refine lv_aload_n hx hb d_Mo_makeHead_398 rfl (lv_at hl 1 rfl) ?_
        refine lv_iload hx hb d_Mo_makeHead_399 (lv_at hl 3 rfl) ?_
        obtain ⟨r_35, S_35, hc_35, h⟩ := lf_cE h
        have hFc := lx_free hD hS hA
        refine va_calli (va_runV (As := [.int y_6]) (rest := [.int 4, .int (x_32 + 4), .ref M.o]) ⟨hx, hb, hml, hown, hts⟩ (l_Mo_mapOf l dC dI X _ hc_35) (cwV 1 hts (gwV good_Mq (u_Mq_Mo _ k_Mo_376) (u_Mq_Mo _ k_Mo_377) (u_Mq_Mo _ k_Mo_530) (u_Mq_Mo _ k_Mo_0) (wcs (u_Mq_Mo _ k_Mo_378) (fun _ h => h))) rfl rfl rfl (by decide +kernel) ⟨Nat.le_of_ble_eq_true rfl, Nat.le_of_ble_eq_true rfl⟩) (pv_ofE (X.same _) (fun U z1 z2 => X.mono _ _ U hFc (hEw _ _ hS U z1 z2)) hP hK hD (va_recv hK hP (ci := 12) (q0 := 0) rfl rfl)) rfl rfl hl.1 rfl (lv_room (Nat.le_of_ble_eq_true rfl)) d_Mo_makeHead_401 ⟨by decide, by decide⟩) hS (fun q _ h => hFc q h) hFc (fun r_ u t H locs ht hvm hw hB hz1 hk1 hS => ?_)
        rw [hw]
        obtain ⟨hP, -, hD⟩ := hB
        rw [ht] at hP
        have hD := lx_dj hD hFc
        refine lv_iconst (v := 1) hx hb d_Mo_makeHead_404 (by decide) ?_
        refine lv_iadd hx hb d_Mo_makeHead_405 ?_
        refine lv_i2l hx hb d_Mo_makeHead_406 rfl ?_
        obtain ⟨S_36, hc_36, h⟩ := lf_bE h
        have hFc := lx_free hD hS hA
        refine va_callv (va_runV (As := [.int (x_32 + 4), .int 4, .long ((r_35 + 1).toInt64)]) (rest := []) ⟨hx, hb, hml, hown, hts⟩ (l_Mo_lay l dC dI X _ hc_36) (cwV 3 hts (gwV good_Mq (u_Mq_Mo _ k_Mo_418) (u_Mq_Mo _ k_Mo_419) (u_Mq_Mo _ k_Mo_538) (u_Mq_Mo _ k_Mo_0) (wcs (u_Mq_Mo _ k_Mo_420) (fun _ h => h))) rfl rfl rfl (by decide +kernel) ⟨Nat.le_of_ble_eq_true rfl, Nat.le_of_ble_eq_true rfl⟩) (pv_ofE (X.same _) (fun U z1 z2 => X.mono _ _ U hFc (hEw _ _ hS U z1 z2)) hP hK hD (va_recv hK hP (ci := 12) (q0 := 0) rfl rfl)) rfl rfl hl.1 rfl (lv_room (Nat.le_of_ble_eq_true rfl)) d_Mo_makeHead_407 ⟨by decide, by decide⟩) hS (fun q _ h => hFc q h) hFc (fun u t H locs ht hvm hw hB hz1 hk1 hS => ?_)
        obtain ⟨hP, -, hD⟩ := hB
        rw [ht] at hP
        have hD := lx_dj hD hFc
        refine lv_aload_n hx hb d_Mo_makeHead_410 rfl (lv_at hl 1 rfl) ?_
        refine lv_iload hx hb d_Mo_makeHead_411 (lv_at hl 0 rfl) ?_
        refine lv_bipush (v := 8) hx hb d_Mo_makeHead_413 (by decide) ?_
        refine lv_iadd hx hb d_Mo_makeHead_415 ?_
        refine lv_iconst (v := 4) hx hb d_Mo_makeHead_416 (by decide) ?_
        refine lv_aload_n hx hb d_Mo_makeHead_417 rfl (lv_at hl 1 rfl) ?_
        refine lv_iload hx hb d_Mo_makeHead_418 (lv_at hl 3 rfl) ?_
        obtain ⟨r_37, S_37, hc_37, h⟩ := lf_cE h
        have hFc := lx_free hD hS hA
        refine va_calli (va_runV (As := [.int y_6]) (rest := [.int 4, .int (x_32 + 8), .ref M.o]) ⟨hx, hb, hml, hown, hts⟩ (l_Mo_mapOf l dC dI X _ hc_37) (cwV 1 hts (gwV good_Mq (u_Mq_Mo _ k_Mo_376) (u_Mq_Mo _ k_Mo_377) (u_Mq_Mo _ k_Mo_530) (u_Mq_Mo _ k_Mo_0) (wcs (u_Mq_Mo _ k_Mo_378) (fun _ h => h))) rfl rfl rfl (by decide +kernel) ⟨Nat.le_of_ble_eq_true rfl, Nat.le_of_ble_eq_true rfl⟩) (pv_ofE (X.same _) (fun U z1 z2 => X.mono _ _ U hFc (hEw _ _ hS U z1 z2)) hP hK hD (va_recv hK hP (ci := 12) (q0 := 0) rfl rfl)) rfl rfl hl.1 rfl (lv_room (Nat.le_of_ble_eq_true rfl)) d_Mo_makeHead_420 ⟨by decide, by decide⟩) hS (fun q _ h => hFc q h) hFc (fun r_ u t H locs ht hvm hw hB hz1 hk1 hS => ?_)
        rw [hw]
        obtain ⟨hP, -, hD⟩ := hB
        rw [ht] at hP
        have hD := lx_dj hD hFc
        refine lv_iconst (v := 2) hx hb d_Mo_makeHead_423 (by decide) ?_
        refine lv_iadd hx hb d_Mo_makeHead_424 ?_
        refine lv_i2l hx hb d_Mo_makeHead_425 rfl ?_
        obtain ⟨S_38, hc_38, h⟩ := lf_bE h
        have hFc := lx_free hD hS hA
        refine va_callv (va_runV (As := [.int (x_32 + 8), .int 4, .long ((r_37 + 2).toInt64)]) (rest := []) ⟨hx, hb, hml, hown, hts⟩ (l_Mo_lay l dC dI X _ hc_38) (cwV 3 hts (gwV good_Mq (u_Mq_Mo _ k_Mo_418) (u_Mq_Mo _ k_Mo_419) (u_Mq_Mo _ k_Mo_538) (u_Mq_Mo _ k_Mo_0) (wcs (u_Mq_Mo _ k_Mo_420) (fun _ h => h))) rfl rfl rfl (by decide +kernel) ⟨Nat.le_of_ble_eq_true rfl, Nat.le_of_ble_eq_true rfl⟩) (pv_ofE (X.same _) (fun U z1 z2 => X.mono _ _ U hFc (hEw _ _ hS U z1 z2)) hP hK hD (va_recv hK hP (ci := 12) (q0 := 0) rfl rfl)) rfl rfl hl.1 rfl (lv_room (Nat.le_of_ble_eq_true rfl)) d_Mo_makeHead_426 ⟨by decide, by decide⟩) hS (fun q _ h => hFc q h) hFc (fun u t H locs ht hvm hw hB hz1 hk1 hS => ?_)
        obtain ⟨hP, -, hD⟩ := hB
        rw [ht] at hP
        have hD := lx_dj hD hFc
        refine lv_aload_n hx hb d_Mo_makeHead_429 rfl (lv_at hl 1 rfl) ?_
        refine lv_iload hx hb d_Mo_makeHead_430 (lv_at hl 0 rfl) ?_
        refine lv_bipush (v := 12) hx hb d_Mo_makeHead_432 (by decide) ?_
        refine lv_iadd hx hb d_Mo_makeHead_434 ?_
        refine lv_iconst (v := 2) hx hb d_Mo_makeHead_435 (by decide) ?_
        refine lv_aload_n hx hb d_Mo_makeHead_436 rfl (lv_at hl 1 rfl) ?_
        refine lv_iload hx hb d_Mo_makeHead_437 (lv_at hl 3 rfl) ?_
        obtain ⟨r_39, S_39, hc_39, h⟩ := lf_cE h
        have hFc := lx_free hD hS hA
        refine va_calli (va_runV (As := [.int y_6]) (rest := [.int 2, .int (x_32 + 12), .ref M.o]) ⟨hx, hb, hml, hown, hts⟩ (l_Mo_freeBlocks l dC dI X _ hc_39) (cwV 1 hts (gwV good_Mq (u_Mq_Mo _ k_Mo_453) (u_Mq_Mo _ k_Mo_454) (u_Mq_Mo _ k_Mo_551) (u_Mq_Mo _ k_Mo_0) (wcs (u_Mq_Mo _ k_Mo_455) (fun _ h => h))) rfl rfl rfl (by decide +kernel) ⟨Nat.le_of_ble_eq_true rfl, Nat.le_of_ble_eq_true rfl⟩) (pv_ofE (X.same _) (fun U z1 z2 => X.mono _ _ U hFc (hEw _ _ hS U z1 z2)) hP hK hD (va_recv hK hP (ci := 12) (q0 := 0) rfl rfl)) rfl rfl hl.1 rfl (lv_room (Nat.le_of_ble_eq_true rfl)) d_Mo_makeHead_439 ⟨by decide, by decide⟩) hS (fun q _ h => hFc q h) hFc (fun r_ u t H locs ht hvm hw hB hz1 hk1 hS => ?_)
        rw [hw]
        obtain ⟨hP, -, hD⟩ := hB
        rw [ht] at hP
        have hD := lx_dj hD hFc
        refine lv_i2l hx hb d_Mo_makeHead_442 rfl ?_
        obtain ⟨S_40, hc_40, h⟩ := lf_bE h
        have hFc := lx_free hD hS hA
        refine va_callv (va_runV (As := [.int (x_32 + 12), .int 2, .long r_39.toInt64]) (rest := []) ⟨hx, hb, hml, hown, hts⟩ (l_Mo_lay l dC dI X _ hc_40) (cwV 3 hts (gwV good_Mq (u_Mq_Mo _ k_Mo_418) (u_Mq_Mo _ k_Mo_419) (u_Mq_Mo _ k_Mo_538) (u_Mq_Mo _ k_Mo_0) (wcs (u_Mq_Mo _ k_Mo_420) (fun _ h => h))) rfl rfl rfl (by decide +kernel) ⟨Nat.le_of_ble_eq_true rfl, Nat.le_of_ble_eq_true rfl⟩) (pv_ofE (X.same _) (fun U z1 z2 => X.mono _ _ U hFc (hEw _ _ hS U z1 z2)) hP hK hD (va_recv hK hP (ci := 12) (q0 := 0) rfl rfl)) rfl rfl hl.1 rfl (lv_room (Nat.le_of_ble_eq_true rfl)) d_Mo_makeHead_443 ⟨by decide, by decide⟩) hS (fun q _ h => hFc q h) hFc (fun u t H locs ht hvm hw hB hz1 hk1 hS => ?_)
        obtain ⟨hP, -, hD⟩ := hB
        rw [ht] at hP
        have hD := lx_dj hD hFc
        refine lv_aload_n hx hb d_Mo_makeHead_446 rfl (lv_at hl 1 rfl) ?_
        refine lv_iload hx hb d_Mo_makeHead_447 (lv_at hl 0 rfl) ?_
        refine lv_bipush (v := 14) hx hb d_Mo_makeHead_449 (by decide) ?_
        refine lv_iadd hx hb d_Mo_makeHead_451 ?_
        refine lv_iconst (v := 2) hx hb d_Mo_makeHead_452 (by decide) ?_
        refine lv_aload_n hx hb d_Mo_makeHead_453 rfl (lv_at hl 1 rfl) ?_
        refine lv_iload hx hb d_Mo_makeHead_454 (lv_at hl 3 rfl) ?_
        obtain ⟨r_41, S_41, hc_41, h⟩ := lf_cE h
        have hFc := lx_free hD hS hA
        refine va_calli (va_runV (As := [.int y_6]) (rest := [.int 2, .int (x_32 + 14), .ref M.o]) ⟨hx, hb, hml, hown, hts⟩ (l_Mo_freeInodes l dC dI X _ hc_41) (cwV 1 hts (gwV good_Mq (u_Mq_Mo _ k_Mo_468) (u_Mq_Mo _ k_Mo_469) (u_Mq_Mo _ k_Mo_553) (u_Mq_Mo _ k_Mo_0) (wcs (u_Mq_Mo _ k_Mo_470) (fun _ h => h))) rfl rfl rfl (by decide +kernel) ⟨Nat.le_of_ble_eq_true rfl, Nat.le_of_ble_eq_true rfl⟩) (pv_ofE (X.same _) (fun U z1 z2 => X.mono _ _ U hFc (hEw _ _ hS U z1 z2)) hP hK hD (va_recv hK hP (ci := 12) (q0 := 0) rfl rfl)) rfl rfl hl.1 rfl (lv_room (Nat.le_of_ble_eq_true rfl)) d_Mo_makeHead_456 ⟨by decide, by decide⟩) hS (fun q _ h => hFc q h) hFc (fun r_ u t H locs ht hvm hw hB hz1 hk1 hS => ?_)
        rw [hw]
        obtain ⟨hP, -, hD⟩ := hB
        rw [ht] at hP
        have hD := lx_dj hD hFc
        refine lv_i2l hx hb d_Mo_makeHead_459 rfl ?_
        obtain ⟨S_42, hc_42, h⟩ := lf_bE h
        have hFc := lx_free hD hS hA
        refine va_callv (va_runV (As := [.int (x_32 + 14), .int 2, .long r_41.toInt64]) (rest := []) ⟨hx, hb, hml, hown, hts⟩ (l_Mo_lay l dC dI X _ hc_42) (cwV 3 hts (gwV good_Mq (u_Mq_Mo _ k_Mo_418) (u_Mq_Mo _ k_Mo_419) (u_Mq_Mo _ k_Mo_538) (u_Mq_Mo _ k_Mo_0) (wcs (u_Mq_Mo _ k_Mo_420) (fun _ h => h))) rfl rfl rfl (by decide +kernel) ⟨Nat.le_of_ble_eq_true rfl, Nat.le_of_ble_eq_true rfl⟩) (pv_ofE (X.same _) (fun U z1 z2 => X.mono _ _ U hFc (hEw _ _ hS U z1 z2)) hP hK hD (va_recv hK hP (ci := 12) (q0 := 0) rfl rfl)) rfl rfl hl.1 rfl (lv_room (Nat.le_of_ble_eq_true rfl)) d_Mo_makeHead_460 ⟨by decide, by decide⟩) hS (fun q _ h => hFc q h) hFc (fun u t H locs ht hvm hw hB hz1 hk1 hS => ?_)
        obtain ⟨hP, -, hD⟩ := hB
        rw [ht] at hP
        have hD := lx_dj hD hFc
        refine lv_aload_n hx hb d_Mo_makeHead_463 rfl (lv_at hl 1 rfl) ?_
        refine lv_iload hx hb d_Mo_makeHead_464 (lv_at hl 0 rfl) ?_
        refine lv_bipush (v := 16) hx hb d_Mo_makeHead_466 (by decide) ?_
        refine lv_iadd hx hb d_Mo_makeHead_468 ?_
        refine lv_iconst (v := 2) hx hb d_Mo_makeHead_469 (by decide) ?_
        refine lv_aload_n hx hb d_Mo_makeHead_470 rfl (lv_at hl 1 rfl) ?_
        refine lv_iload hx hb d_Mo_makeHead_471 (lv_at hl 3 rfl) ?_
        obtain ⟨r_43, S_43, hc_43, h⟩ := lf_cE h
        have hFc := lx_free hD hS hA
        refine va_calli (va_runV (As := [.int y_6]) (rest := [.int 2, .int (x_32 + 16), .ref M.o]) ⟨hx, hb, hml, hown, hts⟩ (l_Mo_foldersOf l dC dI X _ hc_43) (cwV 1 hts (gwV good_Mq (u_Mq_Mo _ k_Mo_471) (u_Mq_Mo _ k_Mo_472) (u_Mq_Mo _ k_Mo_554) (u_Mq_Mo _ k_Mo_0) (wcs (u_Mq_Mo _ k_Mo_473) (fun _ h => h))) rfl rfl rfl (by decide +kernel) ⟨Nat.le_of_ble_eq_true rfl, Nat.le_of_ble_eq_true rfl⟩) (pv_ofE (X.same _) (fun U z1 z2 => X.mono _ _ U hFc (hEw _ _ hS U z1 z2)) hP hK hD (va_recv hK hP (ci := 12) (q0 := 0) rfl rfl)) rfl rfl hl.1 rfl (lv_room (Nat.le_of_ble_eq_true rfl)) d_Mo_makeHead_473 ⟨by decide, by decide⟩) hS (fun q _ h => hFc q h) hFc (fun r_ u t H locs ht hvm hw hB hz1 hk1 hS => ?_)
        rw [hw]
        obtain ⟨hP, -, hD⟩ := hB
        rw [ht] at hP
        have hD := lx_dj hD hFc
        refine lv_i2l hx hb d_Mo_makeHead_476 rfl ?_
        obtain ⟨S_44, hc_44, h⟩ := lf_bE h
        have hFc := lx_free hD hS hA
        refine va_callv (va_runV (As := [.int (x_32 + 16), .int 2, .long r_43.toInt64]) (rest := []) ⟨hx, hb, hml, hown, hts⟩ (l_Mo_lay l dC dI X _ hc_44) (cwV 3 hts (gwV good_Mq (u_Mq_Mo _ k_Mo_418) (u_Mq_Mo _ k_Mo_419) (u_Mq_Mo _ k_Mo_538) (u_Mq_Mo _ k_Mo_0) (wcs (u_Mq_Mo _ k_Mo_420) (fun _ h => h))) rfl rfl rfl (by decide +kernel) ⟨Nat.le_of_ble_eq_true rfl, Nat.le_of_ble_eq_true rfl⟩) (pv_ofE (X.same _) (fun U z1 z2 => X.mono _ _ U hFc (hEw _ _ hS U z1 z2)) hP hK hD (va_recv hK hP (ci := 12) (q0 := 0) rfl rfl)) rfl rfl hl.1 rfl (lv_room (Nat.le_of_ble_eq_true rfl)) d_Mo_makeHead_477 ⟨by decide, by decide⟩) hS (fun q _ h => hFc q h) hFc (fun u t H locs ht hvm hw hB hz1 hk1 hS => ?_)
        obtain ⟨hP, -, hD⟩ := hB
        rw [ht] at hP
        have hD := lx_dj hD hFc
        obtain ⟨x_45, ex_45, h⟩ := lf_lX h
        refine lv_iinc (v := x_45) (lv' := [(6, .int x_45), (7, .int x_32), (0, .ref M.o), (4, .int y_4)]) hx hb d_Mo_makeHead_480 hl (k := 3) rfl (by rw [ex_45]; rfl) (by decide) rfl (fun ls hl => ?_)
        refine lv_goto (tgt := 355) hx hb d_Mo_makeHead_483 (by decide) ?_
        exact hr_355 y_4 x_45 S_44 _ _ _ h hP hD hS (lv_sub hl [2, 3, 0] rfl)
  have hB_314 : ∀ (k : Nat), ∀ (y_4 : Int32) (y_5 : Int32) (y_6 : Int32) (S : MS) (H : Heap) (locs : List Loc) (ls : Array Slot), f_Mo_makeHead_314 K k y_4 y_5 y_6 S = some S' → va_P (dC, dI) classes (wM M S) H → va_D A (wM M S) → va_S A s.heap H locs → lv_has ls 8 [(0, .ref M.o), (4, .int y_4), (5, .int y_5), (6, .int y_6)] → W p l e ({ frames := 3, cells := 0, slots := 0, locals := 65 }) s m ([.ref M.o, .int p0, .long p1] : List Value).toArray below meth c H locs 0 0 Q (F0 m 314 ls []) := by
    intro k
    induction k with
    | zero => intro y_4 y_5 y_6 S H locs ls h; exact lf_no h
    | succ k hr_314 =>
      intro y_4 y_5 y_6 S H locs ls h hP hD hS hl
      rw [f_Mo_makeHead_314] at h
      refine lv_iload hx hb d_Mo_makeHead_314 (lv_at hl 3 rfl) ?_
      refine lv_iload hx hb d_Mo_makeHead_316 (lv_at hl 2 rfl) ?_
      refine lv_icmp_ge (tgt := 352) hx hb d_Mo_makeHead_318 (by decide) (fun c_26 => ?_) (fun c_26 => ?_)
      · have h := lf_t h c_26
        refine lv_iconst (v := 0) hx hb d_Mo_makeHead_352 (by decide) ?_
        refine lv_istore (lv' := [(6, .int 0), (0, .ref M.o), (4, .int y_4), (5, .int y_5)]) hx hb d_Mo_makeHead_353 hl (by decide) rfl (fun ls hl => ?_)
        exact hB_355 K y_4 0 S _ _ _ h hP hD hS (lv_sub hl [1, 2, 0] rfl)
      · have h := lf_f h c_26
        refine lv_aload_n hx hb d_Mo_makeHead_321 rfl (lv_at hl 0 rfl) ?_
        refine va_get (D := (dC, dI)) (ci := 12) (v := .ref M.a_fresh) (C := R_Mo) (T := F_Mo) (N := 66) hx hb hts (fun w h => u_Mq_Mo w (i_Mo w h)) hown hK hP 0 rfl rfl 2 (by decide) (hts _ (u_Mq_Mo _ k_Mo_9)) (fun _ h9 => h9) rfl d_Mo_makeHead_322 ?_
        refine lv_iload hx hb d_Mo_makeHead_325 (lv_at hl 1 rfl) ?_
        refine lv_bipush (v := 120) hx hb d_Mo_makeHead_327 (by decide) ?_
        refine lv_iadd hx hb d_Mo_makeHead_329 ?_
        refine lv_iload hx hb d_Mo_makeHead_330 (lv_at hl 3 rfl) ?_
        refine lv_iadd hx hb d_Mo_makeHead_332 ?_
        refine lv_aload_n hx hb d_Mo_makeHead_333 rfl (lv_at hl 0 rfl) ?_
        refine va_get (D := (dC, dI)) (ci := 12) (v := .ref M.a_disk) (C := R_Mo) (T := F_Mo) (N := 66) hx hb hts (fun w h => u_Mq_Mo w (i_Mo w h)) hown hK hP 0 rfl rfl 1 (by decide) (hts _ (u_Mq_Mo _ k_Mo_8)) (fun _ h9 => h9) rfl d_Mo_makeHead_334 ?_
        refine lv_aload_n hx hb d_Mo_makeHead_337 rfl (lv_at hl 0 rfl) ?_
        refine va_get (D := (dC, dI)) (ci := 12) (v := .int S.v_label) (C := R_Mo) (T := F_Mo) (N := 66) hx hb hts (fun w h => u_Mq_Mo w (i_Mo w h)) hown hK hP 0 rfl rfl 37 (by decide) (hts _ (u_Mq_Mo _ k_Mo_44)) (fun _ h9 => h9) rfl d_Mo_makeHead_338 ?_
        refine lv_iload hx hb d_Mo_makeHead_341 (lv_at hl 3 rfl) ?_
        refine lv_iadd hx hb d_Mo_makeHead_343 ?_
        obtain ⟨g_27, h⟩ := lf_gE h
        refine va_bald hx hb hK hP 1 0 rfl rfl g_27 d_Mo_makeHead_344 ?_
        obtain ⟨g_28, h⟩ := lf_gE h
        refine va_bast hx hb hK hP hD hS 2 1 rfl rfl g_28 d_Mo_makeHead_345 (fun H locs hP hD hS => ?_)
        obtain ⟨S_29, eS_29, h⟩ := lf_lX h
        have hP := lx_newP eS_29 hP
        have hD := lx_newD eS_29 hD
        obtain ⟨x_30, ex_30, h⟩ := lf_lX h
        refine lv_iinc (v := x_30) (lv' := [(6, .int x_30), (0, .ref M.o), (4, .int y_4), (5, .int y_5)]) hx hb d_Mo_makeHead_346 hl (k := 3) rfl (by rw [ex_30]; rfl) (by decide) rfl (fun ls hl => ?_)
        refine lv_goto (tgt := 314) hx hb d_Mo_makeHead_349 (by decide) ?_
        exact hr_314 y_4 y_5 x_30 S_29 _ _ _ h hP hD hS (lv_sub hl [1, 2, 3, 0] rfl)
  have hB_311 : ∀ (y_4 : Int32) (y_5 : Int32) (S : MS) (H : Heap) (locs : List Loc) (ls : Array Slot), f_Mo_makeHead_311 K y_4 y_5 S = some S' → va_P (dC, dI) classes (wM M S) H → va_D A (wM M S) → va_S A s.heap H locs → lv_has ls 8 [(0, .ref M.o), (4, .int y_4), (5, .int y_5)] → W p l e ({ frames := 3, cells := 0, slots := 0, locals := 65 }) s m ([.ref M.o, .int p0, .long p1] : List Value).toArray below meth c H locs 0 0 Q (F0 m 311 ls []) := by
    intro y_4 y_5 S H locs ls h hP hD hS hl
    rw [f_Mo_makeHead_311] at h
    refine lv_iconst (v := 0) hx hb d_Mo_makeHead_311 (by decide) ?_
    refine lv_istore (lv' := [(6, .int 0), (0, .ref M.o), (4, .int y_4), (5, .int y_5)]) hx hb d_Mo_makeHead_312 hl (by decide) rfl (fun ls hl => ?_)
    exact hB_314 K y_4 y_5 0 S _ _ _ h hP hD hS (lv_sub hl [1, 2, 3, 0] rfl)
  have hB_282 : ∀ (k : Nat), ∀ (y_4 : Int32) (y_5 : Int32) (S : MS) (H : Heap) (locs : List Loc) (ls : Array Slot), f_Mo_makeHead_282 K k y_4 y_5 S = some S' → va_P (dC, dI) classes (wM M S) H → va_D A (wM M S) → va_S A s.heap H locs → lv_has ls 8 [(0, .ref M.o), (4, .int y_4), (5, .int y_5)] → W p l e ({ frames := 3, cells := 0, slots := 0, locals := 65 }) s m ([.ref M.o, .int p0, .long p1] : List Value).toArray below meth c H locs 0 0 Q (F0 m 282 ls []) := by
    intro k
    induction k with
    | zero => intro y_4 y_5 S H locs ls h; exact lf_no h
    | succ k hr_282 =>
      intro y_4 y_5 S H locs ls h hP hD hS hl
      rw [f_Mo_makeHead_282] at h
      refine lv_iload hx hb d_Mo_makeHead_282 (lv_at hl 2 rfl) ?_
      refine lv_if_le (tgt := 311) hx hb d_Mo_makeHead_284 (by decide) (fun c_22 => ?_) (fun c_22 => ?_)
      · have h := lf_t h c_22
        exact hB_311 y_4 y_5 S _ _ _ h hP hD hS (lv_sub hl [0, 1, 2] rfl)
      · have h := lf_f h c_22
        refine lv_aload_n hx hb d_Mo_makeHead_287 rfl (lv_at hl 0 rfl) ?_
        refine lv_aload_n hx hb d_Mo_makeHead_288 rfl (lv_at hl 0 rfl) ?_
        refine va_get (D := (dC, dI)) (ci := 12) (v := .int S.v_label) (C := R_Mo) (T := F_Mo) (N := 66) hx hb hts (fun w h => u_Mq_Mo w (i_Mo w h)) hown hK hP 0 rfl rfl 37 (by decide) (hts _ (u_Mq_Mo _ k_Mo_44)) (fun _ h9 => h9) rfl d_Mo_makeHead_289 ?_
        refine lv_iload hx hb d_Mo_makeHead_292 (lv_at hl 2 rfl) ?_
        refine lv_iadd hx hb d_Mo_makeHead_294 ?_
        refine lv_iconst (v := 1) hx hb d_Mo_makeHead_295 (by decide) ?_
        refine lv_isub hx hb d_Mo_makeHead_296 ?_
        obtain ⟨r_23, S_23, hc_23, h⟩ := lf_cE h
        have hFc := lx_free hD hS hA
        refine va_calli (va_runV (As := [.int ((S.v_label + y_5) - 1)]) (rest := []) ⟨hx, hb, hml, hown, hts⟩ (l_Mo_one l dC dI X _ hc_23) (cwV 1 hts (gwV good_Mq (u_Mq_Mo _ k_Mo_94) (u_Mq_Mo _ k_Mo_95) (u_Mq_Mo _ k_Mo_475) (u_Mq_Mo _ k_Mo_0) (wcs (u_Mq_Mo _ k_Mo_96) (fun _ h => h))) rfl rfl rfl (by decide +kernel) ⟨Nat.le_of_ble_eq_true rfl, Nat.le_of_ble_eq_true rfl⟩) (pv_ofE (X.same _) (fun U z1 z2 => X.mono _ _ U hFc (hEw _ _ hS U z1 z2)) hP hK hD (va_recv hK hP (ci := 12) (q0 := 0) rfl rfl)) rfl rfl hl.1 rfl (lv_room (Nat.le_of_ble_eq_true rfl)) d_Mo_makeHead_297 ⟨by decide, by decide⟩) hS (fun q _ h => hFc q h) hFc (fun r_ u t H locs ht hvm hw hB hz1 hk1 hS => ?_)
        rw [hw]
        obtain ⟨hP, -, hD⟩ := hB
        rw [ht] at hP
        have hD := lx_dj hD hFc
        refine lv_bipush (v := 32) hx hb d_Mo_makeHead_300 (by decide) ?_
        refine lv_icmp_ne (tgt := 311) hx hb d_Mo_makeHead_302 (by decide) (fun c_24 => ?_) (fun c_24 => ?_)
        · have h := lf_f h c_24
          exact hB_311 y_4 y_5 S_23 _ _ _ h hP hD hS (lv_sub hl [0, 1, 2] rfl)
        · have h := lf_t h c_24
          obtain ⟨x_25, ex_25, h⟩ := lf_lX h
          refine lv_iinc (v := x_25) (lv' := [(5, .int x_25), (0, .ref M.o), (4, .int y_4)]) hx hb d_Mo_makeHead_305 hl (k := 2) rfl (by rw [ex_25]; rfl) (by decide) rfl (fun ls hl => ?_)
          refine lv_goto (tgt := 282) hx hb d_Mo_makeHead_308 (by decide) ?_
          exact hr_282 y_4 x_25 S_23 _ _ _ h hP hD hS (lv_sub hl [1, 2, 0] rfl)
  have hB_280 : ∀ (y_4 : Int32) (z_0 : Int32) (S : MS) (H : Heap) (locs : List Loc) (ls : Array Slot), f_Mo_makeHead_280 K y_4 z_0 S = some S' → va_P (dC, dI) classes (wM M S) H → va_D A (wM M S) → va_S A s.heap H locs → lv_has ls 8 [(0, .ref M.o), (4, .int y_4)] → W p l e ({ frames := 3, cells := 0, slots := 0, locals := 65 }) s m ([.ref M.o, .int p0, .long p1] : List Value).toArray below meth c H locs 0 0 Q (F0 m 280 ls [.int z_0]) := by
    intro y_4 z_0 S H locs ls h hP hD hS hl
    rw [f_Mo_makeHead_280] at h
    refine lv_istore (lv' := [(5, .int z_0), (0, .ref M.o), (4, .int y_4)]) hx hb d_Mo_makeHead_280 hl (by decide) rfl (fun ls hl => ?_)
    exact hB_282 K y_4 z_0 S _ _ _ h hP hD hS (lv_sub hl [1, 2, 0] rfl)
  rw [f_Mo_makeHead] at h
  refine lv_sipush (v := 1024) hx hb d_Mo_makeHead_0 (by decide) ?_
  refine lv_iconst (v := 1) hx hb d_Mo_makeHead_3 (by decide) ?_
  refine lv_iload_n hx hb d_Mo_makeHead_4 rfl (lv_at hl 1 rfl) ?_
  refine lv_aload_n hx hb d_Mo_makeHead_5 rfl (lv_at hl 0 rfl) ?_
  refine va_get (D := (dC, dI)) (ci := 12) (v := .int S.v_per) (C := R_Mo) (T := F_Mo) (N := 66) hx hb hts (fun w h => u_Mq_Mo w (i_Mo w h)) hown hK hP 0 rfl rfl 47 (by decide) (hts _ (u_Mq_Mo _ k_Mo_54)) (fun _ h9 => h9) rfl d_Mo_makeHead_6 ?_
  refine lv_imul hx hb d_Mo_makeHead_9 ?_
  refine lv_iadd hx hb d_Mo_makeHead_10 ?_
  refine lv_imul hx hb d_Mo_makeHead_11 ?_
  refine lv_topi (fun x_1 ex_1 => ?_)
  have h := lf_lE h ex_1
  refine lv_istore (lv' := [(4, .int x_1), (0, .ref M.o), (1, .int p0), (2, .long p1)]) hx hb d_Mo_makeHead_12 hl (by decide) rfl (fun ls hl => ?_)
  refine lv_aload_n hx hb d_Mo_makeHead_14 rfl (lv_at hl 1 rfl) ?_
  refine lv_iload hx hb d_Mo_makeHead_15 (lv_at hl 0 rfl) ?_
  refine lv_iconst (v := 4) hx hb d_Mo_makeHead_17 (by decide) ?_
  refine lv_aload_n hx hb d_Mo_makeHead_18 rfl (lv_at hl 1 rfl) ?_
  refine va_get (D := (dC, dI)) (ci := 12) (v := .int S.v_groups) (C := R_Mo) (T := F_Mo) (N := 66) hx hb hts (fun w h => u_Mq_Mo w (i_Mo w h)) hown hK hP 0 rfl rfl 46 (by decide) (hts _ (u_Mq_Mo _ k_Mo_53)) (fun _ h9 => h9) rfl d_Mo_makeHead_19 ?_
  refine lv_aload_n hx hb d_Mo_makeHead_22 rfl (lv_at hl 1 rfl) ?_
  refine va_get (D := (dC, dI)) (ci := 12) (v := .int S.v_inodes) (C := R_Mo) (T := F_Mo) (N := 66) hx hb hts (fun w h => u_Mq_Mo w (i_Mo w h)) hown hK hP 0 rfl rfl 48 (by decide) (hts _ (u_Mq_Mo _ k_Mo_55)) (fun _ h9 => h9) rfl d_Mo_makeHead_23 ?_
  refine lv_imul hx hb d_Mo_makeHead_26 ?_
  refine lv_i2l hx hb d_Mo_makeHead_27 rfl ?_
  obtain ⟨S_2, hc_2, h⟩ := lf_bE h
  have hFc := lx_free hD hS hA
  refine va_callv (va_runV (As := [.int x_1, .int 4, .long ((S.v_groups * S.v_inodes).toInt64)]) (rest := []) ⟨hx, hb, hml, hown, hts⟩ (l_Mo_lay l dC dI X _ hc_2) (cwV 3 hts (gwV good_Mq (u_Mq_Mo _ k_Mo_418) (u_Mq_Mo _ k_Mo_419) (u_Mq_Mo _ k_Mo_538) (u_Mq_Mo _ k_Mo_0) (wcs (u_Mq_Mo _ k_Mo_420) (fun _ h => h))) rfl rfl rfl (by decide +kernel) ⟨Nat.le_of_ble_eq_true rfl, Nat.le_of_ble_eq_true rfl⟩) (pv_ofE (X.same _) (fun U z1 z2 => X.mono _ _ U hFc (hEw _ _ hS U z1 z2)) hP hK hD (va_recv hK hP (ci := 12) (q0 := 0) rfl rfl)) rfl rfl hl.1 rfl (lv_room (Nat.le_of_ble_eq_true rfl)) d_Mo_makeHead_28 ⟨by decide, by decide⟩) hS (fun q _ h => hFc q h) hFc (fun u t H locs ht hvm hw hB hz1 hk1 hS => ?_)
  obtain ⟨hP, -, hD⟩ := hB
  rw [ht] at hP
  have hD := lx_dj hD hFc
  refine lv_aload_n hx hb d_Mo_makeHead_31 rfl (lv_at hl 1 rfl) ?_
  refine lv_iload hx hb d_Mo_makeHead_32 (lv_at hl 0 rfl) ?_
  refine lv_iconst (v := 4) hx hb d_Mo_makeHead_34 (by decide) ?_
  refine lv_iadd hx hb d_Mo_makeHead_35 ?_
  refine lv_iconst (v := 4) hx hb d_Mo_makeHead_36 (by decide) ?_
  refine lv_aload_n hx hb d_Mo_makeHead_37 rfl (lv_at hl 1 rfl) ?_
  refine va_get (D := (dC, dI)) (ci := 12) (v := .int S_2.v_blocks) (C := R_Mo) (T := F_Mo) (N := 66) hx hb hts (fun w h => u_Mq_Mo w (i_Mo w h)) hown hK hP 0 rfl rfl 50 (by decide) (hts _ (u_Mq_Mo _ k_Mo_57)) (fun _ h9 => h9) rfl d_Mo_makeHead_38 ?_
  refine lv_i2l hx hb d_Mo_makeHead_41 rfl ?_
  obtain ⟨S_3, hc_3, h⟩ := lf_bE h
  have hFc := lx_free hD hS hA
  refine va_callv (va_runV (As := [.int (x_1 + 4), .int 4, .long S_2.v_blocks.toInt64]) (rest := []) ⟨hx, hb, hml, hown, hts⟩ (l_Mo_lay l dC dI X _ hc_3) (cwV 3 hts (gwV good_Mq (u_Mq_Mo _ k_Mo_418) (u_Mq_Mo _ k_Mo_419) (u_Mq_Mo _ k_Mo_538) (u_Mq_Mo _ k_Mo_0) (wcs (u_Mq_Mo _ k_Mo_420) (fun _ h => h))) rfl rfl rfl (by decide +kernel) ⟨Nat.le_of_ble_eq_true rfl, Nat.le_of_ble_eq_true rfl⟩) (pv_ofE (X.same _) (fun U z1 z2 => X.mono _ _ U hFc (hEw _ _ hS U z1 z2)) hP hK hD (va_recv hK hP (ci := 12) (q0 := 0) rfl rfl)) rfl rfl hl.1 rfl (lv_room (Nat.le_of_ble_eq_true rfl)) d_Mo_makeHead_42 ⟨by decide, by decide⟩) hS (fun q _ h => hFc q h) hFc (fun u t H locs ht hvm hw hB hz1 hk1 hS => ?_)
  obtain ⟨hP, -, hD⟩ := hB
  rw [ht] at hP
  have hD := lx_dj hD hFc
  refine lv_aload_n hx hb d_Mo_makeHead_45 rfl (lv_at hl 1 rfl) ?_
  refine lv_iload hx hb d_Mo_makeHead_46 (lv_at hl 0 rfl) ?_
  refine lv_bipush (v := 12) hx hb d_Mo_makeHead_48 (by decide) ?_
  refine lv_iadd hx hb d_Mo_makeHead_50 ?_
  refine lv_iconst (v := 4) hx hb d_Mo_makeHead_51 (by decide) ?_
  refine lv_lload_n hx hb d_Mo_makeHead_52 rfl (lv_at hl 3 rfl) ?_
  obtain ⟨S_4, hc_4, h⟩ := lf_bE h
  have hFc := lx_free hD hS hA
  refine va_callv (va_runV (As := [.int (x_1 + 12), .int 4, .long p1]) (rest := []) ⟨hx, hb, hml, hown, hts⟩ (l_Mo_lay l dC dI X _ hc_4) (cwV 3 hts (gwV good_Mq (u_Mq_Mo _ k_Mo_418) (u_Mq_Mo _ k_Mo_419) (u_Mq_Mo _ k_Mo_538) (u_Mq_Mo _ k_Mo_0) (wcs (u_Mq_Mo _ k_Mo_420) (fun _ h => h))) rfl rfl rfl (by decide +kernel) ⟨Nat.le_of_ble_eq_true rfl, Nat.le_of_ble_eq_true rfl⟩) (pv_ofE (X.same _) (fun U z1 z2 => X.mono _ _ U hFc (hEw _ _ hS U z1 z2)) hP hK hD (va_recv hK hP (ci := 12) (q0 := 0) rfl rfl)) rfl rfl hl.1 rfl (lv_room (Nat.le_of_ble_eq_true rfl)) d_Mo_makeHead_53 ⟨by decide, by decide⟩) hS (fun q _ h => hFc q h) hFc (fun u t H locs ht hvm hw hB hz1 hk1 hS => ?_)
  obtain ⟨hP, -, hD⟩ := hB
  rw [ht] at hP
  have hD := lx_dj hD hFc
  refine lv_aload_n hx hb d_Mo_makeHead_56 rfl (lv_at hl 1 rfl) ?_
  refine lv_iload hx hb d_Mo_makeHead_57 (lv_at hl 0 rfl) ?_
  refine lv_bipush (v := 16) hx hb d_Mo_makeHead_59 (by decide) ?_
  refine lv_iadd hx hb d_Mo_makeHead_61 ?_
  refine lv_iconst (v := 4) hx hb d_Mo_makeHead_62 (by decide) ?_
  refine lv_aload_n hx hb d_Mo_makeHead_63 rfl (lv_at hl 1 rfl) ?_
  refine va_get (D := (dC, dI)) (ci := 12) (v := .int S_4.v_groups) (C := R_Mo) (T := F_Mo) (N := 66) hx hb hts (fun w h => u_Mq_Mo w (i_Mo w h)) hown hK hP 0 rfl rfl 46 (by decide) (hts _ (u_Mq_Mo _ k_Mo_53)) (fun _ h9 => h9) rfl d_Mo_makeHead_64 ?_
  refine lv_aload_n hx hb d_Mo_makeHead_67 rfl (lv_at hl 1 rfl) ?_
  refine va_get (D := (dC, dI)) (ci := 12) (v := .int S_4.v_inodes) (C := R_Mo) (T := F_Mo) (N := 66) hx hb hts (fun w h => u_Mq_Mo w (i_Mo w h)) hown hK hP 0 rfl rfl 48 (by decide) (hts _ (u_Mq_Mo _ k_Mo_55)) (fun _ h9 => h9) rfl d_Mo_makeHead_68 ?_
  refine lv_imul hx hb d_Mo_makeHead_71 ?_
  refine lv_bipush (v := 10) hx hb d_Mo_makeHead_72 (by decide) ?_
  refine lv_isub hx hb d_Mo_makeHead_74 ?_
  refine lv_aload_n hx hb d_Mo_makeHead_75 rfl (lv_at hl 1 rfl) ?_
  refine va_get (D := (dC, dI)) (ci := 12) (v := .int S_4.v_items) (C := R_Mo) (T := F_Mo) (N := 66) hx hb hts (fun w h => u_Mq_Mo w (i_Mo w h)) hown hK hP 0 rfl rfl 21 (by decide) (hts _ (u_Mq_Mo _ k_Mo_28)) (fun _ h9 => h9) rfl d_Mo_makeHead_76 ?_
  refine lv_isub hx hb d_Mo_makeHead_79 ?_
  refine lv_i2l hx hb d_Mo_makeHead_80 rfl ?_
  obtain ⟨S_5, hc_5, h⟩ := lf_bE h
  have hFc := lx_free hD hS hA
  refine va_callv (va_runV (As := [.int (x_1 + 16), .int 4, .long ((((S_4.v_groups * S_4.v_inodes) - 10) - S_4.v_items).toInt64)]) (rest := []) ⟨hx, hb, hml, hown, hts⟩ (l_Mo_lay l dC dI X _ hc_5) (cwV 3 hts (gwV good_Mq (u_Mq_Mo _ k_Mo_418) (u_Mq_Mo _ k_Mo_419) (u_Mq_Mo _ k_Mo_538) (u_Mq_Mo _ k_Mo_0) (wcs (u_Mq_Mo _ k_Mo_420) (fun _ h => h))) rfl rfl rfl (by decide +kernel) ⟨Nat.le_of_ble_eq_true rfl, Nat.le_of_ble_eq_true rfl⟩) (pv_ofE (X.same _) (fun U z1 z2 => X.mono _ _ U hFc (hEw _ _ hS U z1 z2)) hP hK hD (va_recv hK hP (ci := 12) (q0 := 0) rfl rfl)) rfl rfl hl.1 rfl (lv_room (Nat.le_of_ble_eq_true rfl)) d_Mo_makeHead_81 ⟨by decide, by decide⟩) hS (fun q _ h => hFc q h) hFc (fun u t H locs ht hvm hw hB hz1 hk1 hS => ?_)
  obtain ⟨hP, -, hD⟩ := hB
  rw [ht] at hP
  have hD := lx_dj hD hFc
  refine lv_aload_n hx hb d_Mo_makeHead_84 rfl (lv_at hl 1 rfl) ?_
  refine lv_iload hx hb d_Mo_makeHead_85 (lv_at hl 0 rfl) ?_
  refine lv_bipush (v := 20) hx hb d_Mo_makeHead_87 (by decide) ?_
  refine lv_iadd hx hb d_Mo_makeHead_89 ?_
  refine lv_iconst (v := 4) hx hb d_Mo_makeHead_90 (by decide) ?_
  refine lv_lconst (v := 1) hx hb d_Mo_makeHead_91 (by decide) ?_
  obtain ⟨S_6, hc_6, h⟩ := lf_bE h
  have hFc := lx_free hD hS hA
  refine va_callv (va_runV (As := [.int (x_1 + 20), .int 4, .long 1]) (rest := []) ⟨hx, hb, hml, hown, hts⟩ (l_Mo_lay l dC dI X _ hc_6) (cwV 3 hts (gwV good_Mq (u_Mq_Mo _ k_Mo_418) (u_Mq_Mo _ k_Mo_419) (u_Mq_Mo _ k_Mo_538) (u_Mq_Mo _ k_Mo_0) (wcs (u_Mq_Mo _ k_Mo_420) (fun _ h => h))) rfl rfl rfl (by decide +kernel) ⟨Nat.le_of_ble_eq_true rfl, Nat.le_of_ble_eq_true rfl⟩) (pv_ofE (X.same _) (fun U z1 z2 => X.mono _ _ U hFc (hEw _ _ hS U z1 z2)) hP hK hD (va_recv hK hP (ci := 12) (q0 := 0) rfl rfl)) rfl rfl hl.1 rfl (lv_room (Nat.le_of_ble_eq_true rfl)) d_Mo_makeHead_92 ⟨by decide, by decide⟩) hS (fun q _ h => hFc q h) hFc (fun u t H locs ht hvm hw hB hz1 hk1 hS => ?_)
  obtain ⟨hP, -, hD⟩ := hB
  rw [ht] at hP
  have hD := lx_dj hD hFc
  refine lv_aload_n hx hb d_Mo_makeHead_95 rfl (lv_at hl 1 rfl) ?_
  refine lv_iload hx hb d_Mo_makeHead_96 (lv_at hl 0 rfl) ?_
  refine lv_bipush (v := 32) hx hb d_Mo_makeHead_98 (by decide) ?_
  refine lv_iadd hx hb d_Mo_makeHead_100 ?_
  refine lv_iconst (v := 4) hx hb d_Mo_makeHead_101 (by decide) ?_
  refine lv_aload_n hx hb d_Mo_makeHead_102 rfl (lv_at hl 1 rfl) ?_
  refine va_get (D := (dC, dI)) (ci := 12) (v := .int S_6.v_per) (C := R_Mo) (T := F_Mo) (N := 66) hx hb hts (fun w h => u_Mq_Mo w (i_Mo w h)) hown hK hP 0 rfl rfl 47 (by decide) (hts _ (u_Mq_Mo _ k_Mo_54)) (fun _ h9 => h9) rfl d_Mo_makeHead_103 ?_
  refine lv_i2l hx hb d_Mo_makeHead_106 rfl ?_
  obtain ⟨S_7, hc_7, h⟩ := lf_bE h
  have hFc := lx_free hD hS hA
  refine va_callv (va_runV (As := [.int (x_1 + 32), .int 4, .long S_6.v_per.toInt64]) (rest := []) ⟨hx, hb, hml, hown, hts⟩ (l_Mo_lay l dC dI X _ hc_7) (cwV 3 hts (gwV good_Mq (u_Mq_Mo _ k_Mo_418) (u_Mq_Mo _ k_Mo_419) (u_Mq_Mo _ k_Mo_538) (u_Mq_Mo _ k_Mo_0) (wcs (u_Mq_Mo _ k_Mo_420) (fun _ h => h))) rfl rfl rfl (by decide +kernel) ⟨Nat.le_of_ble_eq_true rfl, Nat.le_of_ble_eq_true rfl⟩) (pv_ofE (X.same _) (fun U z1 z2 => X.mono _ _ U hFc (hEw _ _ hS U z1 z2)) hP hK hD (va_recv hK hP (ci := 12) (q0 := 0) rfl rfl)) rfl rfl hl.1 rfl (lv_room (Nat.le_of_ble_eq_true rfl)) d_Mo_makeHead_107 ⟨by decide, by decide⟩) hS (fun q _ h => hFc q h) hFc (fun u t H locs ht hvm hw hB hz1 hk1 hS => ?_)
  obtain ⟨hP, -, hD⟩ := hB
  rw [ht] at hP
  have hD := lx_dj hD hFc
  refine lv_aload_n hx hb d_Mo_makeHead_110 rfl (lv_at hl 1 rfl) ?_
  refine lv_iload hx hb d_Mo_makeHead_111 (lv_at hl 0 rfl) ?_
  refine lv_bipush (v := 36) hx hb d_Mo_makeHead_113 (by decide) ?_
  refine lv_iadd hx hb d_Mo_makeHead_115 ?_
  refine lv_iconst (v := 4) hx hb d_Mo_makeHead_116 (by decide) ?_
  refine lv_aload_n hx hb d_Mo_makeHead_117 rfl (lv_at hl 1 rfl) ?_
  refine va_get (D := (dC, dI)) (ci := 12) (v := .int S_7.v_per) (C := R_Mo) (T := F_Mo) (N := 66) hx hb hts (fun w h => u_Mq_Mo w (i_Mo w h)) hown hK hP 0 rfl rfl 47 (by decide) (hts _ (u_Mq_Mo _ k_Mo_54)) (fun _ h9 => h9) rfl d_Mo_makeHead_118 ?_
  refine lv_i2l hx hb d_Mo_makeHead_121 rfl ?_
  obtain ⟨S_8, hc_8, h⟩ := lf_bE h
  have hFc := lx_free hD hS hA
  refine va_callv (va_runV (As := [.int (x_1 + 36), .int 4, .long S_7.v_per.toInt64]) (rest := []) ⟨hx, hb, hml, hown, hts⟩ (l_Mo_lay l dC dI X _ hc_8) (cwV 3 hts (gwV good_Mq (u_Mq_Mo _ k_Mo_418) (u_Mq_Mo _ k_Mo_419) (u_Mq_Mo _ k_Mo_538) (u_Mq_Mo _ k_Mo_0) (wcs (u_Mq_Mo _ k_Mo_420) (fun _ h => h))) rfl rfl rfl (by decide +kernel) ⟨Nat.le_of_ble_eq_true rfl, Nat.le_of_ble_eq_true rfl⟩) (pv_ofE (X.same _) (fun U z1 z2 => X.mono _ _ U hFc (hEw _ _ hS U z1 z2)) hP hK hD (va_recv hK hP (ci := 12) (q0 := 0) rfl rfl)) rfl rfl hl.1 rfl (lv_room (Nat.le_of_ble_eq_true rfl)) d_Mo_makeHead_122 ⟨by decide, by decide⟩) hS (fun q _ h => hFc q h) hFc (fun u t H locs ht hvm hw hB hz1 hk1 hS => ?_)
  obtain ⟨hP, -, hD⟩ := hB
  rw [ht] at hP
  have hD := lx_dj hD hFc
  refine lv_aload_n hx hb d_Mo_makeHead_125 rfl (lv_at hl 1 rfl) ?_
  refine lv_iload hx hb d_Mo_makeHead_126 (lv_at hl 0 rfl) ?_
  refine lv_bipush (v := 40) hx hb d_Mo_makeHead_128 (by decide) ?_
  refine lv_iadd hx hb d_Mo_makeHead_130 ?_
  refine lv_iconst (v := 4) hx hb d_Mo_makeHead_131 (by decide) ?_
  refine lv_aload_n hx hb d_Mo_makeHead_132 rfl (lv_at hl 1 rfl) ?_
  refine va_get (D := (dC, dI)) (ci := 12) (v := .int S_8.v_inodes) (C := R_Mo) (T := F_Mo) (N := 66) hx hb hts (fun w h => u_Mq_Mo w (i_Mo w h)) hown hK hP 0 rfl rfl 48 (by decide) (hts _ (u_Mq_Mo _ k_Mo_55)) (fun _ h9 => h9) rfl d_Mo_makeHead_133 ?_
  refine lv_i2l hx hb d_Mo_makeHead_136 rfl ?_
  obtain ⟨S_9, hc_9, h⟩ := lf_bE h
  have hFc := lx_free hD hS hA
  refine va_callv (va_runV (As := [.int (x_1 + 40), .int 4, .long S_8.v_inodes.toInt64]) (rest := []) ⟨hx, hb, hml, hown, hts⟩ (l_Mo_lay l dC dI X _ hc_9) (cwV 3 hts (gwV good_Mq (u_Mq_Mo _ k_Mo_418) (u_Mq_Mo _ k_Mo_419) (u_Mq_Mo _ k_Mo_538) (u_Mq_Mo _ k_Mo_0) (wcs (u_Mq_Mo _ k_Mo_420) (fun _ h => h))) rfl rfl rfl (by decide +kernel) ⟨Nat.le_of_ble_eq_true rfl, Nat.le_of_ble_eq_true rfl⟩) (pv_ofE (X.same _) (fun U z1 z2 => X.mono _ _ U hFc (hEw _ _ hS U z1 z2)) hP hK hD (va_recv hK hP (ci := 12) (q0 := 0) rfl rfl)) rfl rfl hl.1 rfl (lv_room (Nat.le_of_ble_eq_true rfl)) d_Mo_makeHead_137 ⟨by decide, by decide⟩) hS (fun q _ h => hFc q h) hFc (fun u t H locs ht hvm hw hB hz1 hk1 hS => ?_)
  obtain ⟨hP, -, hD⟩ := hB
  rw [ht] at hP
  have hD := lx_dj hD hFc
  refine lv_aload_n hx hb d_Mo_makeHead_140 rfl (lv_at hl 1 rfl) ?_
  refine lv_iload hx hb d_Mo_makeHead_141 (lv_at hl 0 rfl) ?_
  refine lv_bipush (v := 54) hx hb d_Mo_makeHead_143 (by decide) ?_
  refine lv_iadd hx hb d_Mo_makeHead_145 ?_
  refine lv_iconst (v := 2) hx hb d_Mo_makeHead_146 (by decide) ?_
  refine lv_ldc2 (v := 65535) hx hb hown (hts _ (u_Mq_Mo _ k_Mo_338)) d_Mo_makeHead_147 ?_
  obtain ⟨S_10, hc_10, h⟩ := lf_bE h
  have hFc := lx_free hD hS hA
  refine va_callv (va_runV (As := [.int (x_1 + 54), .int 2, .long 65535]) (rest := []) ⟨hx, hb, hml, hown, hts⟩ (l_Mo_lay l dC dI X _ hc_10) (cwV 3 hts (gwV good_Mq (u_Mq_Mo _ k_Mo_418) (u_Mq_Mo _ k_Mo_419) (u_Mq_Mo _ k_Mo_538) (u_Mq_Mo _ k_Mo_0) (wcs (u_Mq_Mo _ k_Mo_420) (fun _ h => h))) rfl rfl rfl (by decide +kernel) ⟨Nat.le_of_ble_eq_true rfl, Nat.le_of_ble_eq_true rfl⟩) (pv_ofE (X.same _) (fun U z1 z2 => X.mono _ _ U hFc (hEw _ _ hS U z1 z2)) hP hK hD (va_recv hK hP (ci := 12) (q0 := 0) rfl rfl)) rfl rfl hl.1 rfl (lv_room (Nat.le_of_ble_eq_true rfl)) d_Mo_makeHead_150 ⟨by decide, by decide⟩) hS (fun q _ h => hFc q h) hFc (fun u t H locs ht hvm hw hB hz1 hk1 hS => ?_)
  obtain ⟨hP, -, hD⟩ := hB
  rw [ht] at hP
  have hD := lx_dj hD hFc
  refine lv_aload_n hx hb d_Mo_makeHead_153 rfl (lv_at hl 1 rfl) ?_
  refine lv_iload hx hb d_Mo_makeHead_154 (lv_at hl 0 rfl) ?_
  refine lv_bipush (v := 56) hx hb d_Mo_makeHead_156 (by decide) ?_
  refine lv_iadd hx hb d_Mo_makeHead_158 ?_
  refine lv_iconst (v := 2) hx hb d_Mo_makeHead_159 (by decide) ?_
  refine lv_ldc2 (v := 61267) hx hb hown (hts _ (u_Mq_Mo _ k_Mo_465)) d_Mo_makeHead_160 ?_
  obtain ⟨S_11, hc_11, h⟩ := lf_bE h
  have hFc := lx_free hD hS hA
  refine va_callv (va_runV (As := [.int (x_1 + 56), .int 2, .long 61267]) (rest := []) ⟨hx, hb, hml, hown, hts⟩ (l_Mo_lay l dC dI X _ hc_11) (cwV 3 hts (gwV good_Mq (u_Mq_Mo _ k_Mo_418) (u_Mq_Mo _ k_Mo_419) (u_Mq_Mo _ k_Mo_538) (u_Mq_Mo _ k_Mo_0) (wcs (u_Mq_Mo _ k_Mo_420) (fun _ h => h))) rfl rfl rfl (by decide +kernel) ⟨Nat.le_of_ble_eq_true rfl, Nat.le_of_ble_eq_true rfl⟩) (pv_ofE (X.same _) (fun U z1 z2 => X.mono _ _ U hFc (hEw _ _ hS U z1 z2)) hP hK hD (va_recv hK hP (ci := 12) (q0 := 0) rfl rfl)) rfl rfl hl.1 rfl (lv_room (Nat.le_of_ble_eq_true rfl)) d_Mo_makeHead_163 ⟨by decide, by decide⟩) hS (fun q _ h => hFc q h) hFc (fun u t H locs ht hvm hw hB hz1 hk1 hS => ?_)
  obtain ⟨hP, -, hD⟩ := hB
  rw [ht] at hP
  have hD := lx_dj hD hFc
  refine lv_aload_n hx hb d_Mo_makeHead_166 rfl (lv_at hl 1 rfl) ?_
  refine lv_iload hx hb d_Mo_makeHead_167 (lv_at hl 0 rfl) ?_
  refine lv_bipush (v := 58) hx hb d_Mo_makeHead_169 (by decide) ?_
  refine lv_iadd hx hb d_Mo_makeHead_171 ?_
  refine lv_iconst (v := 2) hx hb d_Mo_makeHead_172 (by decide) ?_
  refine lv_lconst (v := 1) hx hb d_Mo_makeHead_173 (by decide) ?_
  obtain ⟨S_12, hc_12, h⟩ := lf_bE h
  have hFc := lx_free hD hS hA
  refine va_callv (va_runV (As := [.int (x_1 + 58), .int 2, .long 1]) (rest := []) ⟨hx, hb, hml, hown, hts⟩ (l_Mo_lay l dC dI X _ hc_12) (cwV 3 hts (gwV good_Mq (u_Mq_Mo _ k_Mo_418) (u_Mq_Mo _ k_Mo_419) (u_Mq_Mo _ k_Mo_538) (u_Mq_Mo _ k_Mo_0) (wcs (u_Mq_Mo _ k_Mo_420) (fun _ h => h))) rfl rfl rfl (by decide +kernel) ⟨Nat.le_of_ble_eq_true rfl, Nat.le_of_ble_eq_true rfl⟩) (pv_ofE (X.same _) (fun U z1 z2 => X.mono _ _ U hFc (hEw _ _ hS U z1 z2)) hP hK hD (va_recv hK hP (ci := 12) (q0 := 0) rfl rfl)) rfl rfl hl.1 rfl (lv_room (Nat.le_of_ble_eq_true rfl)) d_Mo_makeHead_174 ⟨by decide, by decide⟩) hS (fun q _ h => hFc q h) hFc (fun u t H locs ht hvm hw hB hz1 hk1 hS => ?_)
  obtain ⟨hP, -, hD⟩ := hB
  rw [ht] at hP
  have hD := lx_dj hD hFc
  refine lv_aload_n hx hb d_Mo_makeHead_177 rfl (lv_at hl 1 rfl) ?_
  refine lv_iload hx hb d_Mo_makeHead_178 (lv_at hl 0 rfl) ?_
  refine lv_bipush (v := 60) hx hb d_Mo_makeHead_180 (by decide) ?_
  refine lv_iadd hx hb d_Mo_makeHead_182 ?_
  refine lv_iconst (v := 2) hx hb d_Mo_makeHead_183 (by decide) ?_
  refine lv_lconst (v := 1) hx hb d_Mo_makeHead_184 (by decide) ?_
  obtain ⟨S_13, hc_13, h⟩ := lf_bE h
  have hFc := lx_free hD hS hA
  refine va_callv (va_runV (As := [.int (x_1 + 60), .int 2, .long 1]) (rest := []) ⟨hx, hb, hml, hown, hts⟩ (l_Mo_lay l dC dI X _ hc_13) (cwV 3 hts (gwV good_Mq (u_Mq_Mo _ k_Mo_418) (u_Mq_Mo _ k_Mo_419) (u_Mq_Mo _ k_Mo_538) (u_Mq_Mo _ k_Mo_0) (wcs (u_Mq_Mo _ k_Mo_420) (fun _ h => h))) rfl rfl rfl (by decide +kernel) ⟨Nat.le_of_ble_eq_true rfl, Nat.le_of_ble_eq_true rfl⟩) (pv_ofE (X.same _) (fun U z1 z2 => X.mono _ _ U hFc (hEw _ _ hS U z1 z2)) hP hK hD (va_recv hK hP (ci := 12) (q0 := 0) rfl rfl)) rfl rfl hl.1 rfl (lv_room (Nat.le_of_ble_eq_true rfl)) d_Mo_makeHead_185 ⟨by decide, by decide⟩) hS (fun q _ h => hFc q h) hFc (fun u t H locs ht hvm hw hB hz1 hk1 hS => ?_)
  obtain ⟨hP, -, hD⟩ := hB
  rw [ht] at hP
  have hD := lx_dj hD hFc
  refine lv_aload_n hx hb d_Mo_makeHead_188 rfl (lv_at hl 1 rfl) ?_
  refine lv_iload hx hb d_Mo_makeHead_189 (lv_at hl 0 rfl) ?_
  refine lv_bipush (v := 76) hx hb d_Mo_makeHead_191 (by decide) ?_
  refine lv_iadd hx hb d_Mo_makeHead_193 ?_
  refine lv_iconst (v := 4) hx hb d_Mo_makeHead_194 (by decide) ?_
  refine lv_lconst (v := 1) hx hb d_Mo_makeHead_195 (by decide) ?_
  obtain ⟨S_14, hc_14, h⟩ := lf_bE h
  have hFc := lx_free hD hS hA
  refine va_callv (va_runV (As := [.int (x_1 + 76), .int 4, .long 1]) (rest := []) ⟨hx, hb, hml, hown, hts⟩ (l_Mo_lay l dC dI X _ hc_14) (cwV 3 hts (gwV good_Mq (u_Mq_Mo _ k_Mo_418) (u_Mq_Mo _ k_Mo_419) (u_Mq_Mo _ k_Mo_538) (u_Mq_Mo _ k_Mo_0) (wcs (u_Mq_Mo _ k_Mo_420) (fun _ h => h))) rfl rfl rfl (by decide +kernel) ⟨Nat.le_of_ble_eq_true rfl, Nat.le_of_ble_eq_true rfl⟩) (pv_ofE (X.same _) (fun U z1 z2 => X.mono _ _ U hFc (hEw _ _ hS U z1 z2)) hP hK hD (va_recv hK hP (ci := 12) (q0 := 0) rfl rfl)) rfl rfl hl.1 rfl (lv_room (Nat.le_of_ble_eq_true rfl)) d_Mo_makeHead_196 ⟨by decide, by decide⟩) hS (fun q _ h => hFc q h) hFc (fun u t H locs ht hvm hw hB hz1 hk1 hS => ?_)
  obtain ⟨hP, -, hD⟩ := hB
  rw [ht] at hP
  have hD := lx_dj hD hFc
  refine lv_aload_n hx hb d_Mo_makeHead_199 rfl (lv_at hl 1 rfl) ?_
  refine lv_iload hx hb d_Mo_makeHead_200 (lv_at hl 0 rfl) ?_
  refine lv_bipush (v := 84) hx hb d_Mo_makeHead_202 (by decide) ?_
  refine lv_iadd hx hb d_Mo_makeHead_204 ?_
  refine lv_iconst (v := 4) hx hb d_Mo_makeHead_205 (by decide) ?_
  refine lv_ldc2 (v := 11) hx hb hown (hts _ (u_Mq_Mo _ k_Mo_466)) d_Mo_makeHead_206 ?_
  obtain ⟨S_15, hc_15, h⟩ := lf_bE h
  have hFc := lx_free hD hS hA
  refine va_callv (va_runV (As := [.int (x_1 + 84), .int 4, .long 11]) (rest := []) ⟨hx, hb, hml, hown, hts⟩ (l_Mo_lay l dC dI X _ hc_15) (cwV 3 hts (gwV good_Mq (u_Mq_Mo _ k_Mo_418) (u_Mq_Mo _ k_Mo_419) (u_Mq_Mo _ k_Mo_538) (u_Mq_Mo _ k_Mo_0) (wcs (u_Mq_Mo _ k_Mo_420) (fun _ h => h))) rfl rfl rfl (by decide +kernel) ⟨Nat.le_of_ble_eq_true rfl, Nat.le_of_ble_eq_true rfl⟩) (pv_ofE (X.same _) (fun U z1 z2 => X.mono _ _ U hFc (hEw _ _ hS U z1 z2)) hP hK hD (va_recv hK hP (ci := 12) (q0 := 0) rfl rfl)) rfl rfl hl.1 rfl (lv_room (Nat.le_of_ble_eq_true rfl)) d_Mo_makeHead_209 ⟨by decide, by decide⟩) hS (fun q _ h => hFc q h) hFc (fun u t H locs ht hvm hw hB hz1 hk1 hS => ?_)
  obtain ⟨hP, -, hD⟩ := hB
  rw [ht] at hP
  have hD := lx_dj hD hFc
  refine lv_aload_n hx hb d_Mo_makeHead_212 rfl (lv_at hl 1 rfl) ?_
  refine lv_iload hx hb d_Mo_makeHead_213 (lv_at hl 0 rfl) ?_
  refine lv_bipush (v := 88) hx hb d_Mo_makeHead_215 (by decide) ?_
  refine lv_iadd hx hb d_Mo_makeHead_217 ?_
  refine lv_iconst (v := 2) hx hb d_Mo_makeHead_218 (by decide) ?_
  refine lv_ldc2 (v := 128) hx hb hown (hts _ (u_Mq_Mo _ k_Mo_467)) d_Mo_makeHead_219 ?_
  obtain ⟨S_16, hc_16, h⟩ := lf_bE h
  have hFc := lx_free hD hS hA
  refine va_callv (va_runV (As := [.int (x_1 + 88), .int 2, .long 128]) (rest := []) ⟨hx, hb, hml, hown, hts⟩ (l_Mo_lay l dC dI X _ hc_16) (cwV 3 hts (gwV good_Mq (u_Mq_Mo _ k_Mo_418) (u_Mq_Mo _ k_Mo_419) (u_Mq_Mo _ k_Mo_538) (u_Mq_Mo _ k_Mo_0) (wcs (u_Mq_Mo _ k_Mo_420) (fun _ h => h))) rfl rfl rfl (by decide +kernel) ⟨Nat.le_of_ble_eq_true rfl, Nat.le_of_ble_eq_true rfl⟩) (pv_ofE (X.same _) (fun U z1 z2 => X.mono _ _ U hFc (hEw _ _ hS U z1 z2)) hP hK hD (va_recv hK hP (ci := 12) (q0 := 0) rfl rfl)) rfl rfl hl.1 rfl (lv_room (Nat.le_of_ble_eq_true rfl)) d_Mo_makeHead_222 ⟨by decide, by decide⟩) hS (fun q _ h => hFc q h) hFc (fun u t H locs ht hvm hw hB hz1 hk1 hS => ?_)
  obtain ⟨hP, -, hD⟩ := hB
  rw [ht] at hP
  have hD := lx_dj hD hFc
  refine lv_aload_n hx hb d_Mo_makeHead_225 rfl (lv_at hl 1 rfl) ?_
  refine lv_iload hx hb d_Mo_makeHead_226 (lv_at hl 0 rfl) ?_
  refine lv_bipush (v := 90) hx hb d_Mo_makeHead_228 (by decide) ?_
  refine lv_iadd hx hb d_Mo_makeHead_230 ?_
  refine lv_iconst (v := 2) hx hb d_Mo_makeHead_231 (by decide) ?_
  refine lv_iload_n hx hb d_Mo_makeHead_232 rfl (lv_at hl 2 rfl) ?_
  refine lv_i2l hx hb d_Mo_makeHead_233 rfl ?_
  obtain ⟨S_17, hc_17, h⟩ := lf_bE h
  have hFc := lx_free hD hS hA
  refine va_callv (va_runV (As := [.int (x_1 + 90), .int 2, .long p0.toInt64]) (rest := []) ⟨hx, hb, hml, hown, hts⟩ (l_Mo_lay l dC dI X _ hc_17) (cwV 3 hts (gwV good_Mq (u_Mq_Mo _ k_Mo_418) (u_Mq_Mo _ k_Mo_419) (u_Mq_Mo _ k_Mo_538) (u_Mq_Mo _ k_Mo_0) (wcs (u_Mq_Mo _ k_Mo_420) (fun _ h => h))) rfl rfl rfl (by decide +kernel) ⟨Nat.le_of_ble_eq_true rfl, Nat.le_of_ble_eq_true rfl⟩) (pv_ofE (X.same _) (fun U z1 z2 => X.mono _ _ U hFc (hEw _ _ hS U z1 z2)) hP hK hD (va_recv hK hP (ci := 12) (q0 := 0) rfl rfl)) rfl rfl hl.1 rfl (lv_room (Nat.le_of_ble_eq_true rfl)) d_Mo_makeHead_234 ⟨by decide, by decide⟩) hS (fun q _ h => hFc q h) hFc (fun u t H locs ht hvm hw hB hz1 hk1 hS => ?_)
  obtain ⟨hP, -, hD⟩ := hB
  rw [ht] at hP
  have hD := lx_dj hD hFc
  refine lv_aload_n hx hb d_Mo_makeHead_237 rfl (lv_at hl 1 rfl) ?_
  refine lv_iload hx hb d_Mo_makeHead_238 (lv_at hl 0 rfl) ?_
  refine lv_bipush (v := 96) hx hb d_Mo_makeHead_240 (by decide) ?_
  refine lv_iadd hx hb d_Mo_makeHead_242 ?_
  refine lv_iconst (v := 4) hx hb d_Mo_makeHead_243 (by decide) ?_
  refine lv_ldc2 (v := 2) hx hb hown (hts _ (u_Mq_Mo _ k_Mo_224)) d_Mo_makeHead_244 ?_
  obtain ⟨S_18, hc_18, h⟩ := lf_bE h
  have hFc := lx_free hD hS hA
  refine va_callv (va_runV (As := [.int (x_1 + 96), .int 4, .long 2]) (rest := []) ⟨hx, hb, hml, hown, hts⟩ (l_Mo_lay l dC dI X _ hc_18) (cwV 3 hts (gwV good_Mq (u_Mq_Mo _ k_Mo_418) (u_Mq_Mo _ k_Mo_419) (u_Mq_Mo _ k_Mo_538) (u_Mq_Mo _ k_Mo_0) (wcs (u_Mq_Mo _ k_Mo_420) (fun _ h => h))) rfl rfl rfl (by decide +kernel) ⟨Nat.le_of_ble_eq_true rfl, Nat.le_of_ble_eq_true rfl⟩) (pv_ofE (X.same _) (fun U z1 z2 => X.mono _ _ U hFc (hEw _ _ hS U z1 z2)) hP hK hD (va_recv hK hP (ci := 12) (q0 := 0) rfl rfl)) rfl rfl hl.1 rfl (lv_room (Nat.le_of_ble_eq_true rfl)) d_Mo_makeHead_247 ⟨by decide, by decide⟩) hS (fun q _ h => hFc q h) hFc (fun u t H locs ht hvm hw hB hz1 hk1 hS => ?_)
  obtain ⟨hP, -, hD⟩ := hB
  rw [ht] at hP
  have hD := lx_dj hD hFc
  refine lv_aload_n hx hb d_Mo_makeHead_250 rfl (lv_at hl 1 rfl) ?_
  refine lv_iload hx hb d_Mo_makeHead_251 (lv_at hl 0 rfl) ?_
  refine lv_bipush (v := 104) hx hb d_Mo_makeHead_253 (by decide) ?_
  refine lv_iadd hx hb d_Mo_makeHead_255 ?_
  refine lv_iconst (v := 4) hx hb d_Mo_makeHead_256 (by decide) ?_
  refine lv_aload_n hx hb d_Mo_makeHead_257 rfl (lv_at hl 1 rfl) ?_
  refine lv_bipush (v := 67) hx hb d_Mo_makeHead_258 (by decide) ?_
  obtain ⟨r_19, S_19, hc_19, h⟩ := lf_cE h
  have hFc := lx_free hD hS hA
  refine va_calli (va_runV (As := [.int 67]) (rest := [.int 4, .int (x_1 + 104), .ref M.o]) ⟨hx, hb, hml, hown, hts⟩ (l_Mo_four l dC dI X _ hc_19) (cwV 1 hts (gwV good_Mq (u_Mq_Mo _ k_Mo_100) (u_Mq_Mo _ k_Mo_101) (u_Mq_Mo _ k_Mo_477) (u_Mq_Mo _ k_Mo_0) (wcs (u_Mq_Mo _ k_Mo_102) (fun _ h => h))) rfl rfl rfl (by decide +kernel) ⟨Nat.le_of_ble_eq_true rfl, Nat.le_of_ble_eq_true rfl⟩) (pv_ofE (X.same _) (fun U z1 z2 => X.mono _ _ U hFc (hEw _ _ hS U z1 z2)) hP hK hD (va_recv hK hP (ci := 12) (q0 := 0) rfl rfl)) rfl rfl hl.1 rfl (lv_room (Nat.le_of_ble_eq_true rfl)) d_Mo_makeHead_260 ⟨by decide, by decide⟩) hS (fun q _ h => hFc q h) hFc (fun r_ u t H locs ht hvm hw hB hz1 hk1 hS => ?_)
  rw [hw]
  obtain ⟨hP, -, hD⟩ := hB
  rw [ht] at hP
  have hD := lx_dj hD hFc
  refine lv_i2l hx hb d_Mo_makeHead_263 rfl ?_
  obtain ⟨S_20, hc_20, h⟩ := lf_bE h
  have hFc := lx_free hD hS hA
  refine va_callv (va_runV (As := [.int (x_1 + 104), .int 4, .long r_19.toInt64]) (rest := []) ⟨hx, hb, hml, hown, hts⟩ (l_Mo_lay l dC dI X _ hc_20) (cwV 3 hts (gwV good_Mq (u_Mq_Mo _ k_Mo_418) (u_Mq_Mo _ k_Mo_419) (u_Mq_Mo _ k_Mo_538) (u_Mq_Mo _ k_Mo_0) (wcs (u_Mq_Mo _ k_Mo_420) (fun _ h => h))) rfl rfl rfl (by decide +kernel) ⟨Nat.le_of_ble_eq_true rfl, Nat.le_of_ble_eq_true rfl⟩) (pv_ofE (X.same _) (fun U z1 z2 => X.mono _ _ U hFc (hEw _ _ hS U z1 z2)) hP hK hD (va_recv hK hP (ci := 12) (q0 := 0) rfl rfl)) rfl rfl hl.1 rfl (lv_room (Nat.le_of_ble_eq_true rfl)) d_Mo_makeHead_264 ⟨by decide, by decide⟩) hS (fun q _ h => hFc q h) hFc (fun u t H locs ht hvm hw hB hz1 hk1 hS => ?_)
  obtain ⟨hP, -, hD⟩ := hB
  rw [ht] at hP
  have hD := lx_dj hD hFc
  refine lv_aload_n hx hb d_Mo_makeHead_267 rfl (lv_at hl 1 rfl) ?_
  refine va_get (D := (dC, dI)) (ci := 12) (v := .int S_20.v_label) (C := R_Mo) (T := F_Mo) (N := 66) hx hb hts (fun w h => u_Mq_Mo w (i_Mo w h)) hown hK hP 0 rfl rfl 37 (by decide) (hts _ (u_Mq_Mo _ k_Mo_44)) (fun _ h9 => h9) rfl d_Mo_makeHead_268 ?_
  refine lv_if_ge (tgt := 278) hx hb d_Mo_makeHead_271 (by decide) (fun c_21 => ?_) (fun c_21 => ?_)
  · have h := lf_t h c_21
    refine lv_bipush (v := 11) hx hb d_Mo_makeHead_278 (by decide) ?_
    exact hB_280 x_1 11 S_20 _ _ _ h hP hD hS (lv_sub hl [1, 0] rfl)
  · have h := lf_f h c_21
    refine lv_iconst (v := 0) hx hb d_Mo_makeHead_274 (by decide) ?_
    refine lv_goto (tgt := 280) hx hb d_Mo_makeHead_275 (by decide) ?_
    exact hB_280 x_1 0 S_20 _ _ _ h hP hD hS (lv_sub hl [1, 0] rfl)
