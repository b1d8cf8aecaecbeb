set_option maxHeartbeats 4000000 in
set_option maxRecDepth 100000 in
theorem l_Mo_isFixed (l : Launch) (dC : Nat → ClassId) (dI : Nat → Nat → Nat) {K : Nat} {M : MA} {E : (Nat → Prop) → State → Prop} (X : lx_X l dC dI K M E) (sz : Nat) {S S' : MS} {p0 : Int32} {r : Int32} (h : f_Mo_isFixed K S p0 = some (r, S')) : Met l y_Mo_isFixed (.code y_Mo_isFixed b_Mo_isFixed 4 (some .boolean) :: V_Mq) ({ frames := 0, cells := 0, slots := 0, locals := 0 }) (va_Pc [.ref M.o, .int p0] (fun U => U.heap.size = sz ∧ at_ (dC, dI) (fun _ => True) (wM M S) (tM M) U ∧ E (va_A (wM M S) sz) U)) (va_Qi (fun (r_ : Int32) (u : Unit) => r_ = r) (fun (u : Unit) t => at_ (dC, dI) (va_A (wM M S) sz) (wM M S') (tM M) t) (va_A (wM M S) sz)) 0 0 (va_A (wM M S) sz) := by
  refine Met.ofW (cc := b_Mo_isFixed) (maxL := 4) (ret := (some .boolean)) (by decide) rfl ?_
  intro p e s m args below meth c s₁ B hml hv
  obtain ⟨rfl, hsz, ⟨hP, hK, hD0⟩, hE⟩ := hv
  have hx := B.exec
  have hb := B.bytes
  have hr := B.returns
  have hts0 := atoms_spec (ws := .code y_Mo_isFixed b_Mo_isFixed 4 (some .boolean) :: V_Mq) B.pre
  have hts : ∀ w ∈ V_Mq, w.before ([.ref M.o, .int p0] : List Value).toArray s = true := fun w h => hts0 w (List.mem_cons_of_mem _ h)
  have hown : s.vm.findClass R_Mo = some m.cls := findClass_of_methodNamed B.named
  subst hsz
  have hD := hD0.self (sz := s.heap.size)
  generalize hAe : va_A (wM M S) s.heap.size = A at hD hE ⊢
  have hA : ∀ q : Nat, s.heap.size ≤ q → A q := fun q h => by rw [← hAe]; exact Or.inr h
  have hS : va_S A s.heap s.heap [] := va_S.rf
  have hP : va_P (dC, dI) classes (wM M S) s.heap := hP
  have hK : va_K (dC, dI) classes (tM M) s := hK
  have hEw : ∀ (H : Heap) (locs : List Loc), va_S A s.heap H locs → ∀ U : State, U.heap = H → s.WarmedH U.vm → E A U := fun H locs hS U hU hW => X.kept A s U H locs hE hS hU hW
  have hl := lv_entry ([.ref M.o, .int p0]) (n := 4) (Nat.le_of_ble_eq_true rfl)
  rw [lg_entry_eq]
  generalize (lg_sl ([.ref M.o, .int p0]) ++ List.replicate (4 - (lg_sl ([.ref M.o, .int p0])).length) Slot.unset).toArray = ls at hl ⊢
  have hl : lv_has ls 4 [(0, .ref M.o), (1, .int p0)] := hl
  refine qabs (fun Q hQ => ?_)
  have hB_50 : ∀ (rec_4 : Int32 → Int32 → Int32 → MS → Option (Int32 × MS)) (hr_4 : ∀ (y_1 : Int32) (y_2 : Int32) (y_3 : Int32) (S : MS) (H : Heap) (locs : List Loc) (ls : Array Slot), rec_4 y_1 y_2 y_3 S = some (r, S') → va_P (dC, dI) classes (wM M S) H → va_D A (wM M S) → va_S A s.heap H locs → lv_has ls 4 [(0, .ref M.o), (1, .int y_1), (2, .int y_2), (3, .int y_3)] → W p l e ({ frames := 0, cells := 0, slots := 0, locals := 0 }) s m ([.ref M.o, .int p0] : List Value).toArray below meth c H locs 0 0 Q (F0 m 4 ls [])), ∀ (y_1 : Int32) (y_3 : Int32) (z_0 : Int32) (S : MS) (H : Heap) (locs : List Loc) (ls : Array Slot), f_Mo_isFixed_50 K rec_4 y_1 y_3 z_0 S = some (r, S') → va_P (dC, dI) classes (wM M S) H → va_D A (wM M S) → va_S A s.heap H locs → lv_has ls 4 [(0, .ref M.o), (1, .int y_1), (3, .int y_3)] → W p l e ({ frames := 0, cells := 0, slots := 0, locals := 0 }) s m ([.ref M.o, .int p0] : List Value).toArray below meth c H locs 0 0 Q (F0 m 50 ls [.int z_0]) := by
    intro rec_4 hr_4 y_1 y_3 z_0 S H locs ls h hP hD hS hl
    rw [f_Mo_isFixed_50] at h
    refine lv_istore_n (lv' := [(2, .int z_0), (0, .ref M.o), (1, .int y_1), (3, .int y_3)]) hx hb d_Mo_isFixed_50 rfl hl (by decide) rfl (fun ls hl => ?_)
    obtain ⟨x_6, ex_6, h⟩ := lf_lX h
    refine lv_iinc (v := x_6) (lv' := [(3, .int x_6), (2, .int z_0), (0, .ref M.o), (1, .int y_1)]) hx hb d_Mo_isFixed_51 hl (k := 3) rfl (by rw [ex_6]; rfl) (by decide) rfl (fun ls hl => ?_)
    refine lv_goto (tgt := 4) hx hb d_Mo_isFixed_54 (by decide) ?_
    exact hr_4 y_1 z_0 x_6 S _ _ _ h hP hD hS (lv_sub hl [2, 3, 1, 0] rfl)
  have hB_45 : ∀ (rec_4 : Int32 → Int32 → Int32 → MS → Option (Int32 × MS)) (hr_4 : ∀ (y_1 : Int32) (y_2 : Int32) (y_3 : Int32) (S : MS) (H : Heap) (locs : List Loc) (ls : Array Slot), rec_4 y_1 y_2 y_3 S = some (r, S') → va_P (dC, dI) classes (wM M S) H → va_D A (wM M S) → va_S A s.heap H locs → lv_has ls 4 [(0, .ref M.o), (1, .int y_1), (2, .int y_2), (3, .int y_3)] → W p l e ({ frames := 0, cells := 0, slots := 0, locals := 0 }) s m ([.ref M.o, .int p0] : List Value).toArray below meth c H locs 0 0 Q (F0 m 4 ls [])), ∀ (y_1 : Int32) (y_3 : Int32) (S : MS) (H : Heap) (locs : List Loc) (ls : Array Slot), f_Mo_isFixed_45 K rec_4 y_1 y_3 S = some (r, S') → va_P (dC, dI) classes (wM M S) H → va_D A (wM M S) → va_S A s.heap H locs → lv_has ls 4 [(0, .ref M.o), (1, .int y_1), (3, .int y_3)] → W p l e ({ frames := 0, cells := 0, slots := 0, locals := 0 }) s m ([.ref M.o, .int p0] : List Value).toArray below meth c H locs 0 0 Q (F0 m 45 ls []) := by
    intro rec_4 hr_4 y_1 y_3 S H locs ls h hP hD hS hl
    rw [f_Mo_isFixed_45] at h
    refine lv_iconst (v := 1) hx hb d_Mo_isFixed_45 (by decide) ?_
    refine lv_goto (tgt := 50) hx hb d_Mo_isFixed_46 (by decide) ?_
    exact hB_50 _ hr_4 y_1 y_3 1 S _ _ _ h hP hD hS (lv_sub hl [0, 1, 2] rfl)
  have hB_4 : ∀ (k : Nat), ∀ (y_1 : Int32) (y_2 : Int32) (y_3 : Int32) (S : MS) (H : Heap) (locs : List Loc) (ls : Array Slot), f_Mo_isFixed_4 K k y_1 y_2 y_3 S = some (r, S') → va_P (dC, dI) classes (wM M S) H → va_D A (wM M S) → va_S A s.heap H locs → lv_has ls 4 [(0, .ref M.o), (1, .int y_1), (2, .int y_2), (3, .int y_3)] → W p l e ({ frames := 0, cells := 0, slots := 0, locals := 0 }) s m ([.ref M.o, .int p0] : List Value).toArray below meth c H locs 0 0 Q (F0 m 4 ls []) := by
    intro k
    induction k with
    | zero => intro y_1 y_2 y_3 S H locs ls h; exact lf_no h
    | succ k hr_4 =>
      intro y_1 y_2 y_3 S H locs ls h hP hD hS hl
      rw [f_Mo_isFixed_4] at h
      refine lv_iload_n hx hb d_Mo_isFixed_4 rfl (lv_at hl 3 rfl) ?_
      refine lv_aload_n hx hb d_Mo_isFixed_5 rfl (lv_at hl 0 rfl) ?_
      refine va_get (D := (dC, dI)) (ci := 12) (v := .int S.v_c) (C := R_Mo) (T := F_Mo) (N := 66) hx hb hts (fun w h => u_Mq_Mo w (i_Mo w h)) hown hK hP 0 rfl rfl 11 (by decide) (hts _ (u_Mq_Mo _ k_Mo_18)) (fun _ h9 => h9) rfl d_Mo_isFixed_6 ?_
      refine lv_iconst (v := 2) hx hb d_Mo_isFixed_9 (by decide) ?_
      refine lv_idiv hx hb d_Mo_isFixed_10 (by decide) ?_
      refine lv_icmp_ge (tgt := 57) hx hb d_Mo_isFixed_11 (by decide) (fun c_1 => ?_) (fun c_1 => ?_)
      · have h := lf_t h c_1
        refine lv_iload_n hx hb d_Mo_isFixed_57 rfl (lv_at hl 2 rfl) ?_
        obtain ⟨g_2, h⟩ := lf_gE h
        rw [hQ]
        have e1 : y_2 = r := congrArg Prod.fst (Option.some.inj h)
        have e2 : S = S' := congrArg Prod.snd (Option.some.inj h)
        have hP := lx_newP e2.symm hP
        have hD := lx_newD e2.symm hD
        exact W.zret (v := y_2) hx hb hr (lf_nz g_2) (fun t ht hW => ⟨⟨y_2, (), rfl, e1, by rw [ht]; exact hP, va_K.moved hW.alike hK, hD⟩, hS.F ht⟩) hS.2.2 d_Mo_isFixed_58
      · have h := lf_f h c_1
        refine lv_iload_n hx hb d_Mo_isFixed_14 rfl (lv_at hl 2 rfl) ?_
        refine lv_if_ne (tgt := 45) hx hb d_Mo_isFixed_15 (by decide) (fun c_3 => ?_) (fun c_3 => ?_)
        · have h := lf_f h c_3
          exact hB_45 _ hr_4 y_1 y_3 S _ _ _ h hP hD hS (lv_sub hl [0, 1, 3] rfl)
        · have h := lf_t h c_3
          refine lv_aload_n hx hb d_Mo_isFixed_18 rfl (lv_at hl 0 rfl) ?_
          refine va_get (D := (dC, dI)) (ci := 12) (v := .ref M.a_fixed) (C := R_Mo) (T := F_Mo) (N := 66) hx hb hts (fun w h => u_Mq_Mo w (i_Mo w h)) hown hK hP 0 rfl rfl 51 (by decide) (hts _ (u_Mq_Mo _ k_Mo_58)) (fun _ h9 => h9) rfl d_Mo_isFixed_19 ?_
          refine lv_aload_n hx hb d_Mo_isFixed_22 rfl (lv_at hl 0 rfl) ?_
          refine va_get (D := (dC, dI)) (ci := 12) (v := .int S.v_a) (C := R_Mo) (T := F_Mo) (N := 66) hx hb hts (fun w h => u_Mq_Mo w (i_Mo w h)) hown hK hP 0 rfl rfl 16 (by decide) (hts _ (u_Mq_Mo _ k_Mo_23)) (fun _ h9 => h9) rfl d_Mo_isFixed_23 ?_
          refine lv_iconst (v := 2) hx hb d_Mo_isFixed_26 (by decide) ?_
          refine lv_idiv hx hb d_Mo_isFixed_27 (by decide) ?_
          refine lv_iload_n hx hb d_Mo_isFixed_28 rfl (lv_at hl 1 rfl) ?_
          refine lv_iconst (v := 2) hx hb d_Mo_isFixed_29 (by decide) ?_
          refine lv_isub hx hb d_Mo_isFixed_30 ?_
          refine lv_aload_n hx hb d_Mo_isFixed_31 rfl (lv_at hl 0 rfl) ?_
          refine va_get (D := (dC, dI)) (ci := 12) (v := .int S.v_c) (C := R_Mo) (T := F_Mo) (N := 66) hx hb hts (fun w h => u_Mq_Mo w (i_Mo w h)) hown hK hP 0 rfl rfl 11 (by decide) (hts _ (u_Mq_Mo _ k_Mo_18)) (fun _ h9 => h9) rfl d_Mo_isFixed_32 ?_
          refine lv_iconst (v := 2) hx hb d_Mo_isFixed_35 (by decide) ?_
          refine lv_idiv hx hb d_Mo_isFixed_36 (by decide) ?_
          refine lv_imul hx hb d_Mo_isFixed_37 ?_
          refine lv_iadd hx hb d_Mo_isFixed_38 ?_
          refine lv_iload_n hx hb d_Mo_isFixed_39 rfl (lv_at hl 3 rfl) ?_
          refine lv_iadd hx hb d_Mo_isFixed_40 ?_
          obtain ⟨g_4, h⟩ := lf_gE h
          refine va_zald hx hb hK hP 21 20 rfl rfl g_4 d_Mo_isFixed_41 ?_
          refine lv_if_eq (tgt := 49) hx hb d_Mo_isFixed_42 (by decide) (fun c_5 => ?_) (fun c_5 => ?_)
          · have h := lf_t h c_5
            refine lv_iconst (v := 0) hx hb d_Mo_isFixed_49 (by decide) ?_
            exact hB_50 _ hr_4 y_1 y_3 0 S _ _ _ h hP hD hS (lv_sub hl [0, 1, 3] rfl)
          · have h := lf_f h c_5
            exact hB_45 _ hr_4 y_1 y_3 S _ _ _ h hP hD hS (lv_sub hl [0, 1, 3] rfl)
  rw [f_Mo_isFixed] at h
  refine lv_iconst (v := 0) hx hb d_Mo_isFixed_0 (by decide) ?_
  refine lv_istore_n (lv' := [(2, .int 0), (0, .ref M.o), (1, .int p0)]) hx hb d_Mo_isFixed_1 rfl hl (by decide) rfl (fun ls hl => ?_)
  refine lv_iconst (v := 0) hx hb d_Mo_isFixed_2 (by decide) ?_
  refine lv_istore_n (lv' := [(3, .int 0), (2, .int 0), (0, .ref M.o), (1, .int p0)]) hx hb d_Mo_isFixed_3 rfl hl (by decide) rfl (fun ls hl => ?_)
  exact hB_4 K p0 0 0 S _ _ _ h hP hD hS (lv_sub hl [2, 3, 1, 0] rfl)
set_option maxHeartbeats 4000000 in
set_option maxRecDepth 100000 in
theorem l_Mo_badNames (l : Launch) (dC : Nat → ClassId) (dI : Nat → Nat → Nat) {K : Nat} {M : MA} {E : (Nat → Prop) → State → Prop} (X : lx_X l dC dI K M E) (sz : Nat) {S S' : MS} {r : Int32} (h : f_Mo_badNames K S = some (r, S')) : Met l y_Mo_badNames (.code y_Mo_badNames b_Mo_badNames 3 (some .boolean) :: V_Mq) ({ frames := 7, cells := 0, slots := 0, locals := 221 }) (va_Pc [.ref M.o] (fun U => U.heap.size = sz ∧ at_ (dC, dI) (fun _ => True) (wM M S) (tM M) U ∧ E (va_A (wM M S) sz) U)) (va_Qi (fun (r_ : Int32) (u : Unit) => r_ = r) (fun (u : Unit) t => at_ (dC, dI) (va_A (wM M S) sz) (wM M S') (tM M) t) (va_A (wM M S) sz)) 0 0 (va_A (wM M S) sz) := by
  refine Met.ofW (cc := b_Mo_badNames) (maxL := 3) (ret := (some .boolean)) (by decide) rfl ?_
  intro p e s m args below meth c s₁ B hml hv
  obtain ⟨rfl, hsz, ⟨hP, hK, hD0⟩, hE⟩ := hv
  have hx := B.exec
  have hb := B.bytes
  have hr := B.returns
  have hts0 := atoms_spec (ws := .code y_Mo_badNames b_Mo_badNames 3 (some .boolean) :: V_Mq) B.pre
  have hts : ∀ w ∈ V_Mq, w.before ([.ref M.o] : List Value).toArray s = true := fun w h => hts0 w (List.mem_cons_of_mem _ h)
  have hown : s.vm.findClass R_Mo = some m.cls := findClass_of_methodNamed B.named
  subst hsz
  have hD := hD0.self (sz := s.heap.size)
  generalize hAe : va_A (wM M S) s.heap.size = A at hD hE ⊢
  have hA : ∀ q : Nat, s.heap.size ≤ q → A q := fun q h => by rw [← hAe]; exact Or.inr h
  have hS : va_S A s.heap s.heap [] := va_S.rf
  have hP : va_P (dC, dI) classes (wM M S) s.heap := hP
  have hK : va_K (dC, dI) classes (tM M) s := hK
  have hEw : ∀ (H : Heap) (locs : List Loc), va_S A s.heap H locs → ∀ U : State, U.heap = H → s.WarmedH U.vm → E A U := fun H locs hS U hU hW => X.kept A s U H locs hE hS hU hW
  have hl := lv_entry ([.ref M.o]) (n := 3) (Nat.le_of_ble_eq_true rfl)
  rw [lg_entry_eq]
  generalize (lg_sl ([.ref M.o]) ++ List.replicate (3 - (lg_sl ([.ref M.o])).length) Slot.unset).toArray = ls at hl ⊢
  have hl : lv_has ls 3 [(0, .ref M.o)] := hl
  refine qabs (fun Q hQ => ?_)
  have hB_32 : ∀ (rec_4 : Int32 → Int32 → MS → Option (Int32 × MS)) (hr_4 : ∀ (y_1 : Int32) (y_2 : Int32) (S : MS) (H : Heap) (locs : List Loc) (ls : Array Slot), rec_4 y_1 y_2 S = some (r, S') → va_P (dC, dI) classes (wM M S) H → va_D A (wM M S) → va_S A s.heap H locs → lv_has ls 3 [(0, .ref M.o), (1, .int y_1), (2, .int y_2)] → W p l e ({ frames := 7, cells := 0, slots := 0, locals := 221 }) s m ([.ref M.o] : List Value).toArray below meth c H locs 0 0 Q (F0 m 4 ls [])), ∀ (y_2 : Int32) (z_0 : Int32) (S : MS) (H : Heap) (locs : List Loc) (ls : Array Slot), f_Mo_badNames_32 K rec_4 y_2 z_0 S = some (r, S') → va_P (dC, dI) classes (wM M S) H → va_D A (wM M S) → va_S A s.heap H locs → lv_has ls 3 [(0, .ref M.o), (2, .int y_2)] → W p l e ({ frames := 7, cells := 0, slots := 0, locals := 221 }) s m ([.ref M.o] : List Value).toArray below meth c H locs 0 0 Q (F0 m 32 ls [.int z_0]) := by
    intro rec_4 hr_4 y_2 z_0 S H locs ls h hP hD hS hl
    rw [f_Mo_badNames_32] at h
    refine lv_istore_n (lv' := [(1, .int z_0), (0, .ref M.o), (2, .int y_2)]) hx hb d_Mo_badNames_32 rfl hl (by decide) rfl (fun ls hl => ?_)
    obtain ⟨x_14, ex_14, h⟩ := lf_lX h
    refine lv_iinc (v := x_14) (lv' := [(2, .int x_14), (1, .int z_0), (0, .ref M.o)]) hx hb d_Mo_badNames_33 hl (k := 2) rfl (by rw [ex_14]; rfl) (by decide) rfl (fun ls hl => ?_)
    refine lv_goto (tgt := 4) hx hb d_Mo_badNames_36 (by decide) ?_
    exact hr_4 z_0 x_14 S _ _ _ h hP hD hS (lv_sub hl [2, 1, 0] rfl)
  have hB_27 : ∀ (rec_4 : Int32 → Int32 → MS → Option (Int32 × MS)) (hr_4 : ∀ (y_1 : Int32) (y_2 : Int32) (S : MS) (H : Heap) (locs : List Loc) (ls : Array Slot), rec_4 y_1 y_2 S = some (r, S') → va_P (dC, dI) classes (wM M S) H → va_D A (wM M S) → va_S A s.heap H locs → lv_has ls 3 [(0, .ref M.o), (1, .int y_1), (2, .int y_2)] → W p l e ({ frames := 7, cells := 0, slots := 0, locals := 221 }) s m ([.ref M.o] : List Value).toArray below meth c H locs 0 0 Q (F0 m 4 ls [])), ∀ (y_2 : Int32) (S : MS) (H : Heap) (locs : List Loc) (ls : Array Slot), f_Mo_badNames_27 K rec_4 y_2 S = some (r, S') → va_P (dC, dI) classes (wM M S) H → va_D A (wM M S) → va_S A s.heap H locs → lv_has ls 3 [(0, .ref M.o), (2, .int y_2)] → W p l e ({ frames := 7, cells := 0, slots := 0, locals := 221 }) s m ([.ref M.o] : List Value).toArray below meth c H locs 0 0 Q (F0 m 27 ls []) := by
    intro rec_4 hr_4 y_2 S H locs ls h hP hD hS hl
    rw [f_Mo_badNames_27] at h
    refine lv_iconst (v := 1) hx hb d_Mo_badNames_27 (by decide) ?_
    refine lv_goto (tgt := 32) hx hb d_Mo_badNames_28 (by decide) ?_
    exact hB_32 _ hr_4 y_2 1 S _ _ _ h hP hD hS (lv_sub hl [0, 1] rfl)
  have hB_84 : ∀ (S : MS) (H : Heap) (locs : List Loc) (ls : Array Slot), f_Mo_badNames_84 K S = some (r, S') → va_P (dC, dI) classes (wM M S) H → va_D A (wM M S) → va_S A s.heap H locs → lv_has ls 3 [] → W p l e ({ frames := 7, cells := 0, slots := 0, locals := 221 }) s m ([.ref M.o] : List Value).toArray below meth c H locs 0 0 Q (F0 m 84 ls []) := by
    intro S H locs ls h hP hD hS hl
    rw [f_Mo_badNames_84] at h
    refine lv_iconst (v := 1) hx hb d_Mo_badNames_84 (by decide) ?_
    refine lv_goto (tgt := 89) hx hb d_Mo_badNames_85 (by decide) ?_
    rw [hQ]
    have e1 : (1 : Int32) = r := congrArg Prod.fst (Option.some.inj h)
    have e2 : S = S' := congrArg Prod.snd (Option.some.inj h)
    have hP := lx_newP e2.symm hP
    have hD := lx_newD e2.symm hD
    exact W.zret (v := 1) hx hb hr rfl (fun t ht hW => ⟨⟨1, (), rfl, e1, by rw [ht]; exact hP, va_K.moved hW.alike hK, hD⟩, hS.F ht⟩) hS.2.2 d_Mo_badNames_89
  have hB_47 : ∀ (k : Nat), ∀ (y_1 : Int32) (y_2 : Int32) (S : MS) (H : Heap) (locs : List Loc) (ls : Array Slot), f_Mo_badNames_47 K k y_1 y_2 S = some (r, S') → va_P (dC, dI) classes (wM M S) H → va_D A (wM M S) → va_S A s.heap H locs → lv_has ls 3 [(0, .ref M.o), (1, .int y_1), (2, .int y_2)] → W p l e ({ frames := 7, cells := 0, slots := 0, locals := 221 }) s m ([.ref M.o] : List Value).toArray below meth c H locs 0 0 Q (F0 m 47 ls []) := by
    intro k
    induction k with
    | zero => intro y_1 y_2 S H locs ls h; exact lf_no h
    | succ k hr_47 =>
      intro y_1 y_2 S H locs ls h hP hD hS hl
      rw [f_Mo_badNames_47] at h
      refine lv_iload_n hx hb d_Mo_badNames_47 rfl (lv_at hl 2 rfl) ?_
      refine lv_bipush (v := 7) hx hb d_Mo_badNames_48 (by decide) ?_
      refine lv_icmp_ge (tgt := 72) hx hb d_Mo_badNames_50 (by decide) (fun c_6 => ?_) (fun c_6 => ?_)
      · have h := lf_t h c_6
        refine lv_iload_n hx hb d_Mo_badNames_72 rfl (lv_at hl 1 rfl) ?_
        refine lv_if_ne (tgt := 84) hx hb d_Mo_badNames_73 (by decide) (fun c_7 => ?_) (fun c_7 => ?_)
        · have h := lf_f h c_7
          exact hB_84 S _ _ _ h hP hD hS (lv_sub hl [] rfl)
        · have h := lf_t h c_7
          refine lv_aload_n hx hb d_Mo_badNames_76 rfl (lv_at hl 0 rfl) ?_
          refine lv_iconst (v := 0) hx hb d_Mo_badNames_77 (by decide) ?_
          obtain ⟨r_8, S_8, hc_8, h⟩ := lf_cE h
          have hFc := lx_free hD hS hA
          refine va_calli (va_runV (As := [.int 0]) (rest := []) ⟨hx, hb, hml, hown, hts⟩ (l_Mo_isTaken l dC dI X _ hc_8) (cwV 1 hts (gwV good_Mq (u_Mq_Mo _ k_Mo_190) (u_Mq_Mo _ k_Mo_191) (u_Mq_Mo _ k_Mo_504) (u_Mq_Mo _ k_Mo_0) (wcs (u_Mq_Mo _ k_Mo_192) (fun _ h => h))) rfl rfl rfl (by decide +kernel) ⟨Nat.le_of_ble_eq_true rfl, Nat.le_of_ble_eq_true rfl⟩) (pv_ofE (X.same _) (fun U z1 z2 => X.mono _ _ U hFc (hEw _ _ hS U z1 z2)) hP hK hD (va_recv hK hP (ci := 12) (q0 := 0) rfl rfl)) rfl rfl hl.1 rfl (lv_room (Nat.le_of_ble_eq_true rfl)) d_Mo_badNames_78 ⟨by decide, by decide⟩) hS (fun q _ h => hFc q h) hFc (fun r_ u t H locs ht hvm hw hB hz1 hk1 hS => ?_)
          rw [hw]
          obtain ⟨hP, -, hD⟩ := hB
          rw [ht] at hP
          have hD := lx_dj hD hFc
          refine lv_if_eq (tgt := 88) hx hb d_Mo_badNames_81 (by decide) (fun c_9 => ?_) (fun c_9 => ?_)
          · have h := lf_t h c_9
            refine lv_iconst (v := 0) hx hb d_Mo_badNames_88 (by decide) ?_
            rw [hQ]
            have e1 : (0 : Int32) = r := congrArg Prod.fst (Option.some.inj h)
            have e2 : S_8 = S' := congrArg Prod.snd (Option.some.inj h)
            have hP := lx_newP e2.symm hP
            have hD := lx_newD e2.symm hD
            exact W.zret (v := 0) hx hb hr rfl (fun t ht hW => ⟨⟨0, (), rfl, e1, by rw [ht]; exact hP, va_K.moved hW.alike hK, hD⟩, hS.F ht⟩) hS.2.2 d_Mo_badNames_89
          · have h := lf_f h c_9
            exact hB_84 S_8 _ _ _ h hP hD hS (lv_sub hl [] rfl)
      · have h := lf_f h c_6
        refine lv_aload_n hx hb d_Mo_badNames_53 rfl (lv_at hl 0 rfl) ?_
        refine va_get (D := (dC, dI)) (ci := 12) (v := .ref M.a_name) (C := R_Mo) (T := F_Mo) (N := 66) hx hb hts (fun w h => u_Mq_Mo w (i_Mo w h)) hown hK hP 0 rfl rfl 38 (by decide) (hts _ (u_Mq_Mo _ k_Mo_45)) (fun _ h9 => h9) rfl d_Mo_badNames_54 ?_
        refine lv_iload_n hx hb d_Mo_badNames_57 rfl (lv_at hl 2 rfl) ?_
        refine x_ldcW hx hb hown (X.str_358 A s hE) d_Mo_badNames_58 ?_
        refine lv_iload_n hx hb d_Mo_badNames_61 rfl (lv_at hl 2 rfl) ?_
        obtain ⟨x_10, hc_x_10, h⟩ := lf_bE h
        have hFc := lx_free0 hS hA
        refine va_calli (va_runV (As := [.int y_2]) (rest := [.int y_2, .ref M.a_name]) ⟨hx, hb, hml, hown, hts⟩ (X.charAt_358 _ hc_x_10) (cwV 1 hts (gwV good_Mq (u_Mq_Mo _ k_Mo_261) (k_Mq_15) (k_Mq_16) (k_Mq_4) (wcs (k_Mq_17) (fun _ h => h))) rfl rfl rfl (by decide +kernel) ⟨Nat.le_of_ble_eq_true rfl, Nat.le_of_ble_eq_true rfl⟩) (pv_ofE (W := []) (tys := []) (X.same _) (fun U z1 z2 => X.mono _ _ U hFc (hEw _ _ hS U z1 z2)) (hP.sub (ws' := []) [] rfl) (hK.sub [] rfl) (hD.sub (ws' := []) [] (by decide) rfl) (X.recv_358 _ (lx_s s _) (hEw _ _ hS (lx_s s _) rfl (State.WarmedH.refl s)))) rfl rfl hl.1 rfl (lv_room (Nat.le_of_ble_eq_true rfl)) d_Mo_badNames_62 ⟨by decide, by decide⟩) hS (fun q _ h => hFc q h) hFc (fun r_ u t H locs ht hvm hw hB hz1 hk1 hS => ?_)
        rw [hw]
        have hP := lx_stat (A := A) hP hk1
        obtain ⟨g_11, h⟩ := lf_gE h
        refine va_cast hx hb hK hP hD hS 17 16 rfl rfl g_11 d_Mo_badNames_65 (fun H locs hP hD hS => ?_)
        obtain ⟨S_12, eS_12, h⟩ := lf_lX h
        have hP := lx_newP eS_12 hP
        have hD := lx_newD eS_12 hD
        obtain ⟨x_13, ex_13, h⟩ := lf_lX h
        refine lv_iinc (v := x_13) (lv' := [(2, .int x_13), (0, .ref M.o), (1, .int y_1)]) hx hb d_Mo_badNames_66 hl (k := 2) rfl (by rw [ex_13]; rfl) (by decide) rfl (fun ls hl => ?_)
        refine lv_goto (tgt := 47) hx hb d_Mo_badNames_69 (by decide) ?_
        exact hr_47 y_1 x_13 S_12 _ _ _ h hP hD hS (lv_sub hl [1, 2, 0] rfl)
  have hB_4 : ∀ (k : Nat), ∀ (y_1 : Int32) (y_2 : Int32) (S : MS) (H : Heap) (locs : List Loc) (ls : Array Slot), f_Mo_badNames_4 K k y_1 y_2 S = some (r, S') → va_P (dC, dI) classes (wM M S) H → va_D A (wM M S) → va_S A s.heap H locs → lv_has ls 3 [(0, .ref M.o), (1, .int y_1), (2, .int y_2)] → W p l e ({ frames := 7, cells := 0, slots := 0, locals := 221 }) s m ([.ref M.o] : List Value).toArray below meth c H locs 0 0 Q (F0 m 4 ls []) := by
    intro k
    induction k with
    | zero => intro y_1 y_2 S H locs ls h; exact lf_no h
    | succ k hr_4 =>
      intro y_1 y_2 S H locs ls h hP hD hS hl
      rw [f_Mo_badNames_4] at h
      refine lv_iload_n hx hb d_Mo_badNames_4 rfl (lv_at hl 2 rfl) ?_
      refine lv_aload_n hx hb d_Mo_badNames_5 rfl (lv_at hl 0 rfl) ?_
      refine va_get (D := (dC, dI)) (ci := 12) (v := .int S.v_items) (C := R_Mo) (T := F_Mo) (N := 66) hx hb hts (fun w h => u_Mq_Mo w (i_Mo w h)) hown hK hP 0 rfl rfl 21 (by decide) (hts _ (u_Mq_Mo _ k_Mo_28)) (fun _ h9 => h9) rfl d_Mo_badNames_6 ?_
      refine lv_icmp_ge (tgt := 39) hx hb d_Mo_badNames_9 (by decide) (fun c_1 => ?_) (fun c_1 => ?_)
      · have h := lf_t h c_1
        refine lv_aload_n hx hb d_Mo_badNames_39 rfl (lv_at hl 0 rfl) ?_
        refine lv_bipush (v := 7) hx hb d_Mo_badNames_40 (by decide) ?_
        refine va_put (D := (dC, dI)) (ci := 12) (v := .int 7) (ty := .int) (C := R_Mo) (T := F_Mo) (N := 66) hx hb hts (fun w h => u_Mq_Mo w (i_Mo w h)) t_Mo t_Mo_ok n_Mo hown hK hP hD hS 0 rfl rfl 39 (by decide) (hts _ (u_Mq_Mo _ k_Mo_46)) (fun _ h9 => h9) rfl (by decide +kernel) rfl rfl (Nat.le_of_ble_eq_true rfl) d_Mo_badNames_42 (fun H locs hP hD hS => ?_)
        obtain ⟨S_2, eS_2, h⟩ := lf_lX h
        have hP := lx_newP eS_2 hP
        have hD := lx_newD eS_2 hD
        refine lv_iconst (v := 0) hx hb d_Mo_badNames_45 (by decide) ?_
        refine lv_istore_n (lv' := [(2, .int 0), (0, .ref M.o), (1, .int y_1)]) hx hb d_Mo_badNames_46 rfl hl (by decide) rfl (fun ls hl => ?_)
        exact hB_47 K y_1 0 S_2 _ _ _ h hP hD hS (lv_sub hl [1, 2, 0] rfl)
      · have h := lf_f h c_1
        refine lv_iload_n hx hb d_Mo_badNames_12 rfl (lv_at hl 1 rfl) ?_
        refine lv_if_ne (tgt := 27) hx hb d_Mo_badNames_13 (by decide) (fun c_3 => ?_) (fun c_3 => ?_)
        · have h := lf_f h c_3
          exact hB_27 _ hr_4 y_2 S _ _ _ h hP hD hS (lv_sub hl [0, 2] rfl)
        · have h := lf_t h c_3
          refine lv_aload_n hx hb d_Mo_badNames_16 rfl (lv_at hl 0 rfl) ?_
          refine lv_iload_n hx hb d_Mo_badNames_17 rfl (lv_at hl 2 rfl) ?_
          obtain ⟨r_4, S_4, hc_4, h⟩ := lf_cE h
          have hFc := lx_free hD hS hA
          refine va_calli (va_runV (As := [.int y_2]) (rest := []) ⟨hx, hb, hml, hown, hts⟩ (l_Mo_textSize l dC dI X _ hc_4) (cwV 1 hts (gwV good_Mq (u_Mq_Mo _ k_Mo_292) (u_Mq_Mo _ k_Mo_293) (u_Mq_Mo _ k_Mo_512) (u_Mq_Mo _ k_Mo_0) (wcs (u_Mq_Mo _ k_Mo_294) (fun _ h => h))) rfl rfl rfl (by decide +kernel) ⟨Nat.le_of_ble_eq_true rfl, Nat.le_of_ble_eq_true rfl⟩) (pv_ofE (X.same _) (fun U z1 z2 => X.mono _ _ U hFc (hEw _ _ hS U z1 z2)) hP hK hD (va_recv hK hP (ci := 12) (q0 := 0) rfl rfl)) rfl rfl hl.1 rfl (lv_room (Nat.le_of_ble_eq_true rfl)) d_Mo_badNames_18 ⟨by decide, by decide⟩) hS (fun q _ h => hFc q h) hFc (fun r_ u t H locs ht hvm hw hB hz1 hk1 hS => ?_)
          rw [hw]
          obtain ⟨hP, -, hD⟩ := hB
          rw [ht] at hP
          have hD := lx_dj hD hFc
          refine lv_sipush (v := 255) hx hb d_Mo_badNames_21 (by decide) ?_
          refine lv_icmp_le (tgt := 31) hx hb d_Mo_badNames_24 (by decide) (fun c_5 => ?_) (fun c_5 => ?_)
          · have h := lf_t h c_5
            refine lv_iconst (v := 0) hx hb d_Mo_badNames_31 (by decide) ?_
            exact hB_32 _ hr_4 y_2 0 S_4 _ _ _ h hP hD hS (lv_sub hl [0, 2] rfl)
          · have h := lf_f h c_5
            exact hB_27 _ hr_4 y_2 S_4 _ _ _ h hP hD hS (lv_sub hl [0, 2] rfl)
  rw [f_Mo_badNames] at h
  refine lv_iconst (v := 0) hx hb d_Mo_badNames_0 (by decide) ?_
  refine lv_istore_n (lv' := [(1, .int 0), (0, .ref M.o)]) hx hb d_Mo_badNames_1 rfl hl (by decide) rfl (fun ls hl => ?_)
  refine lv_iconst (v := 1) hx hb d_Mo_badNames_2 (by decide) ?_
  refine lv_istore_n (lv' := [(2, .int 1), (1, .int 0), (0, .ref M.o)]) hx hb d_Mo_badNames_3 rfl hl (by decide) rfl (fun ls hl => ?_)
  exact hB_4 K 0 1 S _ _ _ h hP hD hS (lv_sub hl [2, 1, 0] rfl)
set_option maxHeartbeats 4000000 in
set_option maxRecDepth 100000 in
theorem l_Mo_badTimes (l : Launch) (dC : Nat → ClassId) (dI : Nat → Nat → Nat) {K : Nat} {M : MA} {E : (Nat → Prop) → State → Prop} (X : lx_X l dC dI K M E) (sz : Nat) {S S' : MS} {r : Int32} (h : f_Mo_badTimes K S = some (r, S')) : Met l y_Mo_badTimes (.code y_Mo_badTimes b_Mo_badTimes 4 (some .boolean) :: V_Mq) ({ frames := 4, cells := 0, slots := 0, locals := 90 }) (va_Pc [.ref M.o] (fun U => U.heap.size = sz ∧ at_ (dC, dI) (fun _ => True) (wM M S) (tM M) U ∧ E (va_A (wM M S) sz) U)) (va_Qi (fun (r_ : Int32) (u : Unit) => r_ = r) (fun (u : Unit) t => at_ (dC, dI) (va_A (wM M S) sz) (wM M S') (tM M) t) (va_A (wM M S) sz)) 0 0 (va_A (wM M S) sz) := by
  refine Met.ofW (cc := b_Mo_badTimes) (maxL := 4) (ret := (some .boolean)) (by decide) rfl ?_
  intro p e s m args below meth c s₁ B hml hv
  obtain ⟨rfl, hsz, ⟨hP, hK, hD0⟩, hE⟩ := hv
  have hx := B.exec
  have hb := B.bytes
  have hr := B.returns
  have hts0 := atoms_spec (ws := .code y_Mo_badTimes b_Mo_badTimes 4 (some .boolean) :: V_Mq) B.pre
  have hts : ∀ w ∈ V_Mq, w.before ([.ref M.o] : List Value).toArray s = true := fun w h => hts0 w (List.mem_cons_of_mem _ h)
  have hown : s.vm.findClass R_Mo = some m.cls := findClass_of_methodNamed B.named
  subst hsz
  have hD := hD0.self (sz := s.heap.size)
  generalize hAe : va_A (wM M S) s.heap.size = A at hD hE ⊢
  have hA : ∀ q : Nat, s.heap.size ≤ q → A q := fun q h => by rw [← hAe]; exact Or.inr h
  have hS : va_S A s.heap s.heap [] := va_S.rf
  have hP : va_P (dC, dI) classes (wM M S) s.heap := hP
  have hK : va_K (dC, dI) classes (tM M) s := hK
  have hEw : ∀ (H : Heap) (locs : List Loc), va_S A s.heap H locs → ∀ U : State, U.heap = H → s.WarmedH U.vm → E A U := fun H locs hS U hU hW => X.kept A s U H locs hE hS hU hW
  have hl := lv_entry ([.ref M.o]) (n := 4) (Nat.le_of_ble_eq_true rfl)
  rw [lg_entry_eq]
  generalize (lg_sl ([.ref M.o]) ++ List.replicate (4 - (lg_sl ([.ref M.o])).length) Slot.unset).toArray = ls at hl ⊢
  have hl : lv_has ls 4 [(0, .ref M.o)] := hl
  refine qabs (fun Q hQ => ?_)
  have hB_41 : ∀ (rec_4 : Int32 → Int32 → MS → Option (Int32 × MS)) (hr_4 : ∀ (y_1 : Int32) (y_2 : Int32) (S : MS) (H : Heap) (locs : List Loc) (ls : Array Slot), rec_4 y_1 y_2 S = some (r, S') → va_P (dC, dI) classes (wM M S) H → va_D A (wM M S) → va_S A s.heap H locs → lv_has ls 4 [(0, .ref M.o), (1, .int y_1), (2, .int y_2)] → W p l e ({ frames := 4, cells := 0, slots := 0, locals := 90 }) s m ([.ref M.o] : List Value).toArray below meth c H locs 0 0 Q (F0 m 4 ls [])) (rec_14 : Int32 → Int32 → Int32 → MS → Option (Int32 × MS)) (hr_14 : ∀ (y_1 : Int32) (y_2 : Int32) (y_3 : Int32) (S : MS) (H : Heap) (locs : List Loc) (ls : Array Slot), rec_14 y_1 y_2 y_3 S = some (r, S') → va_P (dC, dI) classes (wM M S) H → va_D A (wM M S) → va_S A s.heap H locs → lv_has ls 4 [(0, .ref M.o), (1, .int y_1), (2, .int y_2), (3, .int y_3)] → W p l e ({ frames := 4, cells := 0, slots := 0, locals := 90 }) s m ([.ref M.o] : List Value).toArray below meth c H locs 0 0 Q (F0 m 14 ls [])), ∀ (y_2 : Int32) (y_3 : Int32) (z_0 : Int32) (S : MS) (H : Heap) (locs : List Loc) (ls : Array Slot), f_Mo_badTimes_41 K rec_4 rec_14 y_2 y_3 z_0 S = some (r, S') → va_P (dC, dI) classes (wM M S) H → va_D A (wM M S) → va_S A s.heap H locs → lv_has ls 4 [(0, .ref M.o), (2, .int y_2), (3, .int y_3)] → W p l e ({ frames := 4, cells := 0, slots := 0, locals := 90 }) s m ([.ref M.o] : List Value).toArray below meth c H locs 0 0 Q (F0 m 41 ls [.int z_0]) := by
    intro rec_4 hr_4 rec_14 hr_14 y_2 y_3 z_0 S H locs ls h hP hD hS hl
    rw [f_Mo_badTimes_41] at h
    refine lv_istore_n (lv' := [(1, .int z_0), (0, .ref M.o), (2, .int y_2), (3, .int y_3)]) hx hb d_Mo_badTimes_41 rfl hl (by decide) rfl (fun ls hl => ?_)
    obtain ⟨x_8, ex_8, h⟩ := lf_lX h
    refine lv_iinc (v := x_8) (lv' := [(3, .int x_8), (1, .int z_0), (0, .ref M.o), (2, .int y_2)]) hx hb d_Mo_badTimes_42 hl (k := 3) rfl (by rw [ex_8]; rfl) (by decide) rfl (fun ls hl => ?_)
    refine lv_goto (tgt := 14) hx hb d_Mo_badTimes_45 (by decide) ?_
    exact hr_14 z_0 y_2 x_8 S _ _ _ h hP hD hS (lv_sub hl [2, 1, 3, 0] rfl)
  have hB_36 : ∀ (rec_4 : Int32 → Int32 → MS → Option (Int32 × MS)) (hr_4 : ∀ (y_1 : Int32) (y_2 : Int32) (S : MS) (H : Heap) (locs : List Loc) (ls : Array Slot), rec_4 y_1 y_2 S = some (r, S') → va_P (dC, dI) classes (wM M S) H → va_D A (wM M S) → va_S A s.heap H locs → lv_has ls 4 [(0, .ref M.o), (1, .int y_1), (2, .int y_2)] → W p l e ({ frames := 4, cells := 0, slots := 0, locals := 90 }) s m ([.ref M.o] : List Value).toArray below meth c H locs 0 0 Q (F0 m 4 ls [])) (rec_14 : Int32 → Int32 → Int32 → MS → Option (Int32 × MS)) (hr_14 : ∀ (y_1 : Int32) (y_2 : Int32) (y_3 : Int32) (S : MS) (H : Heap) (locs : List Loc) (ls : Array Slot), rec_14 y_1 y_2 y_3 S = some (r, S') → va_P (dC, dI) classes (wM M S) H → va_D A (wM M S) → va_S A s.heap H locs → lv_has ls 4 [(0, .ref M.o), (1, .int y_1), (2, .int y_2), (3, .int y_3)] → W p l e ({ frames := 4, cells := 0, slots := 0, locals := 90 }) s m ([.ref M.o] : List Value).toArray below meth c H locs 0 0 Q (F0 m 14 ls [])), ∀ (y_2 : Int32) (y_3 : Int32) (S : MS) (H : Heap) (locs : List Loc) (ls : Array Slot), f_Mo_badTimes_36 K rec_4 rec_14 y_2 y_3 S = some (r, S') → va_P (dC, dI) classes (wM M S) H → va_D A (wM M S) → va_S A s.heap H locs → lv_has ls 4 [(0, .ref M.o), (2, .int y_2), (3, .int y_3)] → W p l e ({ frames := 4, cells := 0, slots := 0, locals := 90 }) s m ([.ref M.o] : List Value).toArray below meth c H locs 0 0 Q (F0 m 36 ls []) := by
    intro rec_4 hr_4 rec_14 hr_14 y_2 y_3 S H locs ls h hP hD hS hl
    rw [f_Mo_badTimes_36] at h
    refine lv_iconst (v := 1) hx hb d_Mo_badTimes_36 (by decide) ?_
    refine lv_goto (tgt := 41) hx hb d_Mo_badTimes_37 (by decide) ?_
    exact hB_41 _ hr_4 _ hr_14 y_2 y_3 1 S _ _ _ h hP hD hS (lv_sub hl [0, 1, 2] rfl)
  have hB_14 : ∀ (rec_4 : Int32 → Int32 → MS → Option (Int32 × MS)) (hr_4 : ∀ (y_1 : Int32) (y_2 : Int32) (S : MS) (H : Heap) (locs : List Loc) (ls : Array Slot), rec_4 y_1 y_2 S = some (r, S') → va_P (dC, dI) classes (wM M S) H → va_D A (wM M S) → va_S A s.heap H locs → lv_has ls 4 [(0, .ref M.o), (1, .int y_1), (2, .int y_2)] → W p l e ({ frames := 4, cells := 0, slots := 0, locals := 90 }) s m ([.ref M.o] : List Value).toArray below meth c H locs 0 0 Q (F0 m 4 ls [])) (k : Nat), ∀ (y_1 : Int32) (y_2 : Int32) (y_3 : Int32) (S : MS) (H : Heap) (locs : List Loc) (ls : Array Slot), f_Mo_badTimes_14 K rec_4 k y_1 y_2 y_3 S = some (r, S') → va_P (dC, dI) classes (wM M S) H → va_D A (wM M S) → va_S A s.heap H locs → lv_has ls 4 [(0, .ref M.o), (1, .int y_1), (2, .int y_2), (3, .int y_3)] → W p l e ({ frames := 4, cells := 0, slots := 0, locals := 90 }) s m ([.ref M.o] : List Value).toArray below meth c H locs 0 0 Q (F0 m 14 ls []) := by
    intro rec_4 hr_4 k
    induction k with
    | zero => intro y_1 y_2 y_3 S H locs ls h; exact lf_no h
    | succ k hr_14 =>
      intro y_1 y_2 y_3 S H locs ls h hP hD hS hl
      rw [f_Mo_badTimes_14] at h
      refine lv_iload_n hx hb d_Mo_badTimes_14 rfl (lv_at hl 3 rfl) ?_
      refine lv_iconst (v := 3) hx hb d_Mo_badTimes_15 (by decide) ?_
      refine lv_icmp_ge (tgt := 48) hx hb d_Mo_badTimes_16 (by decide) (fun c_3 => ?_) (fun c_3 => ?_)
      · have h := lf_t h c_3
        obtain ⟨x_4, ex_4, h⟩ := lf_lX h
        refine lv_iinc (v := x_4) (lv' := [(2, .int x_4), (0, .ref M.o), (1, .int y_1), (3, .int y_3)]) hx hb d_Mo_badTimes_48 hl (k := 2) rfl (by rw [ex_4]; rfl) (by decide) rfl (fun ls hl => ?_)
        refine lv_goto (tgt := 4) hx hb d_Mo_badTimes_51 (by decide) ?_
        exact hr_4 y_1 x_4 S _ _ _ h hP hD hS (lv_sub hl [1, 2, 0] rfl)
      · have h := lf_f h c_3
        refine lv_iload_n hx hb d_Mo_badTimes_19 rfl (lv_at hl 1 rfl) ?_
        refine lv_if_ne (tgt := 36) hx hb d_Mo_badTimes_20 (by decide) (fun c_5 => ?_) (fun c_5 => ?_)
        · have h := lf_f h c_5
          exact hB_36 _ hr_4 _ hr_14 y_2 y_3 S _ _ _ h hP hD hS (lv_sub hl [0, 2, 3] rfl)
        · have h := lf_t h c_5
          refine lv_aload_n hx hb d_Mo_badTimes_23 rfl (lv_at hl 0 rfl) ?_
          refine lv_iload_n hx hb d_Mo_badTimes_24 rfl (lv_at hl 2 rfl) ?_
          refine lv_iload_n hx hb d_Mo_badTimes_25 rfl (lv_at hl 3 rfl) ?_
          obtain ⟨r_6, S_6, hc_6, h⟩ := lf_cE h
          have hFc := lx_free hD hS hA
          refine va_calll (va_runV (As := [.int y_2, .int y_3]) (rest := []) ⟨hx, hb, hml, hown, hts⟩ (l_Mo_timeOf l dC dI X _ hc_6) (cwV 2 hts (gwV good_Mq (u_Mq_Mo _ k_Mo_278) (u_Mq_Mo _ k_Mo_279) (u_Mq_Mo _ k_Mo_514) (u_Mq_Mo _ k_Mo_0) (wcs (u_Mq_Mo _ k_Mo_280) (fun _ h => h))) rfl rfl rfl (by decide +kernel) ⟨Nat.le_of_ble_eq_true rfl, Nat.le_of_ble_eq_true rfl⟩) (pv_ofE (X.same _) (fun U z1 z2 => X.mono _ _ U hFc (hEw _ _ hS U z1 z2)) hP hK hD (va_recv hK hP (ci := 12) (q0 := 0) rfl rfl)) rfl rfl hl.1 rfl (lv_room (Nat.le_of_ble_eq_true rfl)) d_Mo_badTimes_26 ⟨by decide, by decide⟩) hS (fun q _ h => hFc q h) hFc (fun r_ u t H locs ht hvm hw hB hz1 hk1 hS => ?_)
          rw [hw]
          obtain ⟨hP, -, hD⟩ := hB
          rw [ht] at hP
          have hD := lx_dj hD hFc
          refine lv_ldc2 (v := 4294967295) hx hb hown (hts _ (u_Mq_Mo _ k_Mo_229)) d_Mo_badTimes_29 ?_
          refine W.lcmp hx hb d_Mo_badTimes_32 ?_
          refine lv_if_le (tgt := 40) hx hb d_Mo_badTimes_33 (by decide) (fun c_7 => ?_) (fun c_7 => ?_)
          · have h := lf_t h c_7
            refine lv_iconst (v := 0) hx hb d_Mo_badTimes_40 (by decide) ?_
            exact hB_41 _ hr_4 _ hr_14 y_2 y_3 0 S_6 _ _ _ h hP hD hS (lv_sub hl [0, 2, 3] rfl)
          · have h := lf_f h c_7
            exact hB_36 _ hr_4 _ hr_14 y_2 y_3 S_6 _ _ _ h hP hD hS (lv_sub hl [0, 2, 3] rfl)
  have hB_4 : ∀ (k : Nat), ∀ (y_1 : Int32) (y_2 : Int32) (S : MS) (H : Heap) (locs : List Loc) (ls : Array Slot), f_Mo_badTimes_4 K k y_1 y_2 S = some (r, S') → va_P (dC, dI) classes (wM M S) H → va_D A (wM M S) → va_S A s.heap H locs → lv_has ls 4 [(0, .ref M.o), (1, .int y_1), (2, .int y_2)] → W p l e ({ frames := 4, cells := 0, slots := 0, locals := 90 }) s m ([.ref M.o] : List Value).toArray below meth c H locs 0 0 Q (F0 m 4 ls []) := by
    intro k
    induction k with
    | zero => intro y_1 y_2 S H locs ls h; exact lf_no h
    | succ k hr_4 =>
      intro y_1 y_2 S H locs ls h hP hD hS hl
      rw [f_Mo_badTimes_4] at h
      refine lv_iload_n hx hb d_Mo_badTimes_4 rfl (lv_at hl 2 rfl) ?_
      refine lv_aload_n hx hb d_Mo_badTimes_5 rfl (lv_at hl 0 rfl) ?_
      refine va_get (D := (dC, dI)) (ci := 12) (v := .int S.v_items) (C := R_Mo) (T := F_Mo) (N := 66) hx hb hts (fun w h => u_Mq_Mo w (i_Mo w h)) hown hK hP 0 rfl rfl 21 (by decide) (hts _ (u_Mq_Mo _ k_Mo_28)) (fun _ h9 => h9) rfl d_Mo_badTimes_6 ?_
      refine lv_icmp_ge (tgt := 54) hx hb d_Mo_badTimes_9 (by decide) (fun c_1 => ?_) (fun c_1 => ?_)
      · have h := lf_t h c_1
        refine lv_iload_n hx hb d_Mo_badTimes_54 rfl (lv_at hl 1 rfl) ?_
        obtain ⟨g_2, h⟩ := lf_gE h
        rw [hQ]
        have e1 : y_1 = r := congrArg Prod.fst (Option.some.inj h)
        have e2 : S = S' := congrArg Prod.snd (Option.some.inj h)
        have hP := lx_newP e2.symm hP
        have hD := lx_newD e2.symm hD
        exact W.zret (v := y_1) hx hb hr (lf_nz g_2) (fun t ht hW => ⟨⟨y_1, (), rfl, e1, by rw [ht]; exact hP, va_K.moved hW.alike hK, hD⟩, hS.F ht⟩) hS.2.2 d_Mo_badTimes_55
      · have h := lf_f h c_1
        refine lv_iconst (v := 0) hx hb d_Mo_badTimes_12 (by decide) ?_
        refine lv_istore_n (lv' := [(3, .int 0), (0, .ref M.o), (1, .int y_1), (2, .int y_2)]) hx hb d_Mo_badTimes_13 rfl hl (by decide) rfl (fun ls hl => ?_)
        exact hB_14 _ hr_4 K y_1 y_2 0 S _ _ _ h hP hD hS (lv_sub hl [1, 2, 3, 0] rfl)
  rw [f_Mo_badTimes] at h
  refine lv_iconst (v := 0) hx hb d_Mo_badTimes_0 (by decide) ?_
  refine lv_istore_n (lv' := [(1, .int 0), (0, .ref M.o)]) hx hb d_Mo_badTimes_1 rfl hl (by decide) rfl (fun ls hl => ?_)
  refine lv_iconst (v := 1) hx hb d_Mo_badTimes_2 (by decide) ?_
  refine lv_istore_n (lv' := [(2, .int 1), (1, .int 0), (0, .ref M.o)]) hx hb d_Mo_badTimes_3 rfl hl (by decide) rfl (fun ls hl => ?_)
  exact hB_4 K 0 1 S _ _ _ h hP hD hS (lv_sub hl [2, 1, 0] rfl)
set_option maxHeartbeats 4000000 in
set_option maxRecDepth 100000 in
theorem l_Mo_finds (l : Launch) (dC : Nat → ClassId) (dI : Nat → Nat → Nat) {K : Nat} {M : MA} {E : (Nat → Prop) → State → Prop} (X : lx_X l dC dI K M E) (sz : Nat) {S S' : MS} {r : Int32} (h : f_Mo_finds K S = some (r, S')) : Met l y_Mo_finds (.code y_Mo_finds b_Mo_finds 5 (some .boolean) :: V_Mq) ({ frames := 7, cells := 0, slots := 0, locals := 149 }) (va_Pc [.ref M.o] (fun U => U.heap.size = sz ∧ at_ (dC, dI) (fun _ => True) (wM M S) (tM M) U ∧ E (va_A (wM M S) sz) U)) (va_Qi (fun (r_ : Int32) (u : Unit) => r_ = r) (fun (u : Unit) t => at_ (dC, dI) (va_A (wM M S) sz) (wM M S') (tM M) t) (va_A (wM M S) sz)) 0 0 (va_A (wM M S) sz) := by
  refine Met.ofW (cc := b_Mo_finds) (maxL := 5) (ret := (some .boolean)) (by decide) rfl ?_
  intro p e s m args below meth c s₁ B hml hv
  obtain ⟨rfl, hsz, ⟨hP, hK, hD0⟩, hE⟩ := hv
  have hx := B.exec
  have hb := B.bytes
  have hr := B.returns
  have hts0 := atoms_spec (ws := .code y_Mo_finds b_Mo_finds 5 (some .boolean) :: V_Mq) B.pre
  have hts : ∀ w ∈ V_Mq, w.before ([.ref M.o] : List Value).toArray s = true := fun w h => hts0 w (List.mem_cons_of_mem _ h)
  have hown : s.vm.findClass R_Mo = some m.cls := findClass_of_methodNamed B.named
  subst hsz
  have hD := hD0.self (sz := s.heap.size)
  generalize hAe : va_A (wM M S) s.heap.size = A at hD hE ⊢
  have hA : ∀ q : Nat, s.heap.size ≤ q → A q := fun q h => by rw [← hAe]; exact Or.inr h
  have hS : va_S A s.heap s.heap [] := va_S.rf
  have hP : va_P (dC, dI) classes (wM M S) s.heap := hP
  have hK : va_K (dC, dI) classes (tM M) s := hK
  have hEw : ∀ (H : Heap) (locs : List Loc), va_S A s.heap H locs → ∀ U : State, U.heap = H → s.WarmedH U.vm → E A U := fun H locs hS U hU hW => X.kept A s U H locs hE hS hU hW
  have hl := lv_entry ([.ref M.o]) (n := 5) (Nat.le_of_ble_eq_true rfl)
  rw [lg_entry_eq]
  generalize (lg_sl ([.ref M.o]) ++ List.replicate (5 - (lg_sl ([.ref M.o])).length) Slot.unset).toArray = ls at hl ⊢
  have hl : lv_has ls 5 [(0, .ref M.o)] := hl
  refine qabs (fun Q hQ => ?_)
  have hB_102 : ∀ (rec_36 : Int32 → MS → Option (Int32 × MS)) (hr_36 : ∀ (y_1 : Int32) (S : MS) (H : Heap) (locs : List Loc) (ls : Array Slot), rec_36 y_1 S = some (r, S') → va_P (dC, dI) classes (wM M S) H → va_D A (wM M S) → va_S A s.heap H locs → lv_has ls 5 [(0, .ref M.o), (1, .int y_1)] → W p l e ({ frames := 7, cells := 0, slots := 0, locals := 149 }) s m ([.ref M.o] : List Value).toArray below meth c H locs 0 0 Q (F0 m 36 ls [])) (rec_67 : Int32 → Int32 → MS → Option (Int32 × MS)) (hr_67 : ∀ (y_1 : Int32) (y_2 : Int32) (S : MS) (H : Heap) (locs : List Loc) (ls : Array Slot), rec_67 y_1 y_2 S = some (r, S') → va_P (dC, dI) classes (wM M S) H → va_D A (wM M S) → va_S A s.heap H locs → lv_has ls 5 [(0, .ref M.o), (1, .int y_1), (2, .int y_2)] → W p l e ({ frames := 7, cells := 0, slots := 0, locals := 149 }) s m ([.ref M.o] : List Value).toArray below meth c H locs 0 0 Q (F0 m 67 ls [])), ∀ (y_1 : Int32) (y_2 : Int32) (S : MS) (H : Heap) (locs : List Loc) (ls : Array Slot), f_Mo_finds_102 K rec_36 rec_67 y_1 y_2 S = some (r, S') → va_P (dC, dI) classes (wM M S) H → va_D A (wM M S) → va_S A s.heap H locs → lv_has ls 5 [(0, .ref M.o), (1, .int y_1), (2, .int y_2)] → W p l e ({ frames := 7, cells := 0, slots := 0, locals := 149 }) s m ([.ref M.o] : List Value).toArray below meth c H locs 0 0 Q (F0 m 102 ls []) := by
    intro rec_36 hr_36 rec_67 hr_67 y_1 y_2 S H locs ls h hP hD hS hl
    rw [f_Mo_finds_102] at h
    obtain ⟨x_46, ex_46, h⟩ := lf_lX h
    refine lv_iinc (v := x_46) (lv' := [(2, .int x_46), (0, .ref M.o), (1, .int y_1)]) hx hb d_Mo_finds_102 hl (k := 2) rfl (by rw [ex_46]; rfl) (by decide) rfl (fun ls hl => ?_)
    refine lv_goto (tgt := 67) hx hb d_Mo_finds_105 (by decide) ?_
    exact hr_67 y_1 x_46 S _ _ _ h hP hD hS (lv_sub hl [1, 2, 0] rfl)
  have hB_144 : ∀ (rec_36 : Int32 → MS → Option (Int32 × MS)) (hr_36 : ∀ (y_1 : Int32) (S : MS) (H : Heap) (locs : List Loc) (ls : Array Slot), rec_36 y_1 S = some (r, S') → va_P (dC, dI) classes (wM M S) H → va_D A (wM M S) → va_S A s.heap H locs → lv_has ls 5 [(0, .ref M.o), (1, .int y_1)] → W p l e ({ frames := 7, cells := 0, slots := 0, locals := 149 }) s m ([.ref M.o] : List Value).toArray below meth c H locs 0 0 Q (F0 m 36 ls [])), ∀ (y_1 : Int32) (S : MS) (H : Heap) (locs : List Loc) (ls : Array Slot), f_Mo_finds_144 K rec_36 y_1 S = some (r, S') → va_P (dC, dI) classes (wM M S) H → va_D A (wM M S) → va_S A s.heap H locs → lv_has ls 5 [(0, .ref M.o), (1, .int y_1)] → W p l e ({ frames := 7, cells := 0, slots := 0, locals := 149 }) s m ([.ref M.o] : List Value).toArray below meth c H locs 0 0 Q (F0 m 144 ls []) := by
    intro rec_36 hr_36 y_1 S H locs ls h hP hD hS hl
    rw [f_Mo_finds_144] at h
    obtain ⟨x_25, ex_25, h⟩ := lf_lX h
    refine lv_iinc (v := x_25) (lv' := [(1, .int x_25), (0, .ref M.o)]) hx hb d_Mo_finds_144 hl (k := 1) rfl (by rw [ex_25]; rfl) (by decide) rfl (fun ls hl => ?_)
    refine lv_goto (tgt := 36) hx hb d_Mo_finds_147 (by decide) ?_
    exact hr_36 x_25 S _ _ _ h hP hD hS (lv_sub hl [1, 0] rfl)
  have hB_108 : ∀ (rec_36 : Int32 → MS → Option (Int32 × MS)) (hr_36 : ∀ (y_1 : Int32) (S : MS) (H : Heap) (locs : List Loc) (ls : Array Slot), rec_36 y_1 S = some (r, S') → va_P (dC, dI) classes (wM M S) H → va_D A (wM M S) → va_S A s.heap H locs → lv_has ls 5 [(0, .ref M.o), (1, .int y_1)] → W p l e ({ frames := 7, cells := 0, slots := 0, locals := 149 }) s m ([.ref M.o] : List Value).toArray below meth c H locs 0 0 Q (F0 m 36 ls [])), ∀ (y_1 : Int32) (y_2 : Int32) (S : MS) (H : Heap) (locs : List Loc) (ls : Array Slot), f_Mo_finds_108 K rec_36 y_1 y_2 S = some (r, S') → va_P (dC, dI) classes (wM M S) H → va_D A (wM M S) → va_S A s.heap H locs → lv_has ls 5 [(0, .ref M.o), (1, .int y_1), (2, .int y_2)] → W p l e ({ frames := 7, cells := 0, slots := 0, locals := 149 }) s m ([.ref M.o] : List Value).toArray below meth c H locs 0 0 Q (F0 m 108 ls []) := by
    intro rec_36 hr_36 y_1 y_2 S H locs ls h hP hD hS hl
    rw [f_Mo_finds_108] at h
    refine lv_iload_n hx hb d_Mo_finds_108 rfl (lv_at hl 2 rfl) ?_
    refine lv_aload_n hx hb d_Mo_finds_109 rfl (lv_at hl 0 rfl) ?_
    refine va_get (D := (dC, dI)) (ci := 12) (v := .int S.v_k) (C := R_Mo) (T := F_Mo) (N := 66) hx hb hts (fun w h => u_Mq_Mo w (i_Mo w h)) hown hK hP 0 rfl rfl 17 (by decide) (hts _ (u_Mq_Mo _ k_Mo_24)) (fun _ h9 => h9) rfl d_Mo_finds_110 ?_
    refine lv_iconst (v := 2) hx hb d_Mo_finds_113 (by decide) ?_
    refine lv_iadd hx hb d_Mo_finds_114 ?_
    refine lv_icmp_ne (tgt := 120) hx hb d_Mo_finds_115 (by decide) (fun c_40 => ?_) (fun c_40 => ?_)
    · have h := lf_f h c_40
      refine lv_aload_n hx hb d_Mo_finds_120 rfl (lv_at hl 0 rfl) ?_
      refine va_get (D := (dC, dI)) (ci := 12) (v := .ref M.a_moved) (C := R_Mo) (T := F_Mo) (N := 66) hx hb hts (fun w h => u_Mq_Mo w (i_Mo w h)) hown hK hP 0 rfl rfl 53 (by decide) (hts _ (u_Mq_Mo _ k_Mo_60)) (fun _ h9 => h9) rfl d_Mo_finds_121 ?_
      refine lv_iload_n hx hb d_Mo_finds_124 rfl (lv_at hl 1 rfl) ?_
      refine lv_iload_n hx hb d_Mo_finds_125 rfl (lv_at hl 2 rfl) ?_
      obtain ⟨g_41, h⟩ := lf_gE h
      refine va_iast hx hb hK hP hD hS 23 22 rfl rfl g_41 d_Mo_finds_126 (fun H locs hP hD hS => ?_)
      obtain ⟨S_42, eS_42, h⟩ := lf_lX h
      have hP := lx_newP eS_42 hP
      have hD := lx_newD eS_42 hD
      refine lv_aload_n hx hb d_Mo_finds_127 rfl (lv_at hl 0 rfl) ?_
      refine va_get (D := (dC, dI)) (ci := 12) (v := .ref M.a_aimed) (C := R_Mo) (T := F_Mo) (N := 66) hx hb hts (fun w h => u_Mq_Mo w (i_Mo w h)) hown hK hP 0 rfl rfl 54 (by decide) (hts _ (u_Mq_Mo _ k_Mo_61)) (fun _ h9 => h9) rfl d_Mo_finds_128 ?_
      refine lv_iload_n hx hb d_Mo_finds_131 rfl (lv_at hl 2 rfl) ?_
      refine lv_iload_n hx hb d_Mo_finds_132 rfl (lv_at hl 1 rfl) ?_
      obtain ⟨g_43, h⟩ := lf_gE h
      refine va_iast hx hb hK hP hD hS 24 23 rfl rfl g_43 d_Mo_finds_133 (fun H locs hP hD hS => ?_)
      obtain ⟨S_44, eS_44, h⟩ := lf_lX h
      have hP := lx_newP eS_44 hP
      have hD := lx_newD eS_44 hD
      refine lv_aload_n hx hb d_Mo_finds_134 rfl (lv_at hl 0 rfl) ?_
      refine lv_dup hx hb d_Mo_finds_135 rfl ?_
      refine va_get (D := (dC, dI)) (ci := 12) (v := .int S_44.v_moves) (C := R_Mo) (T := F_Mo) (N := 66) hx hb hts (fun w h => u_Mq_Mo w (i_Mo w h)) hown hK hP 0 rfl rfl 57 (by decide) (hts _ (u_Mq_Mo _ k_Mo_64)) (fun _ h9 => h9) rfl d_Mo_finds_136 ?_
      refine lv_iconst (v := 1) hx hb d_Mo_finds_139 (by decide) ?_
      refine lv_iadd hx hb d_Mo_finds_140 ?_
      refine va_put (D := (dC, dI)) (ci := 12) (v := .int (S_44.v_moves + 1)) (ty := .int) (C := R_Mo) (T := F_Mo) (N := 66) hx hb hts (fun w h => u_Mq_Mo w (i_Mo w h)) t_Mo t_Mo_ok n_Mo hown hK hP hD hS 0 rfl rfl 57 (by decide) (hts _ (u_Mq_Mo _ k_Mo_64)) (fun _ h9 => h9) rfl (by decide +kernel) rfl rfl (Nat.le_of_ble_eq_true rfl) d_Mo_finds_141 (fun H locs hP hD hS => ?_)
      obtain ⟨S_45, eS_45, h⟩ := lf_lX h
      have hP := lx_newP eS_45 hP
      have hD := lx_newD eS_45 hD
      exact hB_144 _ hr_36 y_1 S_45 _ _ _ h hP hD hS (lv_sub hl [0, 1] rfl)
    · have h := lf_t h c_40
      refine lv_iconst (v := 0) hx hb d_Mo_finds_118 (by decide) ?_
      rw [hQ]
      have e1 : (0 : Int32) = r := congrArg Prod.fst (Option.some.inj h)
      have e2 : S = S' := congrArg Prod.snd (Option.some.inj h)
      have hP := lx_newP e2.symm hP
      have hD := lx_newD e2.symm hD
      exact W.zret (v := 0) hx hb hr rfl (fun t ht hW => ⟨⟨0, (), rfl, e1, by rw [ht]; exact hP, va_K.moved hW.alike hK, hD⟩, hS.F ht⟩) hS.2.2 d_Mo_finds_119
  have hB_67 : ∀ (rec_36 : Int32 → MS → Option (Int32 × MS)) (hr_36 : ∀ (y_1 : Int32) (S : MS) (H : Heap) (locs : List Loc) (ls : Array Slot), rec_36 y_1 S = some (r, S') → va_P (dC, dI) classes (wM M S) H → va_D A (wM M S) → va_S A s.heap H locs → lv_has ls 5 [(0, .ref M.o), (1, .int y_1)] → W p l e ({ frames := 7, cells := 0, slots := 0, locals := 149 }) s m ([.ref M.o] : List Value).toArray below meth c H locs 0 0 Q (F0 m 36 ls [])) (k : Nat), ∀ (y_1 : Int32) (y_2 : Int32) (S : MS) (H : Heap) (locs : List Loc) (ls : Array Slot), f_Mo_finds_67 K rec_36 k y_1 y_2 S = some (r, S') → va_P (dC, dI) classes (wM M S) H → va_D A (wM M S) → va_S A s.heap H locs → lv_has ls 5 [(0, .ref M.o), (1, .int y_1), (2, .int y_2)] → W p l e ({ frames := 7, cells := 0, slots := 0, locals := 149 }) s m ([.ref M.o] : List Value).toArray below meth c H locs 0 0 Q (F0 m 67 ls []) := by
    intro rec_36 hr_36 k
    induction k with
    | zero => intro y_1 y_2 S H locs ls h; exact lf_no h
    | succ k hr_67 =>
      intro y_1 y_2 S H locs ls h hP hD hS hl
      rw [f_Mo_finds_67] at h
      refine lv_iload_n hx hb d_Mo_finds_67 rfl (lv_at hl 2 rfl) ?_
      refine lv_aload_n hx hb d_Mo_finds_68 rfl (lv_at hl 0 rfl) ?_
      refine va_get (D := (dC, dI)) (ci := 12) (v := .int S.v_k) (C := R_Mo) (T := F_Mo) (N := 66) hx hb hts (fun w h => u_Mq_Mo w (i_Mo w h)) hown hK hP 0 rfl rfl 17 (by decide) (hts _ (u_Mq_Mo _ k_Mo_24)) (fun _ h9 => h9) rfl d_Mo_finds_69 ?_
      refine lv_iconst (v := 2) hx hb d_Mo_finds_72 (by decide) ?_
      refine lv_iadd hx hb d_Mo_finds_73 ?_
      refine lv_icmp_ge (tgt := 108) hx hb d_Mo_finds_74 (by decide) (fun c_26 => ?_) (fun c_26 => ?_)
      · have h := lf_t h c_26
        exact hB_108 _ hr_36 y_1 y_2 S _ _ _ h hP hD hS (lv_sub hl [0, 1, 2] rfl)
      · have h := lf_f h c_26
        refine lv_aload_n hx hb d_Mo_finds_77 rfl (lv_at hl 0 rfl) ?_
        refine lv_iload_n hx hb d_Mo_finds_78 rfl (lv_at hl 2 rfl) ?_
        obtain ⟨r_27, S_27, hc_27, h⟩ := lf_cE h
        have hFc := lx_free hD hS hA
        refine va_calli (va_runV (As := [.int y_2]) (rest := []) ⟨hx, hb, hml, hown, hts⟩ (l_Mo_entry l dC dI X _ hc_27) (cwV 1 hts (gwV good_Mq (u_Mq_Mo _ k_Mo_110) (u_Mq_Mo _ k_Mo_111) (u_Mq_Mo _ k_Mo_480) (u_Mq_Mo _ k_Mo_0) (wcs (u_Mq_Mo _ k_Mo_112) (fun _ h => h))) rfl rfl rfl (by decide +kernel) ⟨Nat.le_of_ble_eq_true rfl, Nat.le_of_ble_eq_true rfl⟩) (pv_ofE (X.same _) (fun U z1 z2 => X.mono _ _ U hFc (hEw _ _ hS U z1 z2)) hP hK hD (va_recv hK hP (ci := 12) (q0 := 0) rfl rfl)) rfl rfl hl.1 rfl (lv_room (Nat.le_of_ble_eq_true rfl)) d_Mo_finds_79 ⟨by decide, by decide⟩) hS (fun q _ h => hFc q h) hFc (fun r_ u t H locs ht hvm hw hB hz1 hk1 hS => ?_)
        rw [hw]
        obtain ⟨hP, -, hD⟩ := hB
        rw [ht] at hP
        have hD := lx_dj hD hFc
        refine lv_if_ne (tgt := 102) hx hb d_Mo_finds_82 (by decide) (fun c_28 => ?_) (fun c_28 => ?_)
        · have h := lf_f h c_28
          exact hB_102 _ hr_36 _ hr_67 y_1 y_2 S_27 _ _ _ h hP hD hS (lv_sub hl [0, 1, 2] rfl)
        · have h := lf_t h c_28
          refine lv_aload_n hx hb d_Mo_finds_85 rfl (lv_at hl 0 rfl) ?_
          refine lv_iload_n hx hb d_Mo_finds_86 rfl (lv_at hl 2 rfl) ?_
          obtain ⟨r_29, S_29, hc_29, h⟩ := lf_cE h
          have hFc := lx_free hD hS hA
          refine va_calli (va_runV (As := [.int y_2]) (rest := []) ⟨hx, hb, hml, hown, hts⟩ (l_Mo_isFixed l dC dI X _ hc_29) (cwV 1 hts (gwV good_Mq (u_Mq_Mo _ k_Mo_391) (u_Mq_Mo _ k_Mo_392) (u_Mq_Mo _ k_Mo_533) (u_Mq_Mo _ k_Mo_0) (wcs (u_Mq_Mo _ k_Mo_393) (fun _ h => h))) rfl rfl rfl (by decide +kernel) ⟨Nat.le_of_ble_eq_true rfl, Nat.le_of_ble_eq_true rfl⟩) (pv_ofE (X.same _) (fun U z1 z2 => X.mono _ _ U hFc (hEw _ _ hS U z1 z2)) hP hK hD (va_recv hK hP (ci := 12) (q0 := 0) rfl rfl)) rfl rfl hl.1 rfl (lv_room (Nat.le_of_ble_eq_true rfl)) d_Mo_finds_87 ⟨by decide, by decide⟩) hS (fun q _ h => hFc q h) hFc (fun r_ u t H locs ht hvm hw hB hz1 hk1 hS => ?_)
          rw [hw]
          obtain ⟨hP, -, hD⟩ := hB
          rw [ht] at hP
          have hD := lx_dj hD hFc
          refine lv_if_ne (tgt := 102) hx hb d_Mo_finds_90 (by decide) (fun c_30 => ?_) (fun c_30 => ?_)
          · have h := lf_f h c_30
            exact hB_102 _ hr_36 _ hr_67 y_1 y_2 S_29 _ _ _ h hP hD hS (lv_sub hl [0, 1, 2] rfl)
          · have h := lf_t h c_30
            refine lv_aload_n hx hb d_Mo_finds_93 rfl (lv_at hl 0 rfl) ?_
            refine va_get (D := (dC, dI)) (ci := 12) (v := .ref M.a_aimed) (C := R_Mo) (T := F_Mo) (N := 66) hx hb hts (fun w h => u_Mq_Mo w (i_Mo w h)) hown hK hP 0 rfl rfl 54 (by decide) (hts _ (u_Mq_Mo _ k_Mo_61)) (fun _ h9 => h9) rfl d_Mo_finds_94 ?_
            refine lv_iload_n hx hb d_Mo_finds_97 rfl (lv_at hl 2 rfl) ?_
            obtain ⟨g_31, h⟩ := lf_gE h
            refine va_iald hx hb hK hP 24 23 rfl rfl g_31 d_Mo_finds_98 ?_
            refine lv_if_eq (tgt := 108) hx hb d_Mo_finds_99 (by decide) (fun c_32 => ?_) (fun c_32 => ?_)
            · have h := lf_t h c_32
              exact hB_108 _ hr_36 y_1 y_2 S_29 _ _ _ h hP hD hS (lv_sub hl [0, 1, 2] rfl)
            · have h := lf_f h c_32
              exact hB_102 _ hr_36 _ hr_67 y_1 y_2 S_29 _ _ _ h hP hD hS (lv_sub hl [0, 1, 2] rfl)
  have hB_260 : ∀ (rec_177 : Int32 → MS → Option (Int32 × MS)) (hr_177 : ∀ (y_1 : Int32) (S : MS) (H : Heap) (locs : List Loc) (ls : Array Slot), rec_177 y_1 S = some (r, S') → va_P (dC, dI) classes (wM M S) H → va_D A (wM M S) → va_S A s.heap H locs → lv_has ls 5 [(0, .ref M.o), (1, .int y_1)] → W p l e ({ frames := 7, cells := 0, slots := 0, locals := 149 }) s m ([.ref M.o] : List Value).toArray below meth c H locs 0 0 Q (F0 m 177 ls [])), ∀ (y_1 : Int32) (z_1 : Int32) (z_2 : Int32) (S : MS) (H : Heap) (locs : List Loc) (ls : Array Slot), f_Mo_finds_260 K rec_177 y_1 z_1 z_2 S = some (r, S') → va_P (dC, dI) classes (wM M S) H → va_D A (wM M S) → va_S A s.heap H locs → lv_has ls 5 [(0, .ref M.o), (1, .int y_1)] → W p l e ({ frames := 7, cells := 0, slots := 0, locals := 149 }) s m ([.ref M.o] : List Value).toArray below meth c H locs 0 0 Q (F0 m 260 ls [.int z_2, .int z_1, .ref M.o]) := by
    intro rec_177 hr_177 y_1 z_1 z_2 S H locs ls h hP hD hS hl
    rw [f_Mo_finds_260] at h
    refine lv_iadd hx hb d_Mo_finds_260 ?_
    refine va_put (D := (dC, dI)) (ci := 12) (v := .int (z_1 + z_2)) (ty := .int) (C := R_Mo) (T := F_Mo) (N := 66) hx hb hts (fun w h => u_Mq_Mo w (i_Mo w h)) t_Mo t_Mo_ok n_Mo hown hK hP hD hS 0 rfl rfl 59 (by decide) (hts _ (u_Mq_Mo _ k_Mo_66)) (fun _ h9 => h9) rfl (by decide +kernel) rfl rfl (Nat.le_of_ble_eq_true rfl) d_Mo_finds_261 (fun H locs hP hD hS => ?_)
    obtain ⟨S_58, eS_58, h⟩ := lf_lX h
    have hP := lx_newP eS_58 hP
    have hD := lx_newD eS_58 hD
    obtain ⟨x_59, ex_59, h⟩ := lf_lX h
    refine lv_iinc (v := x_59) (lv' := [(1, .int x_59), (0, .ref M.o)]) hx hb d_Mo_finds_264 hl (k := 1) rfl (by rw [ex_59]; rfl) (by decide) rfl (fun ls hl => ?_)
    refine lv_goto (tgt := 177) hx hb d_Mo_finds_267 (by decide) ?_
    exact hr_177 x_59 S_58 _ _ _ h hP hD hS (lv_sub hl [1, 0] rfl)
  have hB_223 : ∀ (rec_177 : Int32 → MS → Option (Int32 × MS)) (hr_177 : ∀ (y_1 : Int32) (S : MS) (H : Heap) (locs : List Loc) (ls : Array Slot), rec_177 y_1 S = some (r, S') → va_P (dC, dI) classes (wM M S) H → va_D A (wM M S) → va_S A s.heap H locs → lv_has ls 5 [(0, .ref M.o), (1, .int y_1)] → W p l e ({ frames := 7, cells := 0, slots := 0, locals := 149 }) s m ([.ref M.o] : List Value).toArray below meth c H locs 0 0 Q (F0 m 177 ls [])), ∀ (y_1 : Int32) (z_1 : Int32) (z_2 : Int32) (S : MS) (H : Heap) (locs : List Loc) (ls : Array Slot), f_Mo_finds_223 K rec_177 y_1 z_1 z_2 S = some (r, S') → va_P (dC, dI) classes (wM M S) H → va_D A (wM M S) → va_S A s.heap H locs → lv_has ls 5 [(0, .ref M.o), (1, .int y_1)] → W p l e ({ frames := 7, cells := 0, slots := 0, locals := 149 }) s m ([.ref M.o] : List Value).toArray below meth c H locs 0 0 Q (F0 m 223 ls [.int z_2, .int z_1, .ref M.o]) := by
    intro rec_177 hr_177 y_1 z_1 z_2 S H locs ls h hP hD hS hl
    rw [f_Mo_finds_223] at h
    refine lv_iadd hx hb d_Mo_finds_223 ?_
    refine va_put (D := (dC, dI)) (ci := 12) (v := .int (z_1 + z_2)) (ty := .int) (C := R_Mo) (T := F_Mo) (N := 66) hx hb hts (fun w h => u_Mq_Mo w (i_Mo w h)) t_Mo t_Mo_ok n_Mo hown hK hP hD hS 0 rfl rfl 58 (by decide) (hts _ (u_Mq_Mo _ k_Mo_65)) (fun _ h9 => h9) rfl (by decide +kernel) rfl rfl (Nat.le_of_ble_eq_true rfl) d_Mo_finds_224 (fun H locs hP hD hS => ?_)
    obtain ⟨S_35, eS_35, h⟩ := lf_lX h
    have hP := lx_newP eS_35 hP
    have hD := lx_newD eS_35 hD
    refine lv_aload_n hx hb d_Mo_finds_227 rfl (lv_at hl 0 rfl) ?_
    refine lv_dup hx hb d_Mo_finds_228 rfl ?_
    refine va_get (D := (dC, dI)) (ci := 12) (v := .int S_35.v_kept) (C := R_Mo) (T := F_Mo) (N := 66) hx hb hts (fun w h => u_Mq_Mo w (i_Mo w h)) hown hK hP 0 rfl rfl 59 (by decide) (hts _ (u_Mq_Mo _ k_Mo_66)) (fun _ h9 => h9) rfl d_Mo_finds_229 ?_
    refine lv_aload_n hx hb d_Mo_finds_232 rfl (lv_at hl 0 rfl) ?_
    refine lv_iload_n hx hb d_Mo_finds_233 rfl (lv_at hl 1 rfl) ?_
    obtain ⟨r_36, S_36, hc_36, h⟩ := lf_cE h
    have hFc := lx_free hD hS hA
    refine va_calli (va_runV (As := [.int y_1]) (rest := [.int S_35.v_kept, .ref M.o]) ⟨hx, hb, hml, hown, hts⟩ (l_Mo_isFolder l dC dI X _ hc_36) (cwV 1 hts (gwV good_Mq (u_Mq_Mo _ k_Mo_118) (u_Mq_Mo _ k_Mo_119) (u_Mq_Mo _ k_Mo_489) (u_Mq_Mo _ k_Mo_0) (wcs (u_Mq_Mo _ k_Mo_120) (fun _ h => h))) rfl rfl rfl (by decide +kernel) ⟨Nat.le_of_ble_eq_true rfl, Nat.le_of_ble_eq_true rfl⟩) (pv_ofE (X.same _) (fun U z1 z2 => X.mono _ _ U hFc (hEw _ _ hS U z1 z2)) hP hK hD (va_recv hK hP (ci := 12) (q0 := 0) rfl rfl)) rfl rfl hl.1 rfl (lv_room (Nat.le_of_ble_eq_true rfl)) d_Mo_finds_234 ⟨by decide, by decide⟩) hS (fun q _ h => hFc q h) hFc (fun r_ u t H locs ht hvm hw hB hz1 hk1 hS => ?_)
    rw [hw]
    obtain ⟨hP, -, hD⟩ := hB
    rw [ht] at hP
    have hD := lx_dj hD hFc
    refine lv_if_eq (tgt := 255) hx hb d_Mo_finds_237 (by decide) (fun c_37 => ?_) (fun c_37 => ?_)
    · have h := lf_t h c_37
      refine lv_aload_n hx hb d_Mo_finds_255 rfl (lv_at hl 0 rfl) ?_
      refine lv_iload_n hx hb d_Mo_finds_256 rfl (lv_at hl 1 rfl) ?_
      obtain ⟨r_38, S_38, hc_38, h⟩ := lf_cE h
      have hFc := lx_free hD hS hA
      refine va_calli (va_runV (As := [.int y_1]) (rest := [.int S_35.v_kept, .ref M.o]) ⟨hx, hb, hml, hown, hts⟩ (l_Mo_fileBlocks l dC dI X _ hc_38) (cwV 1 hts (gwV good_Mq (u_Mq_Mo _ k_Mo_397) (u_Mq_Mo _ k_Mo_398) (u_Mq_Mo _ k_Mo_528) (u_Mq_Mo _ k_Mo_0) (wcs (u_Mq_Mo _ k_Mo_399) (fun _ h => h))) rfl rfl rfl (by decide +kernel) ⟨Nat.le_of_ble_eq_true rfl, Nat.le_of_ble_eq_true rfl⟩) (pv_ofE (X.same _) (fun U z1 z2 => X.mono _ _ U hFc (hEw _ _ hS U z1 z2)) hP hK hD (va_recv hK hP (ci := 12) (q0 := 0) rfl rfl)) rfl rfl hl.1 rfl (lv_room (Nat.le_of_ble_eq_true rfl)) d_Mo_finds_257 ⟨by decide, by decide⟩) hS (fun q _ h => hFc q h) hFc (fun r_ u t H locs ht hvm hw hB hz1 hk1 hS => ?_)
      rw [hw]
      obtain ⟨hP, -, hD⟩ := hB
      rw [ht] at hP
      have hD := lx_dj hD hFc
      exact hB_260 _ hr_177 y_1 S_35.v_kept r_38 S_38 _ _ _ h hP hD hS (lv_sub hl [0, 1] rfl)
    · have h := lf_f h c_37
      refine lv_aload_n hx hb d_Mo_finds_240 rfl (lv_at hl 0 rfl) ?_
      refine lv_iload_n hx hb d_Mo_finds_241 rfl (lv_at hl 1 rfl) ?_
      obtain ⟨r_39, S_39, hc_39, h⟩ := lf_cE h
      have hFc := lx_free hD hS hA
      refine va_calli (va_runV (As := [.int y_1]) (rest := [.int S_35.v_kept, .ref M.o]) ⟨hx, hb, hml, hown, hts⟩ (l_Mo_clustersOf l dC dI X _ hc_39) (cwV 1 hts (gwV good_Mq (u_Mq_Mo _ k_Mo_272) (u_Mq_Mo _ k_Mo_273) (u_Mq_Mo _ k_Mo_526) (u_Mq_Mo _ k_Mo_0) (wcs (u_Mq_Mo _ k_Mo_274) (fun _ h => h))) rfl rfl rfl (by decide +kernel) ⟨Nat.le_of_ble_eq_true rfl, Nat.le_of_ble_eq_true rfl⟩) (pv_ofE (X.same _) (fun U z1 z2 => X.mono _ _ U hFc (hEw _ _ hS U z1 z2)) hP hK hD (va_recv hK hP (ci := 12) (q0 := 0) rfl rfl)) rfl rfl hl.1 rfl (lv_room (Nat.le_of_ble_eq_true rfl)) d_Mo_finds_242 ⟨by decide, by decide⟩) hS (fun q _ h => hFc q h) hFc (fun r_ u t H locs ht hvm hw hB hz1 hk1 hS => ?_)
      rw [hw]
      obtain ⟨hP, -, hD⟩ := hB
      rw [ht] at hP
      have hD := lx_dj hD hFc
      refine lv_aload_n hx hb d_Mo_finds_245 rfl (lv_at hl 0 rfl) ?_
      refine va_get (D := (dC, dI)) (ci := 12) (v := .int S_39.v_c) (C := R_Mo) (T := F_Mo) (N := 66) hx hb hts (fun w h => u_Mq_Mo w (i_Mo w h)) hown hK hP 0 rfl rfl 11 (by decide) (hts _ (u_Mq_Mo _ k_Mo_18)) (fun _ h9 => h9) rfl d_Mo_finds_246 ?_
      refine lv_iconst (v := 2) hx hb d_Mo_finds_249 (by decide) ?_
      refine lv_idiv hx hb d_Mo_finds_250 (by decide) ?_
      refine lv_imul hx hb d_Mo_finds_251 ?_
      refine lv_goto (tgt := 260) hx hb d_Mo_finds_252 (by decide) ?_
      exact hB_260 _ hr_177 y_1 S_35.v_kept (r_39 * (S_39.v_c / 2)) S_39 _ _ _ h hP hD hS (lv_sub hl [0, 1] rfl)
  have hB_358 : ∀ (rec_274 : Int32 → Int32 → MS → Option (Int32 × MS)) (hr_274 : ∀ (y_1 : Int32) (y_2 : Int32) (S : MS) (H : Heap) (locs : List Loc) (ls : Array Slot), rec_274 y_1 y_2 S = some (r, S') → va_P (dC, dI) classes (wM M S) H → va_D A (wM M S) → va_S A s.heap H locs → lv_has ls 5 [(0, .ref M.o), (1, .int y_1), (2, .int y_2)] → W p l e ({ frames := 7, cells := 0, slots := 0, locals := 149 }) s m ([.ref M.o] : List Value).toArray below meth c H locs 0 0 Q (F0 m 274 ls [])) (rec_286 : Int32 → Int32 → Int32 → MS → Option (Int32 × MS)) (hr_286 : ∀ (y_1 : Int32) (y_2 : Int32) (y_3 : Int32) (S : MS) (H : Heap) (locs : List Loc) (ls : Array Slot), rec_286 y_1 y_2 y_3 S = some (r, S') → va_P (dC, dI) classes (wM M S) H → va_D A (wM M S) → va_S A s.heap H locs → lv_has ls 5 [(0, .ref M.o), (1, .int y_1), (2, .int y_2), (3, .int y_3)] → W p l e ({ frames := 7, cells := 0, slots := 0, locals := 149 }) s m ([.ref M.o] : List Value).toArray below meth c H locs 0 0 Q (F0 m 286 ls [])), ∀ (y_1 : Int32) (y_2 : Int32) (y_3 : Int32) (S : MS) (H : Heap) (locs : List Loc) (ls : Array Slot), f_Mo_finds_358 K rec_274 rec_286 y_1 y_2 y_3 S = some (r, S') → va_P (dC, dI) classes (wM M S) H → va_D A (wM M S) → va_S A s.heap H locs → lv_has ls 5 [(0, .ref M.o), (1, .int y_1), (2, .int y_2), (3, .int y_3)] → W p l e ({ frames := 7, cells := 0, slots := 0, locals := 149 }) s m ([.ref M.o] : List Value).toArray below meth c H locs 0 0 Q (F0 m 358 ls []) := by
    intro rec_274 hr_274 rec_286 hr_286 y_1 y_2 y_3 S H locs ls h hP hD hS hl
    rw [f_Mo_finds_358] at h
    obtain ⟨x_61, ex_61, h⟩ := lf_lX h
    refine lv_iinc (v := x_61) (lv' := [(3, .int x_61), (0, .ref M.o), (1, .int y_1), (2, .int y_2)]) hx hb d_Mo_finds_358 hl (k := 3) rfl (by rw [ex_61]; rfl) (by decide) rfl (fun ls hl => ?_)
    refine lv_goto (tgt := 286) hx hb d_Mo_finds_361 (by decide) ?_
    exact hr_286 y_1 y_2 x_61 S _ _ _ h hP hD hS (lv_sub hl [1, 2, 3, 0] rfl)
  have hB_364 : ∀ (rec_274 : Int32 → Int32 → MS → Option (Int32 × MS)) (hr_274 : ∀ (y_1 : Int32) (y_2 : Int32) (S : MS) (H : Heap) (locs : List Loc) (ls : Array Slot), rec_274 y_1 y_2 S = some (r, S') → va_P (dC, dI) classes (wM M S) H → va_D A (wM M S) → va_S A s.heap H locs → lv_has ls 5 [(0, .ref M.o), (1, .int y_1), (2, .int y_2)] → W p l e ({ frames := 7, cells := 0, slots := 0, locals := 149 }) s m ([.ref M.o] : List Value).toArray below meth c H locs 0 0 Q (F0 m 274 ls [])), ∀ (y_1 : Int32) (y_2 : Int32) (S : MS) (H : Heap) (locs : List Loc) (ls : Array Slot), f_Mo_finds_364 K rec_274 y_1 y_2 S = some (r, S') → va_P (dC, dI) classes (wM M S) H → va_D A (wM M S) → va_S A s.heap H locs → lv_has ls 5 [(0, .ref M.o), (1, .int y_1), (2, .int y_2)] → W p l e ({ frames := 7, cells := 0, slots := 0, locals := 149 }) s m ([.ref M.o] : List Value).toArray below meth c H locs 0 0 Q (F0 m 364 ls []) := by
    intro rec_274 hr_274 y_1 y_2 S H locs ls h hP hD hS hl
    rw [f_Mo_finds_364] at h
    obtain ⟨x_60, ex_60, h⟩ := lf_lX h
    refine lv_iinc (v := x_60) (lv' := [(2, .int x_60), (0, .ref M.o), (1, .int y_1)]) hx hb d_Mo_finds_364 hl (k := 2) rfl (by rw [ex_60]; rfl) (by decide) rfl (fun ls hl => ?_)
    refine lv_goto (tgt := 274) hx hb d_Mo_finds_367 (by decide) ?_
    exact hr_274 y_1 x_60 S _ _ _ h hP hD hS (lv_sub hl [1, 2, 0] rfl)
  have hB_286 : ∀ (rec_274 : Int32 → Int32 → MS → Option (Int32 × MS)) (hr_274 : ∀ (y_1 : Int32) (y_2 : Int32) (S : MS) (H : Heap) (locs : List Loc) (ls : Array Slot), rec_274 y_1 y_2 S = some (r, S') → va_P (dC, dI) classes (wM M S) H → va_D A (wM M S) → va_S A s.heap H locs → lv_has ls 5 [(0, .ref M.o), (1, .int y_1), (2, .int y_2)] → W p l e ({ frames := 7, cells := 0, slots := 0, locals := 149 }) s m ([.ref M.o] : List Value).toArray below meth c H locs 0 0 Q (F0 m 274 ls [])) (k : Nat), ∀ (y_1 : Int32) (y_2 : Int32) (y_3 : Int32) (S : MS) (H : Heap) (locs : List Loc) (ls : Array Slot), f_Mo_finds_286 K rec_274 k y_1 y_2 y_3 S = some (r, S') → va_P (dC, dI) classes (wM M S) H → va_D A (wM M S) → va_S A s.heap H locs → lv_has ls 5 [(0, .ref M.o), (1, .int y_1), (2, .int y_2), (3, .int y_3)] → W p l e ({ frames := 7, cells := 0, slots := 0, locals := 149 }) s m ([.ref M.o] : List Value).toArray below meth c H locs 0 0 Q (F0 m 286 ls []) := by
    intro rec_274 hr_274 k
    induction k with
    | zero => intro y_1 y_2 y_3 S H locs ls h; exact lf_no h
    | succ k hr_286 =>
      intro y_1 y_2 y_3 S H locs ls h hP hD hS hl
      rw [f_Mo_finds_286] at h
      refine lv_iload_n hx hb d_Mo_finds_286 rfl (lv_at hl 3 rfl) ?_
      refine lv_aload_n hx hb d_Mo_finds_287 rfl (lv_at hl 0 rfl) ?_
      refine va_get (D := (dC, dI)) (ci := 12) (v := .int S.v_c) (C := R_Mo) (T := F_Mo) (N := 66) hx hb hts (fun w h => u_Mq_Mo w (i_Mo w h)) hown hK hP 0 rfl rfl 11 (by decide) (hts _ (u_Mq_Mo _ k_Mo_18)) (fun _ h9 => h9) rfl d_Mo_finds_288 ?_
      refine lv_iconst (v := 2) hx hb d_Mo_finds_291 (by decide) ?_
      refine lv_idiv hx hb d_Mo_finds_292 (by decide) ?_
      refine lv_icmp_ge (tgt := 364) hx hb d_Mo_finds_293 (by decide) (fun c_47 => ?_) (fun c_47 => ?_)
      · have h := lf_t h c_47
        exact hB_364 _ hr_274 y_1 y_2 S _ _ _ h hP hD hS (lv_sub hl [0, 1, 2] rfl)
      · have h := lf_f h c_47
        refine lv_aload_n hx hb d_Mo_finds_296 rfl (lv_at hl 0 rfl) ?_
        refine lv_iload_n hx hb d_Mo_finds_297 rfl (lv_at hl 2 rfl) ?_
        obtain ⟨r_48, S_48, hc_48, h⟩ := lf_cE h
        have hFc := lx_free hD hS hA
        refine va_calli (va_runV (As := [.int y_2]) (rest := []) ⟨hx, hb, hml, hown, hts⟩ (l_Mo_entry l dC dI X _ hc_48) (cwV 1 hts (gwV good_Mq (u_Mq_Mo _ k_Mo_110) (u_Mq_Mo _ k_Mo_111) (u_Mq_Mo _ k_Mo_480) (u_Mq_Mo _ k_Mo_0) (wcs (u_Mq_Mo _ k_Mo_112) (fun _ h => h))) rfl rfl rfl (by decide +kernel) ⟨Nat.le_of_ble_eq_true rfl, Nat.le_of_ble_eq_true rfl⟩) (pv_ofE (X.same _) (fun U z1 z2 => X.mono _ _ U hFc (hEw _ _ hS U z1 z2)) hP hK hD (va_recv hK hP (ci := 12) (q0 := 0) rfl rfl)) rfl rfl hl.1 rfl (lv_room (Nat.le_of_ble_eq_true rfl)) d_Mo_finds_298 ⟨by decide, by decide⟩) hS (fun q _ h => hFc q h) hFc (fun r_ u t H locs ht hvm hw hB hz1 hk1 hS => ?_)
        rw [hw]
        obtain ⟨hP, -, hD⟩ := hB
        rw [ht] at hP
        have hD := lx_dj hD hFc
        refine lv_if_ne (tgt := 364) hx hb d_Mo_finds_301 (by decide) (fun c_49 => ?_) (fun c_49 => ?_)
        · have h := lf_f h c_49
          exact hB_364 _ hr_274 y_1 y_2 S_48 _ _ _ h hP hD hS (lv_sub hl [0, 1, 2] rfl)
        · have h := lf_t h c_49
          refine lv_aload_n hx hb d_Mo_finds_304 rfl (lv_at hl 0 rfl) ?_
          refine va_get (D := (dC, dI)) (ci := 12) (v := .ref M.a_aimed) (C := R_Mo) (T := F_Mo) (N := 66) hx hb hts (fun w h => u_Mq_Mo w (i_Mo w h)) hown hK hP 0 rfl rfl 54 (by decide) (hts _ (u_Mq_Mo _ k_Mo_61)) (fun _ h9 => h9) rfl d_Mo_finds_305 ?_
          refine lv_iload_n hx hb d_Mo_finds_308 rfl (lv_at hl 2 rfl) ?_
          obtain ⟨g_50, h⟩ := lf_gE h
          refine va_iald hx hb hK hP 24 23 rfl rfl g_50 d_Mo_finds_309 ?_
          refine lv_if_ne (tgt := 364) hx hb d_Mo_finds_310 (by decide) (fun c_51 => ?_) (fun c_51 => ?_)
          · have h := lf_f h c_51
            exact hB_364 _ hr_274 y_1 y_2 S_48 _ _ _ h hP hD hS (lv_sub hl [0, 1, 2] rfl)
          · have h := lf_t h c_51
            refine lv_aload_n hx hb d_Mo_finds_313 rfl (lv_at hl 0 rfl) ?_
            refine va_get (D := (dC, dI)) (ci := 12) (v := .int S_48.v_a) (C := R_Mo) (T := F_Mo) (N := 66) hx hb hts (fun w h => u_Mq_Mo w (i_Mo w h)) hown hK hP 0 rfl rfl 16 (by decide) (hts _ (u_Mq_Mo _ k_Mo_23)) (fun _ h9 => h9) rfl d_Mo_finds_314 ?_
            refine lv_iconst (v := 2) hx hb d_Mo_finds_317 (by decide) ?_
            refine lv_idiv hx hb d_Mo_finds_318 (by decide) ?_
            refine lv_iload_n hx hb d_Mo_finds_319 rfl (lv_at hl 2 rfl) ?_
            refine lv_iconst (v := 2) hx hb d_Mo_finds_320 (by decide) ?_
            refine lv_isub hx hb d_Mo_finds_321 ?_
            refine lv_aload_n hx hb d_Mo_finds_322 rfl (lv_at hl 0 rfl) ?_
            refine va_get (D := (dC, dI)) (ci := 12) (v := .int S_48.v_c) (C := R_Mo) (T := F_Mo) (N := 66) hx hb hts (fun w h => u_Mq_Mo w (i_Mo w h)) hown hK hP 0 rfl rfl 11 (by decide) (hts _ (u_Mq_Mo _ k_Mo_18)) (fun _ h9 => h9) rfl d_Mo_finds_323 ?_
            refine lv_iconst (v := 2) hx hb d_Mo_finds_326 (by decide) ?_
            refine lv_idiv hx hb d_Mo_finds_327 (by decide) ?_
            refine lv_imul hx hb d_Mo_finds_328 ?_
            refine lv_iadd hx hb d_Mo_finds_329 ?_
            refine lv_iload_n hx hb d_Mo_finds_330 rfl (lv_at hl 3 rfl) ?_
            refine lv_iadd hx hb d_Mo_finds_331 ?_
            refine lv_topi (fun x_52 ex_52 => ?_)
            have h := lf_lE h ex_52
            refine lv_istore (lv' := [(4, .int x_52), (0, .ref M.o), (1, .int y_1), (2, .int y_2), (3, .int y_3)]) hx hb d_Mo_finds_332 hl (by decide) rfl (fun ls hl => ?_)
            refine lv_aload_n hx hb d_Mo_finds_334 rfl (lv_at hl 1 rfl) ?_
            refine va_get (D := (dC, dI)) (ci := 12) (v := .ref M.a_fixed) (C := R_Mo) (T := F_Mo) (N := 66) hx hb hts (fun w h => u_Mq_Mo w (i_Mo w h)) hown hK hP 0 rfl rfl 51 (by decide) (hts _ (u_Mq_Mo _ k_Mo_58)) (fun _ h9 => h9) rfl d_Mo_finds_335 ?_
            refine lv_iload hx hb d_Mo_finds_338 (lv_at hl 0 rfl) ?_
            obtain ⟨g_53, h⟩ := lf_gE h
            refine va_zald hx hb hK hP 21 20 rfl rfl g_53 d_Mo_finds_340 ?_
            refine lv_if_eq (tgt := 347) hx hb d_Mo_finds_341 (by decide) (fun c_54 => ?_) (fun c_54 => ?_)
            · have h := lf_t h c_54
              refine lv_aload_n hx hb d_Mo_finds_347 rfl (lv_at hl 1 rfl) ?_
              refine va_get (D := (dC, dI)) (ci := 12) (v := .ref M.a_built) (C := R_Mo) (T := F_Mo) (N := 66) hx hb hts (fun w h => u_Mq_Mo w (i_Mo w h)) hown hK hP 0 rfl rfl 55 (by decide) (hts _ (u_Mq_Mo _ k_Mo_62)) (fun _ h9 => h9) rfl d_Mo_finds_348 ?_
              refine lv_iload_n hx hb d_Mo_finds_351 rfl (lv_at hl 2 rfl) ?_
              refine lv_iload hx hb d_Mo_finds_352 (lv_at hl 0 rfl) ?_
              obtain ⟨g_55, h⟩ := lf_gE h
              refine va_iast hx hb hK hP hD hS 25 24 rfl rfl g_55 d_Mo_finds_354 (fun H locs hP hD hS => ?_)
              obtain ⟨S_56, eS_56, h⟩ := lf_lX h
              have hP := lx_newP eS_56 hP
              have hD := lx_newD eS_56 hD
              obtain ⟨x_57, ex_57, h⟩ := lf_lX h
              refine lv_iinc (v := x_57) (lv' := [(1, .int x_57), (4, .int x_52), (0, .ref M.o), (2, .int y_2), (3, .int y_3)]) hx hb d_Mo_finds_355 hl (k := 2) rfl (by rw [ex_57]; rfl) (by decide) rfl (fun ls hl => ?_)
              exact hB_358 _ hr_274 _ hr_286 x_57 y_2 y_3 S_56 _ _ _ h hP hD hS (lv_sub hl [2, 0, 3, 4] rfl)
            · have h := lf_f h c_54
              refine lv_goto (tgt := 358) hx hb d_Mo_finds_344 (by decide) ?_
              exact hB_358 _ hr_274 _ hr_286 y_1 y_2 y_3 S_48 _ _ _ h hP hD hS (lv_sub hl [1, 2, 3, 4] rfl)
  have hB_274 : ∀ (k : Nat), ∀ (y_1 : Int32) (y_2 : Int32) (S : MS) (H : Heap) (locs : List Loc) (ls : Array Slot), f_Mo_finds_274 K k y_1 y_2 S = some (r, S') → va_P (dC, dI) classes (wM M S) H → va_D A (wM M S) → va_S A s.heap H locs → lv_has ls 5 [(0, .ref M.o), (1, .int y_1), (2, .int y_2)] → W p l e ({ frames := 7, cells := 0, slots := 0, locals := 149 }) s m ([.ref M.o] : List Value).toArray below meth c H locs 0 0 Q (F0 m 274 ls []) := by
    intro k
    induction k with
    | zero => intro y_1 y_2 S H locs ls h; exact lf_no h
    | succ k hr_274 =>
      intro y_1 y_2 S H locs ls h hP hD hS hl
      rw [f_Mo_finds_274] at h
      refine lv_iload_n hx hb d_Mo_finds_274 rfl (lv_at hl 2 rfl) ?_
      refine lv_aload_n hx hb d_Mo_finds_275 rfl (lv_at hl 0 rfl) ?_
      refine va_get (D := (dC, dI)) (ci := 12) (v := .int S.v_k) (C := R_Mo) (T := F_Mo) (N := 66) hx hb hts (fun w h => u_Mq_Mo w (i_Mo w h)) hown hK hP 0 rfl rfl 17 (by decide) (hts _ (u_Mq_Mo _ k_Mo_24)) (fun _ h9 => h9) rfl d_Mo_finds_276 ?_
      refine lv_iconst (v := 2) hx hb d_Mo_finds_279 (by decide) ?_
      refine lv_iadd hx hb d_Mo_finds_280 ?_
      refine lv_icmp_ge (tgt := 370) hx hb d_Mo_finds_281 (by decide) (fun c_33 => ?_) (fun c_33 => ?_)
      · have h := lf_t h c_33
        refine lv_aload_n hx hb d_Mo_finds_370 rfl (lv_at hl 0 rfl) ?_
        refine va_get (D := (dC, dI)) (ci := 12) (v := .int S.v_builds) (C := R_Mo) (T := F_Mo) (N := 66) hx hb hts (fun w h => u_Mq_Mo w (i_Mo w h)) hown hK hP 0 rfl rfl 58 (by decide) (hts _ (u_Mq_Mo _ k_Mo_65)) (fun _ h9 => h9) rfl d_Mo_finds_371 ?_
        refine lv_iload_n hx hb d_Mo_finds_374 rfl (lv_at hl 1 rfl) ?_
        refine lv_icmp_gt (tgt := 382) hx hb d_Mo_finds_375 (by decide) (fun c_34 => ?_) (fun c_34 => ?_)
        · have h := lf_t h c_34
          refine lv_iconst (v := 0) hx hb d_Mo_finds_382 (by decide) ?_
          rw [hQ]
          have e1 : (0 : Int32) = r := congrArg Prod.fst (Option.some.inj h)
          have e2 : S = S' := congrArg Prod.snd (Option.some.inj h)
          have hP := lx_newP e2.symm hP
          have hD := lx_newD e2.symm hD
          exact W.zret (v := 0) hx hb hr rfl (fun t ht hW => ⟨⟨0, (), rfl, e1, by rw [ht]; exact hP, va_K.moved hW.alike hK, hD⟩, hS.F ht⟩) hS.2.2 d_Mo_finds_383
        · have h := lf_f h c_34
          refine lv_iconst (v := 1) hx hb d_Mo_finds_378 (by decide) ?_
          refine lv_goto (tgt := 383) hx hb d_Mo_finds_379 (by decide) ?_
          rw [hQ]
          have e1 : (1 : Int32) = r := congrArg Prod.fst (Option.some.inj h)
          have e2 : S = S' := congrArg Prod.snd (Option.some.inj h)
          have hP := lx_newP e2.symm hP
          have hD := lx_newD e2.symm hD
          exact W.zret (v := 1) hx hb hr rfl (fun t ht hW => ⟨⟨1, (), rfl, e1, by rw [ht]; exact hP, va_K.moved hW.alike hK, hD⟩, hS.F ht⟩) hS.2.2 d_Mo_finds_383
      · have h := lf_f h c_33
        refine lv_iconst (v := 0) hx hb d_Mo_finds_284 (by decide) ?_
        refine lv_istore_n (lv' := [(3, .int 0), (0, .ref M.o), (1, .int y_1), (2, .int y_2)]) hx hb d_Mo_finds_285 rfl hl (by decide) rfl (fun ls hl => ?_)
        exact hB_286 _ hr_274 K y_1 y_2 0 S _ _ _ h hP hD hS (lv_sub hl [1, 2, 3, 0] rfl)
  have hB_177 : ∀ (k : Nat), ∀ (y_1 : Int32) (S : MS) (H : Heap) (locs : List Loc) (ls : Array Slot), f_Mo_finds_177 K k y_1 S = some (r, S') → va_P (dC, dI) classes (wM M S) H → va_D A (wM M S) → va_S A s.heap H locs → lv_has ls 5 [(0, .ref M.o), (1, .int y_1)] → W p l e ({ frames := 7, cells := 0, slots := 0, locals := 149 }) s m ([.ref M.o] : List Value).toArray below meth c H locs 0 0 Q (F0 m 177 ls []) := by
    intro k
    induction k with
    | zero => intro y_1 S H locs ls h; exact lf_no h
    | succ k hr_177 =>
      intro y_1 S H locs ls h hP hD hS hl
      rw [f_Mo_finds_177] at h
      refine lv_iload_n hx hb d_Mo_finds_177 rfl (lv_at hl 1 rfl) ?_
      refine lv_aload_n hx hb d_Mo_finds_178 rfl (lv_at hl 0 rfl) ?_
      refine va_get (D := (dC, dI)) (ci := 12) (v := .int S.v_items) (C := R_Mo) (T := F_Mo) (N := 66) hx hb hts (fun w h => u_Mq_Mo w (i_Mo w h)) hown hK hP 0 rfl rfl 21 (by decide) (hts _ (u_Mq_Mo _ k_Mo_28)) (fun _ h9 => h9) rfl d_Mo_finds_179 ?_
      refine lv_icmp_ge (tgt := 270) hx hb d_Mo_finds_182 (by decide) (fun c_17 => ?_) (fun c_17 => ?_)
      · have h := lf_t h c_17
        refine lv_iconst (v := 0) hx hb d_Mo_finds_270 (by decide) ?_
        refine lv_istore_n (lv' := [(1, .int 0), (0, .ref M.o)]) hx hb d_Mo_finds_271 rfl hl (by decide) rfl (fun ls hl => ?_)
        refine lv_iconst (v := 2) hx hb d_Mo_finds_272 (by decide) ?_
        refine lv_istore_n (lv' := [(2, .int 2), (1, .int 0), (0, .ref M.o)]) hx hb d_Mo_finds_273 rfl hl (by decide) rfl (fun ls hl => ?_)
        exact hB_274 K 0 2 S _ _ _ h hP hD hS (lv_sub hl [2, 1, 0] rfl)
      · have h := lf_f h c_17
        refine lv_aload_n hx hb d_Mo_finds_185 rfl (lv_at hl 0 rfl) ?_
        refine lv_dup hx hb d_Mo_finds_186 rfl ?_
        refine va_get (D := (dC, dI)) (ci := 12) (v := .int S.v_builds) (C := R_Mo) (T := F_Mo) (N := 66) hx hb hts (fun w h => u_Mq_Mo w (i_Mo w h)) hown hK hP 0 rfl rfl 58 (by decide) (hts _ (u_Mq_Mo _ k_Mo_65)) (fun _ h9 => h9) rfl d_Mo_finds_187 ?_
        refine lv_aload_n hx hb d_Mo_finds_190 rfl (lv_at hl 0 rfl) ?_
        refine lv_iload_n hx hb d_Mo_finds_191 rfl (lv_at hl 1 rfl) ?_
        obtain ⟨r_18, S_18, hc_18, h⟩ := lf_cE h
        have hFc := lx_free hD hS hA
        refine va_calli (va_runV (As := [.int y_1]) (rest := [.int S.v_builds, .ref M.o]) ⟨hx, hb, hml, hown, hts⟩ (l_Mo_isFolder l dC dI X _ hc_18) (cwV 1 hts (gwV good_Mq (u_Mq_Mo _ k_Mo_118) (u_Mq_Mo _ k_Mo_119) (u_Mq_Mo _ k_Mo_489) (u_Mq_Mo _ k_Mo_0) (wcs (u_Mq_Mo _ k_Mo_120) (fun _ h => h))) rfl rfl rfl (by decide +kernel) ⟨Nat.le_of_ble_eq_true rfl, Nat.le_of_ble_eq_true rfl⟩) (pv_ofE (X.same _) (fun U z1 z2 => X.mono _ _ U hFc (hEw _ _ hS U z1 z2)) hP hK hD (va_recv hK hP (ci := 12) (q0 := 0) rfl rfl)) rfl rfl hl.1 rfl (lv_room (Nat.le_of_ble_eq_true rfl)) d_Mo_finds_192 ⟨by decide, by decide⟩) hS (fun q _ h => hFc q h) hFc (fun r_ u t H locs ht hvm hw hB hz1 hk1 hS => ?_)
        rw [hw]
        obtain ⟨hP, -, hD⟩ := hB
        rw [ht] at hP
        have hD := lx_dj hD hFc
        refine lv_if_eq (tgt := 215) hx hb d_Mo_finds_195 (by decide) (fun c_19 => ?_) (fun c_19 => ?_)
        · have h := lf_t h c_19
          refine lv_aload_n hx hb d_Mo_finds_215 rfl (lv_at hl 0 rfl) ?_
          refine lv_iload_n hx hb d_Mo_finds_216 rfl (lv_at hl 1 rfl) ?_
          obtain ⟨r_20, S_20, hc_20, h⟩ := lf_cE h
          have hFc := lx_free hD hS hA
          refine va_calli (va_runV (As := [.int y_1]) (rest := [.int S.v_builds, .ref M.o]) ⟨hx, hb, hml, hown, hts⟩ (l_Mo_fileBlocks l dC dI X _ hc_20) (cwV 1 hts (gwV good_Mq (u_Mq_Mo _ k_Mo_397) (u_Mq_Mo _ k_Mo_398) (u_Mq_Mo _ k_Mo_528) (u_Mq_Mo _ k_Mo_0) (wcs (u_Mq_Mo _ k_Mo_399) (fun _ h => h))) rfl rfl rfl (by decide +kernel) ⟨Nat.le_of_ble_eq_true rfl, Nat.le_of_ble_eq_true rfl⟩) (pv_ofE (X.same _) (fun U z1 z2 => X.mono _ _ U hFc (hEw _ _ hS U z1 z2)) hP hK hD (va_recv hK hP (ci := 12) (q0 := 0) rfl rfl)) rfl rfl hl.1 rfl (lv_room (Nat.le_of_ble_eq_true rfl)) d_Mo_finds_217 ⟨by decide, by decide⟩) hS (fun q _ h => hFc q h) hFc (fun r_ u t H locs ht hvm hw hB hz1 hk1 hS => ?_)
          rw [hw]
          obtain ⟨hP, -, hD⟩ := hB
          rw [ht] at hP
          have hD := lx_dj hD hFc
          obtain ⟨r_21, hc_21, h⟩ := lf_bE h
          have hFc := lx_free0 hS hA
          refine va_calli (va_runS (As := [.int r_20]) (rest := [.int S.v_builds, .ref M.o]) ⟨hx, hb, hml, hown, hts⟩ (l_Mo_indirect l dC dI  _ hc_21) (va_cwS 1 hts (gwS good_Mq (u_Mq_Mo _ k_Mo_394) (u_Mq_Mo _ k_Mo_395) (u_Mq_Mo _ k_Mo_0) (wcs (u_Mq_Mo _ k_Mo_396) (fun _ h => h))) rfl rfl rfl (by decide +kernel) ⟨Nat.le_of_ble_eq_true rfl, Nat.le_of_ble_eq_true rfl⟩) (ps_of (W := []) (tys := []) (hP.sub (ws' := []) [] rfl) (hK.sub [] rfl) (hD.sub (ws' := []) [] (by decide) rfl)) rfl rfl hl.1 rfl (lv_room (Nat.le_of_ble_eq_true rfl)) d_Mo_finds_220 ⟨by decide, by decide⟩) hS (fun q _ h => hFc q h) hFc (fun r_ u t H locs ht hvm hw hB hz1 hk1 hS => ?_)
          rw [hw]
          have hP := lx_stat (A := A) hP hk1
          exact hB_223 _ hr_177 y_1 S.v_builds r_21 S_20 _ _ _ h hP hD hS (lv_sub hl [0, 1] rfl)
        · have h := lf_f h c_19
          refine lv_aload_n hx hb d_Mo_finds_198 rfl (lv_at hl 0 rfl) ?_
          refine lv_iload_n hx hb d_Mo_finds_199 rfl (lv_at hl 1 rfl) ?_
          obtain ⟨r_22, S_22, hc_22, h⟩ := lf_cE h
          have hFc := lx_free hD hS hA
          refine va_calli (va_runV (As := [.int y_1]) (rest := [.int S.v_builds, .ref M.o]) ⟨hx, hb, hml, hown, hts⟩ (l_Mo_folderBlocks l dC dI X _ hc_22) (cwV 1 hts (gwV good_Mq (u_Mq_Mo _ k_Mo_289) (u_Mq_Mo _ k_Mo_290) (u_Mq_Mo _ k_Mo_525) (u_Mq_Mo _ k_Mo_0) (wcs (u_Mq_Mo _ k_Mo_291) (fun _ h => h))) rfl rfl rfl (by decide +kernel) ⟨Nat.le_of_ble_eq_true rfl, Nat.le_of_ble_eq_true rfl⟩) (pv_ofE (X.same _) (fun U z1 z2 => X.mono _ _ U hFc (hEw _ _ hS U z1 z2)) hP hK hD (va_recv hK hP (ci := 12) (q0 := 0) rfl rfl)) rfl rfl hl.1 rfl (lv_room (Nat.le_of_ble_eq_true rfl)) d_Mo_finds_200 ⟨by decide, by decide⟩) hS (fun q _ h => hFc q h) hFc (fun r_ u t H locs ht hvm hw hB hz1 hk1 hS => ?_)
          rw [hw]
          obtain ⟨hP, -, hD⟩ := hB
          rw [ht] at hP
          have hD := lx_dj hD hFc
          refine lv_aload_n hx hb d_Mo_finds_203 rfl (lv_at hl 0 rfl) ?_
          refine lv_iload_n hx hb d_Mo_finds_204 rfl (lv_at hl 1 rfl) ?_
          obtain ⟨r_23, S_23, hc_23, h⟩ := lf_cE h
          have hFc := lx_free hD hS hA
          refine va_calli (va_runV (As := [.int y_1]) (rest := [.int r_22, .int S.v_builds, .ref M.o]) ⟨hx, hb, hml, hown, hts⟩ (l_Mo_folderBlocks l dC dI X _ hc_23) (cwV 1 hts (gwV good_Mq (u_Mq_Mo _ k_Mo_289) (u_Mq_Mo _ k_Mo_290) (u_Mq_Mo _ k_Mo_525) (u_Mq_Mo _ k_Mo_0) (wcs (u_Mq_Mo _ k_Mo_291) (fun _ h => h))) rfl rfl rfl (by decide +kernel) ⟨Nat.le_of_ble_eq_true rfl, Nat.le_of_ble_eq_true rfl⟩) (pv_ofE (X.same _) (fun U z1 z2 => X.mono _ _ U hFc (hEw _ _ hS U z1 z2)) hP hK hD (va_recv hK hP (ci := 12) (q0 := 0) rfl rfl)) rfl rfl hl.1 rfl (lv_room (Nat.le_of_ble_eq_true rfl)) d_Mo_finds_205 ⟨by decide, by decide⟩) hS (fun q _ h => hFc q h) hFc (fun r_ u t H locs ht hvm hw hB hz1 hk1 hS => ?_)
          rw [hw]
          obtain ⟨hP, -, hD⟩ := hB
          rw [ht] at hP
          have hD := lx_dj hD hFc
          obtain ⟨r_24, hc_24, h⟩ := lf_bE h
          have hFc := lx_free0 hS hA
          refine va_calli (va_runS (As := [.int r_23]) (rest := [.int r_22, .int S.v_builds, .ref M.o]) ⟨hx, hb, hml, hown, hts⟩ (l_Mo_indirect l dC dI  _ hc_24) (va_cwS 1 hts (gwS good_Mq (u_Mq_Mo _ k_Mo_394) (u_Mq_Mo _ k_Mo_395) (u_Mq_Mo _ k_Mo_0) (wcs (u_Mq_Mo _ k_Mo_396) (fun _ h => h))) rfl rfl rfl (by decide +kernel) ⟨Nat.le_of_ble_eq_true rfl, Nat.le_of_ble_eq_true rfl⟩) (ps_of (W := []) (tys := []) (hP.sub (ws' := []) [] rfl) (hK.sub [] rfl) (hD.sub (ws' := []) [] (by decide) rfl)) rfl rfl hl.1 rfl (lv_room (Nat.le_of_ble_eq_true rfl)) d_Mo_finds_208 ⟨by decide, by decide⟩) hS (fun q _ h => hFc q h) hFc (fun r_ u t H locs ht hvm hw hB hz1 hk1 hS => ?_)
          rw [hw]
          have hP := lx_stat (A := A) hP hk1
          refine lv_iadd hx hb d_Mo_finds_211 ?_
          refine lv_goto (tgt := 223) hx hb d_Mo_finds_212 (by decide) ?_
          exact hB_223 _ hr_177 y_1 S.v_builds (r_22 + r_24) S_23 _ _ _ h hP hD hS (lv_sub hl [0, 1] rfl)
  have hB_36 : ∀ (k : Nat), ∀ (y_1 : Int32) (S : MS) (H : Heap) (locs : List Loc) (ls : Array Slot), f_Mo_finds_36 K k y_1 S = some (r, S') → va_P (dC, dI) classes (wM M S) H → va_D A (wM M S) → va_S A s.heap H locs → lv_has ls 5 [(0, .ref M.o), (1, .int y_1)] → W p l e ({ frames := 7, cells := 0, slots := 0, locals := 149 }) s m ([.ref M.o] : List Value).toArray below meth c H locs 0 0 Q (F0 m 36 ls []) := by
    intro k
    induction k with
    | zero => intro y_1 S H locs ls h; exact lf_no h
    | succ k hr_36 =>
      intro y_1 S H locs ls h hP hD hS hl
      rw [f_Mo_finds_36] at h
      refine lv_iload_n hx hb d_Mo_finds_36 rfl (lv_at hl 1 rfl) ?_
      refine lv_aload_n hx hb d_Mo_finds_37 rfl (lv_at hl 0 rfl) ?_
      refine va_get (D := (dC, dI)) (ci := 12) (v := .int S.v_k) (C := R_Mo) (T := F_Mo) (N := 66) hx hb hts (fun w h => u_Mq_Mo w (i_Mo w h)) hown hK hP 0 rfl rfl 17 (by decide) (hts _ (u_Mq_Mo _ k_Mo_24)) (fun _ h9 => h9) rfl d_Mo_finds_38 ?_
      refine lv_iconst (v := 2) hx hb d_Mo_finds_41 (by decide) ?_
      refine lv_iadd hx hb d_Mo_finds_42 ?_
      refine lv_icmp_ge (tgt := 150) hx hb d_Mo_finds_43 (by decide) (fun c_8 => ?_) (fun c_8 => ?_)
      · have h := lf_t h c_8
        refine lv_aload_n hx hb d_Mo_finds_150 rfl (lv_at hl 0 rfl) ?_
        refine lv_iconst (v := 3) hx hb d_Mo_finds_151 (by decide) ?_
        refine lv_aload_n hx hb d_Mo_finds_152 rfl (lv_at hl 0 rfl) ?_
        obtain ⟨r_9, S_9, hc_9, h⟩ := lf_cE h
        have hFc := lx_free hD hS hA
        refine va_calli (va_runV (As := []) (rest := [.int 3, .ref M.o]) ⟨hx, hb, hml, hown, hts⟩ (l_Mo_recordBlocks l dC dI X _ hc_9) (cwV 0 hts (gwV good_Mq (u_Mq_Mo _ k_Mo_269) (u_Mq_Mo _ k_Mo_270) (u_Mq_Mo _ k_Mo_527) (u_Mq_Mo _ k_Mo_0) (wcs (u_Mq_Mo _ k_Mo_271) (fun _ h => h))) rfl rfl rfl (by decide +kernel) ⟨Nat.le_of_ble_eq_true rfl, Nat.le_of_ble_eq_true rfl⟩) (pv_ofE (X.same _) (fun U z1 z2 => X.mono _ _ U hFc (hEw _ _ hS U z1 z2)) hP hK hD (va_recv hK hP (ci := 12) (q0 := 0) rfl rfl)) rfl rfl hl.1 rfl (lv_room (Nat.le_of_ble_eq_true rfl)) d_Mo_finds_153 ⟨by decide, by decide⟩) hS (fun q _ h => hFc q h) hFc (fun r_ u t H locs ht hvm hw hB hz1 hk1 hS => ?_)
        rw [hw]
        obtain ⟨hP, -, hD⟩ := hB
        rw [ht] at hP
        have hD := lx_dj hD hFc
        obtain ⟨r_10, hc_10, h⟩ := lf_bE h
        have hFc := lx_free0 hS hA
        refine va_calli (va_runS (As := [.int r_9]) (rest := [.int 3, .ref M.o]) ⟨hx, hb, hml, hown, hts⟩ (l_Mo_indirect l dC dI  _ hc_10) (va_cwS 1 hts (gwS good_Mq (u_Mq_Mo _ k_Mo_394) (u_Mq_Mo _ k_Mo_395) (u_Mq_Mo _ k_Mo_0) (wcs (u_Mq_Mo _ k_Mo_396) (fun _ h => h))) rfl rfl rfl (by decide +kernel) ⟨Nat.le_of_ble_eq_true rfl, Nat.le_of_ble_eq_true rfl⟩) (ps_of (W := []) (tys := []) (hP.sub (ws' := []) [] rfl) (hK.sub [] rfl) (hD.sub (ws' := []) [] (by decide) rfl)) rfl rfl hl.1 rfl (lv_room (Nat.le_of_ble_eq_true rfl)) d_Mo_finds_156 ⟨by decide, by decide⟩) hS (fun q _ h => hFc q h) hFc (fun r_ u t H locs ht hvm hw hB hz1 hk1 hS => ?_)
        rw [hw]
        have hP := lx_stat (A := A) hP hk1
        refine lv_iadd hx hb d_Mo_finds_159 ?_
        refine va_put (D := (dC, dI)) (ci := 12) (v := .int (3 + r_10)) (ty := .int) (C := R_Mo) (T := F_Mo) (N := 66) hx hb hts (fun w h => u_Mq_Mo w (i_Mo w h)) t_Mo t_Mo_ok n_Mo hown hK hP hD hS 0 rfl rfl 58 (by decide) (hts _ (u_Mq_Mo _ k_Mo_65)) (fun _ h9 => h9) rfl (by decide +kernel) rfl rfl (Nat.le_of_ble_eq_true rfl) d_Mo_finds_160 (fun H locs hP hD hS => ?_)
        obtain ⟨S_11, eS_11, h⟩ := lf_lX h
        have hP := lx_newP eS_11 hP
        have hD := lx_newD eS_11 hD
        refine lv_aload_n hx hb d_Mo_finds_163 rfl (lv_at hl 0 rfl) ?_
        refine lv_aload_n hx hb d_Mo_finds_164 rfl (lv_at hl 0 rfl) ?_
        refine va_get (D := (dC, dI)) (ci := 12) (v := .int S_11.v_a) (C := R_Mo) (T := F_Mo) (N := 66) hx hb hts (fun w h => u_Mq_Mo w (i_Mo w h)) hown hK hP 0 rfl rfl 16 (by decide) (hts _ (u_Mq_Mo _ k_Mo_23)) (fun _ h9 => h9) rfl d_Mo_finds_165 ?_
        refine lv_iconst (v := 2) hx hb d_Mo_finds_168 (by decide) ?_
        refine lv_idiv hx hb d_Mo_finds_169 (by decide) ?_
        refine lv_iconst (v := 3) hx hb d_Mo_finds_170 (by decide) ?_
        refine lv_isub hx hb d_Mo_finds_171 ?_
        refine va_put (D := (dC, dI)) (ci := 12) (v := .int ((S_11.v_a / 2) - 3)) (ty := .int) (C := R_Mo) (T := F_Mo) (N := 66) hx hb hts (fun w h => u_Mq_Mo w (i_Mo w h)) t_Mo t_Mo_ok n_Mo hown hK hP hD hS 0 rfl rfl 59 (by decide) (hts _ (u_Mq_Mo _ k_Mo_66)) (fun _ h9 => h9) rfl (by decide +kernel) rfl rfl (Nat.le_of_ble_eq_true rfl) d_Mo_finds_172 (fun H locs hP hD hS => ?_)
        obtain ⟨S_12, eS_12, h⟩ := lf_lX h
        have hP := lx_newP eS_12 hP
        have hD := lx_newD eS_12 hD
        refine lv_iconst (v := 0) hx hb d_Mo_finds_175 (by decide) ?_
        refine lv_istore_n (lv' := [(1, .int 0), (0, .ref M.o)]) hx hb d_Mo_finds_176 rfl hl (by decide) rfl (fun ls hl => ?_)
        exact hB_177 K 0 S_12 _ _ _ h hP hD hS (lv_sub hl [1, 0] rfl)
      · have h := lf_f h c_8
        refine lv_aload_n hx hb d_Mo_finds_46 rfl (lv_at hl 0 rfl) ?_
        refine lv_iload_n hx hb d_Mo_finds_47 rfl (lv_at hl 1 rfl) ?_
        obtain ⟨r_13, S_13, hc_13, h⟩ := lf_cE h
        have hFc := lx_free hD hS hA
        refine va_calli (va_runV (As := [.int y_1]) (rest := []) ⟨hx, hb, hml, hown, hts⟩ (l_Mo_entry l dC dI X _ hc_13) (cwV 1 hts (gwV good_Mq (u_Mq_Mo _ k_Mo_110) (u_Mq_Mo _ k_Mo_111) (u_Mq_Mo _ k_Mo_480) (u_Mq_Mo _ k_Mo_0) (wcs (u_Mq_Mo _ k_Mo_112) (fun _ h => h))) rfl rfl rfl (by decide +kernel) ⟨Nat.le_of_ble_eq_true rfl, Nat.le_of_ble_eq_true rfl⟩) (pv_ofE (X.same _) (fun U z1 z2 => X.mono _ _ U hFc (hEw _ _ hS U z1 z2)) hP hK hD (va_recv hK hP (ci := 12) (q0 := 0) rfl rfl)) rfl rfl hl.1 rfl (lv_room (Nat.le_of_ble_eq_true rfl)) d_Mo_finds_48 ⟨by decide, by decide⟩) hS (fun q _ h => hFc q h) hFc (fun r_ u t H locs ht hvm hw hB hz1 hk1 hS => ?_)
        rw [hw]
        obtain ⟨hP, -, hD⟩ := hB
        rw [ht] at hP
        have hD := lx_dj hD hFc
        refine lv_if_eq (tgt := 144) hx hb d_Mo_finds_51 (by decide) (fun c_14 => ?_) (fun c_14 => ?_)
        · have h := lf_t h c_14
          exact hB_144 _ hr_36 y_1 S_13 _ _ _ h hP hD hS (lv_sub hl [0, 1] rfl)
        · have h := lf_f h c_14
          refine lv_aload_n hx hb d_Mo_finds_54 rfl (lv_at hl 0 rfl) ?_
          refine lv_iload_n hx hb d_Mo_finds_55 rfl (lv_at hl 1 rfl) ?_
          obtain ⟨r_15, S_15, hc_15, h⟩ := lf_cE h
          have hFc := lx_free hD hS hA
          refine va_calli (va_runV (As := [.int y_1]) (rest := []) ⟨hx, hb, hml, hown, hts⟩ (l_Mo_isFixed l dC dI X _ hc_15) (cwV 1 hts (gwV good_Mq (u_Mq_Mo _ k_Mo_391) (u_Mq_Mo _ k_Mo_392) (u_Mq_Mo _ k_Mo_533) (u_Mq_Mo _ k_Mo_0) (wcs (u_Mq_Mo _ k_Mo_393) (fun _ h => h))) rfl rfl rfl (by decide +kernel) ⟨Nat.le_of_ble_eq_true rfl, Nat.le_of_ble_eq_true rfl⟩) (pv_ofE (X.same _) (fun U z1 z2 => X.mono _ _ U hFc (hEw _ _ hS U z1 z2)) hP hK hD (va_recv hK hP (ci := 12) (q0 := 0) rfl rfl)) rfl rfl hl.1 rfl (lv_room (Nat.le_of_ble_eq_true rfl)) d_Mo_finds_56 ⟨by decide, by decide⟩) hS (fun q _ h => hFc q h) hFc (fun r_ u t H locs ht hvm hw hB hz1 hk1 hS => ?_)
          rw [hw]
          obtain ⟨hP, -, hD⟩ := hB
          rw [ht] at hP
          have hD := lx_dj hD hFc
          refine lv_if_ne (tgt := 65) hx hb d_Mo_finds_59 (by decide) (fun c_16 => ?_) (fun c_16 => ?_)
          · have h := lf_f h c_16
            refine lv_iconst (v := 2) hx hb d_Mo_finds_65 (by decide) ?_
            refine lv_istore_n (lv' := [(2, .int 2), (0, .ref M.o), (1, .int y_1)]) hx hb d_Mo_finds_66 rfl hl (by decide) rfl (fun ls hl => ?_)
            exact hB_67 _ hr_36 K y_1 2 S_15 _ _ _ h hP hD hS (lv_sub hl [1, 2, 0] rfl)
          · have h := lf_t h c_16
            refine lv_goto (tgt := 144) hx hb d_Mo_finds_62 (by decide) ?_
            exact hB_144 _ hr_36 y_1 S_15 _ _ _ h hP hD hS (lv_sub hl [0, 1] rfl)
  have hB_7 : ∀ (k : Nat), ∀ (y_1 : Int32) (S : MS) (H : Heap) (locs : List Loc) (ls : Array Slot), f_Mo_finds_7 K k y_1 S = some (r, S') → va_P (dC, dI) classes (wM M S) H → va_D A (wM M S) → va_S A s.heap H locs → lv_has ls 5 [(0, .ref M.o), (1, .int y_1)] → W p l e ({ frames := 7, cells := 0, slots := 0, locals := 149 }) s m ([.ref M.o] : List Value).toArray below meth c H locs 0 0 Q (F0 m 7 ls []) := by
    intro k
    induction k with
    | zero => intro y_1 S H locs ls h; exact lf_no h
    | succ k hr_7 =>
      intro y_1 S H locs ls h hP hD hS hl
      rw [f_Mo_finds_7] at h
      refine lv_iload_n hx hb d_Mo_finds_7 rfl (lv_at hl 1 rfl) ?_
      refine lv_sipush (v := 560) hx hb d_Mo_finds_8 (by decide) ?_
      refine lv_icmp_ge (tgt := 34) hx hb d_Mo_finds_11 (by decide) (fun c_2 => ?_) (fun c_2 => ?_)
      · have h := lf_t h c_2
        refine lv_iconst (v := 2) hx hb d_Mo_finds_34 (by decide) ?_
        refine lv_istore_n (lv' := [(1, .int 2), (0, .ref M.o)]) hx hb d_Mo_finds_35 rfl hl (by decide) rfl (fun ls hl => ?_)
        exact hB_36 K 2 S _ _ _ h hP hD hS (lv_sub hl [1, 0] rfl)
      · have h := lf_f h c_2
        refine lv_aload_n hx hb d_Mo_finds_14 rfl (lv_at hl 0 rfl) ?_
        refine va_get (D := (dC, dI)) (ci := 12) (v := .ref M.a_moved) (C := R_Mo) (T := F_Mo) (N := 66) hx hb hts (fun w h => u_Mq_Mo w (i_Mo w h)) hown hK hP 0 rfl rfl 53 (by decide) (hts _ (u_Mq_Mo _ k_Mo_60)) (fun _ h9 => h9) rfl d_Mo_finds_15 ?_
        refine lv_iload_n hx hb d_Mo_finds_18 rfl (lv_at hl 1 rfl) ?_
        refine lv_iconst (v := 0) hx hb d_Mo_finds_19 (by decide) ?_
        obtain ⟨g_3, h⟩ := lf_gE h
        refine va_iast hx hb hK hP hD hS 23 22 rfl rfl g_3 d_Mo_finds_20 (fun H locs hP hD hS => ?_)
        obtain ⟨S_4, eS_4, h⟩ := lf_lX h
        have hP := lx_newP eS_4 hP
        have hD := lx_newD eS_4 hD
        refine lv_aload_n hx hb d_Mo_finds_21 rfl (lv_at hl 0 rfl) ?_
        refine va_get (D := (dC, dI)) (ci := 12) (v := .ref M.a_aimed) (C := R_Mo) (T := F_Mo) (N := 66) hx hb hts (fun w h => u_Mq_Mo w (i_Mo w h)) hown hK hP 0 rfl rfl 54 (by decide) (hts _ (u_Mq_Mo _ k_Mo_61)) (fun _ h9 => h9) rfl d_Mo_finds_22 ?_
        refine lv_iload_n hx hb d_Mo_finds_25 rfl (lv_at hl 1 rfl) ?_
        refine lv_iconst (v := 0) hx hb d_Mo_finds_26 (by decide) ?_
        obtain ⟨g_5, h⟩ := lf_gE h
        refine va_iast hx hb hK hP hD hS 24 23 rfl rfl g_5 d_Mo_finds_27 (fun H locs hP hD hS => ?_)
        obtain ⟨S_6, eS_6, h⟩ := lf_lX h
        have hP := lx_newP eS_6 hP
        have hD := lx_newD eS_6 hD
        obtain ⟨x_7, ex_7, h⟩ := lf_lX h
        refine lv_iinc (v := x_7) (lv' := [(1, .int x_7), (0, .ref M.o)]) hx hb d_Mo_finds_28 hl (k := 1) rfl (by rw [ex_7]; rfl) (by decide) rfl (fun ls hl => ?_)
        refine lv_goto (tgt := 7) hx hb d_Mo_finds_31 (by decide) ?_
        exact hr_7 x_7 S_6 _ _ _ h hP hD hS (lv_sub hl [1, 0] rfl)
  rw [f_Mo_finds] at h
  refine lv_aload_n hx hb d_Mo_finds_0 rfl (lv_at hl 0 rfl) ?_
  refine lv_iconst (v := 0) hx hb d_Mo_finds_1 (by decide) ?_
  refine va_put (D := (dC, dI)) (ci := 12) (v := .int 0) (ty := .int) (C := R_Mo) (T := F_Mo) (N := 66) hx hb hts (fun w h => u_Mq_Mo w (i_Mo w h)) t_Mo t_Mo_ok n_Mo hown hK hP hD hS 0 rfl rfl 57 (by decide) (hts _ (u_Mq_Mo _ k_Mo_64)) (fun _ h9 => h9) rfl (by decide +kernel) rfl rfl (Nat.le_of_ble_eq_true rfl) d_Mo_finds_2 (fun H locs hP hD hS => ?_)
  obtain ⟨S_1, eS_1, h⟩ := lf_lX h
  have hP := lx_newP eS_1 hP
  have hD := lx_newD eS_1 hD
  refine lv_iconst (v := 0) hx hb d_Mo_finds_5 (by decide) ?_
  refine lv_istore_n (lv' := [(1, .int 0), (0, .ref M.o)]) hx hb d_Mo_finds_6 rfl hl (by decide) rfl (fun ls hl => ?_)
  exact hB_7 K 0 S_1 _ _ _ h hP hD hS (lv_sub hl [1, 0] rfl)
set_option maxHeartbeats 4000000 in
set_option maxRecDepth 100000 in
theorem l_Mo_refusal (l : Launch) (dC : Nat → ClassId) (dI : Nat → Nat → Nat) {K : Nat} {M : MA} {E : (Nat → Prop) → State → Prop} (X : lx_X l dC dI K M E) (sz : Nat) {S S' : MS} {p0 : Int32} {r : Int32} (h : f_Mo_refusal K S p0 = some (r, S')) : Met l y_Mo_refusal (.code y_Mo_refusal b_Mo_refusal 2 (some .int) :: V_Mq) ({ frames := 12, cells := 0, slots := 0, locals := 339 }) (va_Pc [.ref M.o, .int p0] (fun U => U.heap.size = sz ∧ at_ (dC, dI) (fun _ => True) (wM M S) (tM M) U ∧ E (va_A (wM M S) sz) U)) (va_Qi (fun (r_ : Int32) (u : Unit) => r_ = r) (fun (u : Unit) t => at_ (dC, dI) (va_A (wM M S) sz) (wM M S') (tM M) t) (va_A (wM M S) sz)) 0 0 (va_A (wM M S) sz) := by
  refine Met.ofW (cc := b_Mo_refusal) (maxL := 2) (ret := (some .int)) (by decide) rfl ?_
  intro p e s m args below meth c s₁ B hml hv
  obtain ⟨rfl, hsz, ⟨hP, hK, hD0⟩, hE⟩ := hv
  have hx := B.exec
  have hb := B.bytes
  have hr := B.returns
  have hts0 := atoms_spec (ws := .code y_Mo_refusal b_Mo_refusal 2 (some .int) :: V_Mq) B.pre
  have hts : ∀ w ∈ V_Mq, w.before ([.ref M.o, .int p0] : List Value).toArray s = true := fun w h => hts0 w (List.mem_cons_of_mem _ h)
  have hown : s.vm.findClass R_Mo = some m.cls := findClass_of_methodNamed B.named
  subst hsz
  have hD := hD0.self (sz := s.heap.size)
  generalize hAe : va_A (wM M S) s.heap.size = A at hD hE ⊢
  have hA : ∀ q : Nat, s.heap.size ≤ q → A q := fun q h => by rw [← hAe]; exact Or.inr h
  have hS : va_S A s.heap s.heap [] := va_S.rf
  have hP : va_P (dC, dI) classes (wM M S) s.heap := hP
  have hK : va_K (dC, dI) classes (tM M) s := hK
  have hEw : ∀ (H : Heap) (locs : List Loc), va_S A s.heap H locs → ∀ U : State, U.heap = H → s.WarmedH U.vm → E A U := fun H locs hS U hU hW => X.kept A s U H locs hE hS hU hW
  have hl := lv_entry ([.ref M.o, .int p0]) (n := 2) (Nat.le_of_ble_eq_true rfl)
  rw [lg_entry_eq]
  generalize (lg_sl ([.ref M.o, .int p0]) ++ List.replicate (2 - (lg_sl ([.ref M.o, .int p0])).length) Slot.unset).toArray = ls at hl ⊢
  have hl : lv_has ls 2 [(0, .ref M.o), (1, .int p0)] := hl
  refine qabs (fun Q hQ => ?_)
  have hB_52 : ∀ (y_1 : Int32) (S : MS) (H : Heap) (locs : List Loc) (ls : Array Slot), f_Mo_refusal_52 K y_1 S = some (r, S') → va_P (dC, dI) classes (wM M S) H → va_D A (wM M S) → va_S A s.heap H locs → lv_has ls 2 [(0, .ref M.o), (1, .int y_1)] → W p l e ({ frames := 12, cells := 0, slots := 0, locals := 339 }) s m ([.ref M.o, .int p0] : List Value).toArray below meth c H locs 0 0 Q (F0 m 52 ls []) := by
    intro y_1 S H locs ls h hP hD hS hl
    rw [f_Mo_refusal_52] at h
    refine lv_aload_n hx hb d_Mo_refusal_52 rfl (lv_at hl 0 rfl) ?_
    refine lv_iload_n hx hb d_Mo_refusal_53 rfl (lv_at hl 1 rfl) ?_
    refine va_put (D := (dC, dI)) (ci := 12) (v := .int y_1) (ty := .int) (C := R_Mo) (T := F_Mo) (N := 66) hx hb hts (fun w h => u_Mq_Mo w (i_Mo w h)) t_Mo t_Mo_ok n_Mo hown hK hP hD hS 0 rfl rfl 47 (by decide) (hts _ (u_Mq_Mo _ k_Mo_54)) (fun _ h9 => h9) rfl (by decide +kernel) rfl rfl (Nat.le_of_ble_eq_true rfl) d_Mo_refusal_54 (fun H locs hP hD hS => ?_)
    obtain ⟨S_7, eS_7, h⟩ := lf_lX h
    have hP := lx_newP eS_7 hP
    have hD := lx_newD eS_7 hD
    refine lv_aload_n hx hb d_Mo_refusal_57 rfl (lv_at hl 0 rfl) ?_
    refine lv_aload_n hx hb d_Mo_refusal_58 rfl (lv_at hl 0 rfl) ?_
    refine va_get (D := (dC, dI)) (ci := 12) (v := .int S_7.v_n) (C := R_Mo) (T := F_Mo) (N := 66) hx hb hts (fun w h => u_Mq_Mo w (i_Mo w h)) hown hK hP 0 rfl rfl 0 (by decide) (hts _ (u_Mq_Mo _ k_Mo_7)) (fun _ h9 => h9) rfl d_Mo_refusal_59 ?_
    refine lv_iconst (v := 2) hx hb d_Mo_refusal_62 (by decide) ?_
    refine lv_idiv hx hb d_Mo_refusal_63 (by decide) ?_
    refine va_put (D := (dC, dI)) (ci := 12) (v := .int (S_7.v_n / 2)) (ty := .int) (C := R_Mo) (T := F_Mo) (N := 66) hx hb hts (fun w h => u_Mq_Mo w (i_Mo w h)) t_Mo t_Mo_ok n_Mo hown hK hP hD hS 0 rfl rfl 50 (by decide) (hts _ (u_Mq_Mo _ k_Mo_57)) (fun _ h9 => h9) rfl (by decide +kernel) rfl rfl (Nat.le_of_ble_eq_true rfl) d_Mo_refusal_64 (fun H locs hP hD hS => ?_)
    obtain ⟨S_8, eS_8, h⟩ := lf_lX h
    have hP := lx_newP eS_8 hP
    have hD := lx_newD eS_8 hD
    refine lv_aload_n hx hb d_Mo_refusal_67 rfl (lv_at hl 0 rfl) ?_
    refine lv_aload_n hx hb d_Mo_refusal_68 rfl (lv_at hl 0 rfl) ?_
    refine va_get (D := (dC, dI)) (ci := 12) (v := .int S_8.v_blocks) (C := R_Mo) (T := F_Mo) (N := 66) hx hb hts (fun w h => u_Mq_Mo w (i_Mo w h)) hown hK hP 0 rfl rfl 50 (by decide) (hts _ (u_Mq_Mo _ k_Mo_57)) (fun _ h9 => h9) rfl d_Mo_refusal_69 ?_
    refine lv_iconst (v := 1) hx hb d_Mo_refusal_72 (by decide) ?_
    refine lv_isub hx hb d_Mo_refusal_73 ?_
    refine lv_aload_n hx hb d_Mo_refusal_74 rfl (lv_at hl 0 rfl) ?_
    refine va_get (D := (dC, dI)) (ci := 12) (v := .int S_8.v_per) (C := R_Mo) (T := F_Mo) (N := 66) hx hb hts (fun w h => u_Mq_Mo w (i_Mo w h)) hown hK hP 0 rfl rfl 47 (by decide) (hts _ (u_Mq_Mo _ k_Mo_54)) (fun _ h9 => h9) rfl d_Mo_refusal_75 ?_
    obtain ⟨r_9, hc_9, h⟩ := lf_bE h
    have hFc := lx_free0 hS hA
    refine va_calli (va_runS (As := [.int (S_8.v_blocks - 1), .int S_8.v_per]) (rest := [.ref M.o]) ⟨hx, hb, hml, hown, hts⟩ (l_Mo_whole l dC dI  _ hc_9) (va_cwS 2 hts (gwS good_Mq (u_Mq_Mo _ k_Mo_178) (u_Mq_Mo _ k_Mo_179) (u_Mq_Mo _ k_Mo_0) (wcs (u_Mq_Mo _ k_Mo_180) (fun _ h => h))) rfl rfl rfl (by decide +kernel) ⟨Nat.le_of_ble_eq_true rfl, Nat.le_of_ble_eq_true rfl⟩) (ps_of (W := []) (tys := []) (hP.sub (ws' := []) [] rfl) (hK.sub [] rfl) (hD.sub (ws' := []) [] (by decide) rfl)) rfl rfl hl.1 rfl (lv_room (Nat.le_of_ble_eq_true rfl)) d_Mo_refusal_78 ⟨by decide, by decide⟩) hS (fun q _ h => hFc q h) hFc (fun r_ u t H locs ht hvm hw hB hz1 hk1 hS => ?_)
    rw [hw]
    have hP := lx_stat (A := A) hP hk1
    refine va_put (D := (dC, dI)) (ci := 12) (v := .int r_9) (ty := .int) (C := R_Mo) (T := F_Mo) (N := 66) hx hb hts (fun w h => u_Mq_Mo w (i_Mo w h)) t_Mo t_Mo_ok n_Mo hown hK hP hD hS 0 rfl rfl 46 (by decide) (hts _ (u_Mq_Mo _ k_Mo_53)) (fun _ h9 => h9) rfl (by decide +kernel) rfl rfl (Nat.le_of_ble_eq_true rfl) d_Mo_refusal_81 (fun H locs hP hD hS => ?_)
    obtain ⟨S_10, eS_10, h⟩ := lf_lX h
    have hP := lx_newP eS_10 hP
    have hD := lx_newD eS_10 hD
    refine lv_aload_n hx hb d_Mo_refusal_84 rfl (lv_at hl 0 rfl) ?_
    refine lv_bipush (v := 10) hx hb d_Mo_refusal_85 (by decide) ?_
    refine lv_aload_n hx hb d_Mo_refusal_87 rfl (lv_at hl 0 rfl) ?_
    refine va_get (D := (dC, dI)) (ci := 12) (v := .int S_10.v_items) (C := R_Mo) (T := F_Mo) (N := 66) hx hb hts (fun w h => u_Mq_Mo w (i_Mo w h)) hown hK hP 0 rfl rfl 21 (by decide) (hts _ (u_Mq_Mo _ k_Mo_28)) (fun _ h9 => h9) rfl d_Mo_refusal_88 ?_
    refine lv_iadd hx hb d_Mo_refusal_91 ?_
    refine lv_bipush (v := 8) hx hb d_Mo_refusal_92 (by decide) ?_
    refine lv_aload_n hx hb d_Mo_refusal_94 rfl (lv_at hl 0 rfl) ?_
    refine va_get (D := (dC, dI)) (ci := 12) (v := .int S_10.v_groups) (C := R_Mo) (T := F_Mo) (N := 66) hx hb hts (fun w h => u_Mq_Mo w (i_Mo w h)) hown hK hP 0 rfl rfl 46 (by decide) (hts _ (u_Mq_Mo _ k_Mo_53)) (fun _ h9 => h9) rfl d_Mo_refusal_95 ?_
    refine lv_imul hx hb d_Mo_refusal_98 ?_
    obtain ⟨r_11, hc_11, h⟩ := lf_bE h
    have hFc := lx_free0 hS hA
    refine va_calli (va_runS (As := [.int (10 + S_10.v_items), .int (8 * S_10.v_groups)]) (rest := [.ref M.o]) ⟨hx, hb, hml, hown, hts⟩ (l_Mo_whole l dC dI  _ hc_11) (va_cwS 2 hts (gwS good_Mq (u_Mq_Mo _ k_Mo_178) (u_Mq_Mo _ k_Mo_179) (u_Mq_Mo _ k_Mo_0) (wcs (u_Mq_Mo _ k_Mo_180) (fun _ h => h))) rfl rfl rfl (by decide +kernel) ⟨Nat.le_of_ble_eq_true rfl, Nat.le_of_ble_eq_true rfl⟩) (ps_of (W := []) (tys := []) (hP.sub (ws' := []) [] rfl) (hK.sub [] rfl) (hD.sub (ws' := []) [] (by decide) rfl)) rfl rfl hl.1 rfl (lv_room (Nat.le_of_ble_eq_true rfl)) d_Mo_refusal_99 ⟨by decide, by decide⟩) hS (fun q _ h => hFc q h) hFc (fun r_ u t H locs ht hvm hw hB hz1 hk1 hS => ?_)
    rw [hw]
    have hP := lx_stat (A := A) hP hk1
    refine lv_bipush (v := 8) hx hb d_Mo_refusal_102 (by decide) ?_
    refine lv_imul hx hb d_Mo_refusal_104 ?_
    refine va_put (D := (dC, dI)) (ci := 12) (v := .int (r_11 * 8)) (ty := .int) (C := R_Mo) (T := F_Mo) (N := 66) hx hb hts (fun w h => u_Mq_Mo w (i_Mo w h)) t_Mo t_Mo_ok n_Mo hown hK hP hD hS 0 rfl rfl 48 (by decide) (hts _ (u_Mq_Mo _ k_Mo_55)) (fun _ h9 => h9) rfl (by decide +kernel) rfl rfl (Nat.le_of_ble_eq_true rfl) d_Mo_refusal_105 (fun H locs hP hD hS => ?_)
    obtain ⟨S_12, eS_12, h⟩ := lf_lX h
    have hP := lx_newP eS_12 hP
    have hD := lx_newD eS_12 hD
    refine lv_aload_n hx hb d_Mo_refusal_108 rfl (lv_at hl 0 rfl) ?_
    refine lv_aload_n hx hb d_Mo_refusal_109 rfl (lv_at hl 0 rfl) ?_
    refine va_get (D := (dC, dI)) (ci := 12) (v := .int S_12.v_inodes) (C := R_Mo) (T := F_Mo) (N := 66) hx hb hts (fun w h => u_Mq_Mo w (i_Mo w h)) hown hK hP 0 rfl rfl 48 (by decide) (hts _ (u_Mq_Mo _ k_Mo_55)) (fun _ h9 => h9) rfl d_Mo_refusal_110 ?_
    refine lv_bipush (v := 8) hx hb d_Mo_refusal_113 (by decide) ?_
    refine lv_idiv hx hb d_Mo_refusal_115 (by decide) ?_
    refine va_put (D := (dC, dI)) (ci := 12) (v := .int (S_12.v_inodes / 8)) (ty := .int) (C := R_Mo) (T := F_Mo) (N := 66) hx hb hts (fun w h => u_Mq_Mo w (i_Mo w h)) t_Mo t_Mo_ok n_Mo hown hK hP hD hS 0 rfl rfl 49 (by decide) (hts _ (u_Mq_Mo _ k_Mo_56)) (fun _ h9 => h9) rfl (by decide +kernel) rfl rfl (Nat.le_of_ble_eq_true rfl) d_Mo_refusal_116 (fun H locs hP hD hS => ?_)
    obtain ⟨S_13, eS_13, h⟩ := lf_lX h
    have hP := lx_newP eS_13 hP
    have hD := lx_newD eS_13 hD
    refine lv_aload_n hx hb d_Mo_refusal_119 rfl (lv_at hl 0 rfl) ?_
    obtain ⟨r_14, S_14, hc_14, h⟩ := lf_cE h
    have hFc := lx_free hD hS hA
    refine va_calli (va_runV (As := []) (rest := []) ⟨hx, hb, hml, hown, hts⟩ (l_Mo_isRoomy l dC dI X _ hc_14) (cwV 0 hts (gwV good_Mq (u_Mq_Mo _ k_Mo_370) (u_Mq_Mo _ k_Mo_371) (u_Mq_Mo _ k_Mo_532) (u_Mq_Mo _ k_Mo_0) (wcs (u_Mq_Mo _ k_Mo_372) (fun _ h => h))) rfl rfl rfl (by decide +kernel) ⟨Nat.le_of_ble_eq_true rfl, Nat.le_of_ble_eq_true rfl⟩) (pv_ofE (X.same _) (fun U z1 z2 => X.mono _ _ U hFc (hEw _ _ hS U z1 z2)) hP hK hD (va_recv hK hP (ci := 12) (q0 := 0) rfl rfl)) rfl rfl hl.1 rfl (lv_room (Nat.le_of_ble_eq_true rfl)) d_Mo_refusal_120 ⟨by decide, by decide⟩) hS (fun q _ h => hFc q h) hFc (fun r_ u t H locs ht hvm hw hB hz1 hk1 hS => ?_)
    rw [hw]
    obtain ⟨hP, -, hD⟩ := hB
    rw [ht] at hP
    have hD := lx_dj hD hFc
    refine lv_if_ne (tgt := 131) hx hb d_Mo_refusal_123 (by decide) (fun c_15 => ?_) (fun c_15 => ?_)
    · have h := lf_f h c_15
      refine lv_aload_n hx hb d_Mo_refusal_131 rfl (lv_at hl 0 rfl) ?_
      obtain ⟨r_16, S_16, hc_16, h⟩ := lf_cE h
      have hFc := lx_free hD hS hA
      refine va_calli (va_runV (As := []) (rest := []) ⟨hx, hb, hml, hown, hts⟩ (l_Mo_badNames l dC dI X _ hc_16) (cwV 0 hts (gwV good_Mq (u_Mq_Mo _ k_Mo_382) (u_Mq_Mo _ k_Mo_383) (u_Mq_Mo _ k_Mo_534) (u_Mq_Mo _ k_Mo_0) (wcs (u_Mq_Mo _ k_Mo_384) (fun _ h => h))) rfl rfl rfl (by decide +kernel) ⟨Nat.le_of_ble_eq_true rfl, Nat.le_of_ble_eq_true rfl⟩) (pv_ofE (X.same _) (fun U z1 z2 => X.mono _ _ U hFc (hEw _ _ hS U z1 z2)) hP hK hD (va_recv hK hP (ci := 12) (q0 := 0) rfl rfl)) rfl rfl hl.1 rfl (lv_room (Nat.le_of_ble_eq_true rfl)) d_Mo_refusal_132 ⟨by decide, by decide⟩) hS (fun q _ h => hFc q h) hFc (fun r_ u t H locs ht hvm hw hB hz1 hk1 hS => ?_)
      rw [hw]
      obtain ⟨hP, -, hD⟩ := hB
      rw [ht] at hP
      have hD := lx_dj hD hFc
      refine lv_if_eq (tgt := 143) hx hb d_Mo_refusal_135 (by decide) (fun c_17 => ?_) (fun c_17 => ?_)
      · have h := lf_t h c_17
        refine lv_aload_n hx hb d_Mo_refusal_143 rfl (lv_at hl 0 rfl) ?_
        obtain ⟨r_18, S_18, hc_18, h⟩ := lf_cE h
        have hFc := lx_free hD hS hA
        refine va_calli (va_runV (As := []) (rest := []) ⟨hx, hb, hml, hown, hts⟩ (l_Mo_badTimes l dC dI X _ hc_18) (cwV 0 hts (gwV good_Mq (u_Mq_Mo _ k_Mo_385) (u_Mq_Mo _ k_Mo_386) (u_Mq_Mo _ k_Mo_535) (u_Mq_Mo _ k_Mo_0) (wcs (u_Mq_Mo _ k_Mo_387) (fun _ h => h))) rfl rfl rfl (by decide +kernel) ⟨Nat.le_of_ble_eq_true rfl, Nat.le_of_ble_eq_true rfl⟩) (pv_ofE (X.same _) (fun U z1 z2 => X.mono _ _ U hFc (hEw _ _ hS U z1 z2)) hP hK hD (va_recv hK hP (ci := 12) (q0 := 0) rfl rfl)) rfl rfl hl.1 rfl (lv_room (Nat.le_of_ble_eq_true rfl)) d_Mo_refusal_144 ⟨by decide, by decide⟩) hS (fun q _ h => hFc q h) hFc (fun r_ u t H locs ht hvm hw hB hz1 hk1 hS => ?_)
        rw [hw]
        obtain ⟨hP, -, hD⟩ := hB
        rw [ht] at hP
        have hD := lx_dj hD hFc
        refine lv_if_eq (tgt := 155) hx hb d_Mo_refusal_147 (by decide) (fun c_19 => ?_) (fun c_19 => ?_)
        · have h := lf_t h c_19
          refine lv_aload_n hx hb d_Mo_refusal_155 rfl (lv_at hl 0 rfl) ?_
          obtain ⟨r_20, S_20, hc_20, h⟩ := lf_cE h
          have hFc := lx_free hD hS hA
          refine va_calli (va_runV (As := []) (rest := []) ⟨hx, hb, hml, hown, hts⟩ (l_Mo_finds l dC dI X _ hc_20) (cwV 0 hts (gwV good_Mq (u_Mq_Mo _ k_Mo_388) (u_Mq_Mo _ k_Mo_389) (u_Mq_Mo _ k_Mo_536) (u_Mq_Mo _ k_Mo_0) (wcs (u_Mq_Mo _ k_Mo_390) (fun _ h => h))) rfl rfl rfl (by decide +kernel) ⟨Nat.le_of_ble_eq_true rfl, Nat.le_of_ble_eq_true rfl⟩) (pv_ofE (X.same _) (fun U z1 z2 => X.mono _ _ U hFc (hEw _ _ hS U z1 z2)) hP hK hD (va_recv hK hP (ci := 12) (q0 := 0) rfl rfl)) rfl rfl hl.1 rfl (lv_room (Nat.le_of_ble_eq_true rfl)) d_Mo_refusal_156 ⟨by decide, by decide⟩) hS (fun q _ h => hFc q h) hFc (fun r_ u t H locs ht hvm hw hB hz1 hk1 hS => ?_)
          rw [hw]
          obtain ⟨hP, -, hD⟩ := hB
          rw [ht] at hP
          have hD := lx_dj hD hFc
          refine lv_if_ne (tgt := 167) hx hb d_Mo_refusal_159 (by decide) (fun c_21 => ?_) (fun c_21 => ?_)
          · have h := lf_f h c_21
            refine lv_iconst (v := 0) hx hb d_Mo_refusal_167 (by decide) ?_
            rw [hQ]
            have e1 : (0 : Int32) = r := congrArg Prod.fst (Option.some.inj h)
            have e2 : S_20 = S' := congrArg Prod.snd (Option.some.inj h)
            have hP := lx_newP e2.symm hP
            have hD := lx_newD e2.symm hD
            exact W.iret (v := 0) hx hb hr (fun t ht hW => ⟨⟨0, (), rfl, e1, by rw [ht]; exact hP, va_K.moved hW.alike hK, hD⟩, hS.F ht⟩) hS.2.2 d_Mo_refusal_168
          · have h := lf_t h c_21
            refine lv_bipush (v := 15) hx hb d_Mo_refusal_162 (by decide) ?_
            refine lv_goto (tgt := 168) hx hb d_Mo_refusal_164 (by decide) ?_
            rw [hQ]
            have e1 : (15 : Int32) = r := congrArg Prod.fst (Option.some.inj h)
            have e2 : S_20 = S' := congrArg Prod.snd (Option.some.inj h)
            have hP := lx_newP e2.symm hP
            have hD := lx_newD e2.symm hD
            exact W.iret (v := 15) hx hb hr (fun t ht hW => ⟨⟨15, (), rfl, e1, by rw [ht]; exact hP, va_K.moved hW.alike hK, hD⟩, hS.F ht⟩) hS.2.2 d_Mo_refusal_168
        · have h := lf_f h c_19
          refine lv_bipush (v := 14) hx hb d_Mo_refusal_150 (by decide) ?_
          refine lv_goto (tgt := 168) hx hb d_Mo_refusal_152 (by decide) ?_
          rw [hQ]
          have e1 : (14 : Int32) = r := congrArg Prod.fst (Option.some.inj h)
          have e2 : S_18 = S' := congrArg Prod.snd (Option.some.inj h)
          have hP := lx_newP e2.symm hP
          have hD := lx_newD e2.symm hD
          exact W.iret (v := 14) hx hb hr (fun t ht hW => ⟨⟨14, (), rfl, e1, by rw [ht]; exact hP, va_K.moved hW.alike hK, hD⟩, hS.F ht⟩) hS.2.2 d_Mo_refusal_168
      · have h := lf_f h c_17
        refine lv_bipush (v := 13) hx hb d_Mo_refusal_138 (by decide) ?_
        refine lv_goto (tgt := 168) hx hb d_Mo_refusal_140 (by decide) ?_
        rw [hQ]
        have e1 : (13 : Int32) = r := congrArg Prod.fst (Option.some.inj h)
        have e2 : S_16 = S' := congrArg Prod.snd (Option.some.inj h)
        have hP := lx_newP e2.symm hP
        have hD := lx_newD e2.symm hD
        exact W.iret (v := 13) hx hb hr (fun t ht hW => ⟨⟨13, (), rfl, e1, by rw [ht]; exact hP, va_K.moved hW.alike hK, hD⟩, hS.F ht⟩) hS.2.2 d_Mo_refusal_168
    · have h := lf_t h c_15
      refine lv_bipush (v := 12) hx hb d_Mo_refusal_126 (by decide) ?_
      refine lv_goto (tgt := 168) hx hb d_Mo_refusal_128 (by decide) ?_
      rw [hQ]
      have e1 : (12 : Int32) = r := congrArg Prod.fst (Option.some.inj h)
      have e2 : S_14 = S' := congrArg Prod.snd (Option.some.inj h)
      have hP := lx_newP e2.symm hP
      have hD := lx_newD e2.symm hD
      exact W.iret (v := 12) hx hb hr (fun t ht hW => ⟨⟨12, (), rfl, e1, by rw [ht]; exact hP, va_K.moved hW.alike hK, hD⟩, hS.F ht⟩) hS.2.2 d_Mo_refusal_168
  rw [f_Mo_refusal] at h
  refine lv_aload_n hx hb d_Mo_refusal_0 rfl (lv_at hl 0 rfl) ?_
  obtain ⟨S_1, hc_1, h⟩ := lf_bE h
  have hFc := lx_free hD hS hA
  refine va_callv (va_runV (As := []) (rest := []) ⟨hx, hb, hml, hown, hts⟩ (l_Mo_look l dC dI X _ hc_1) (cwV 0 hts (gwV good_Mq (u_Mq_Mo _ k_Mo_88) (u_Mq_Mo _ k_Mo_89) (u_Mq_Mo _ k_Mo_492) (u_Mq_Mo _ k_Mo_0) (wcs (u_Mq_Mo _ k_Mo_90) (fun _ h => h))) rfl rfl rfl (by decide +kernel) ⟨Nat.le_of_ble_eq_true rfl, Nat.le_of_ble_eq_true rfl⟩) (pv_ofE (X.same _) (fun U z1 z2 => X.mono _ _ U hFc (hEw _ _ hS U z1 z2)) hP hK hD (va_recv hK hP (ci := 12) (q0 := 0) rfl rfl)) rfl rfl hl.1 rfl (lv_room (Nat.le_of_ble_eq_true rfl)) d_Mo_refusal_1 ⟨by decide, by decide⟩) hS (fun q _ h => hFc q h) hFc (fun u t H locs ht hvm hw hB hz1 hk1 hS => ?_)
  obtain ⟨hP, -, hD⟩ := hB
  rw [ht] at hP
  have hD := lx_dj hD hFc
  refine lv_aload_n hx hb d_Mo_refusal_4 rfl (lv_at hl 0 rfl) ?_
  refine va_get (D := (dC, dI)) (ci := 12) (v := .int S_1.v_fault) (C := R_Mo) (T := F_Mo) (N := 66) hx hb hts (fun w h => u_Mq_Mo w (i_Mo w h)) hown hK hP 0 rfl rfl 20 (by decide) (hts _ (u_Mq_Mo _ k_Mo_27)) (fun _ h9 => h9) rfl d_Mo_refusal_5 ?_
  refine lv_if_le (tgt := 16) hx hb d_Mo_refusal_8 (by decide) (fun c_2 => ?_) (fun c_2 => ?_)
  · have h := lf_t h c_2
    refine lv_aload_n hx hb d_Mo_refusal_16 rfl (lv_at hl 0 rfl) ?_
    refine va_get (D := (dC, dI)) (ci := 12) (v := .int S_1.v_a) (C := R_Mo) (T := F_Mo) (N := 66) hx hb hts (fun w h => u_Mq_Mo w (i_Mo w h)) hown hK hP 0 rfl rfl 16 (by decide) (hts _ (u_Mq_Mo _ k_Mo_23)) (fun _ h9 => h9) rfl d_Mo_refusal_17 ?_
    refine lv_iconst (v := 2) hx hb d_Mo_refusal_20 (by decide) ?_
    refine lv_irem hx hb d_Mo_refusal_21 (by decide) ?_
    refine lv_iconst (v := 1) hx hb d_Mo_refusal_22 (by decide) ?_
    refine lv_icmp_ne (tgt := 29) hx hb d_Mo_refusal_23 (by decide) (fun c_3 => ?_) (fun c_3 => ?_)
    · have h := lf_f h c_3
      refine lv_iload_n hx hb d_Mo_refusal_29 rfl (lv_at hl 1 rfl) ?_
      refine lv_bipush (v := 64) hx hb d_Mo_refusal_30 (by decide) ?_
      refine lv_icmp_eq (tgt := 52) hx hb d_Mo_refusal_32 (by decide) (fun c_4 => ?_) (fun c_4 => ?_)
      · have h := lf_t h c_4
        exact hB_52 p0 S_1 _ _ _ h hP hD hS (lv_sub hl [0, 1] rfl)
      · have h := lf_f h c_4
        refine lv_iload_n hx hb d_Mo_refusal_35 rfl (lv_at hl 1 rfl) ?_
        refine lv_sipush (v := 128) hx hb d_Mo_refusal_36 (by decide) ?_
        refine lv_icmp_eq (tgt := 52) hx hb d_Mo_refusal_39 (by decide) (fun c_5 => ?_) (fun c_5 => ?_)
        · have h := lf_t h c_5
          exact hB_52 p0 S_1 _ _ _ h hP hD hS (lv_sub hl [0, 1] rfl)
        · have h := lf_f h c_5
          refine lv_iload_n hx hb d_Mo_refusal_42 rfl (lv_at hl 1 rfl) ?_
          refine lv_sipush (v := 256) hx hb d_Mo_refusal_43 (by decide) ?_
          refine lv_icmp_eq (tgt := 52) hx hb d_Mo_refusal_46 (by decide) (fun c_6 => ?_) (fun c_6 => ?_)
          · have h := lf_t h c_6
            exact hB_52 p0 S_1 _ _ _ h hP hD hS (lv_sub hl [0, 1] rfl)
          · have h := lf_f h c_6
            refine lv_bipush (v := 12) hx hb d_Mo_refusal_49 (by decide) ?_
            rw [hQ]
            have e1 : (12 : Int32) = r := congrArg Prod.fst (Option.some.inj h)
            have e2 : S_1 = S' := congrArg Prod.snd (Option.some.inj h)
            have hP := lx_newP e2.symm hP
            have hD := lx_newD e2.symm hD
            exact W.iret (v := 12) hx hb hr (fun t ht hW => ⟨⟨12, (), rfl, e1, by rw [ht]; exact hP, va_K.moved hW.alike hK, hD⟩, hS.F ht⟩) hS.2.2 d_Mo_refusal_51
    · have h := lf_t h c_3
      refine lv_bipush (v := 11) hx hb d_Mo_refusal_26 (by decide) ?_
      rw [hQ]
      have e1 : (11 : Int32) = r := congrArg Prod.fst (Option.some.inj h)
      have e2 : S_1 = S' := congrArg Prod.snd (Option.some.inj h)
      have hP := lx_newP e2.symm hP
      have hD := lx_newD e2.symm hD
      exact W.iret (v := 11) hx hb hr (fun t ht hW => ⟨⟨11, (), rfl, e1, by rw [ht]; exact hP, va_K.moved hW.alike hK, hD⟩, hS.F ht⟩) hS.2.2 d_Mo_refusal_28
  · have h := lf_f h c_2
    refine lv_aload_n hx hb d_Mo_refusal_11 rfl (lv_at hl 0 rfl) ?_
    refine va_get (D := (dC, dI)) (ci := 12) (v := .int S_1.v_fault) (C := R_Mo) (T := F_Mo) (N := 66) hx hb hts (fun w h => u_Mq_Mo w (i_Mo w h)) hown hK hP 0 rfl rfl 20 (by decide) (hts _ (u_Mq_Mo _ k_Mo_27)) (fun _ h9 => h9) rfl d_Mo_refusal_12 ?_
    rw [hQ]
    have e1 : S_1.v_fault = r := congrArg Prod.fst (Option.some.inj h)
    have e2 : S_1 = S' := congrArg Prod.snd (Option.some.inj h)
    have hP := lx_newP e2.symm hP
    have hD := lx_newD e2.symm hD
    exact W.iret (v := S_1.v_fault) hx hb hr (fun t ht hW => ⟨⟨S_1.v_fault, (), rfl, e1, by rw [ht]; exact hP, va_K.moved hW.alike hK, hD⟩, hS.F ht⟩) hS.2.2 d_Mo_refusal_15
set_option maxHeartbeats 4000000 in
set_option maxRecDepth 100000 in
theorem l_Mo_plan (l : Launch) (dC : Nat → ClassId) (dI : Nat → Nat → Nat) {K : Nat} {M : MA} {E : (Nat → Prop) → State → Prop} (X : lx_X l dC dI K M E) (sz : Nat) {S S' : MS} {p0 : Int32} {p1 : Int32} {r : Int32} (h : f_Mo_plan K S p0 p1 = some (r, S')) : Met l y_Mo_plan (.code y_Mo_plan b_Mo_plan 4 (some .int) :: V_Mq) ({ frames := 13, cells := 0, slots := 0, locals := 360 }) (va_Pc [.ref M.o, .int p0, .int p1] (fun U => U.heap.size = sz ∧ at_ (dC, dI) (fun _ => True) (wM M S) (tM M) U ∧ E (va_A (wM M S) sz) U)) (va_Qi (fun (r_ : Int32) (u : Unit) => r_ = r) (fun (u : Unit) t => at_ (dC, dI) (va_A (wM M S) sz) (wM M S') (tM M) t) (va_A (wM M S) sz)) 0 0 (va_A (wM M S) sz) := by
  refine Met.ofW (cc := b_Mo_plan) (maxL := 4) (ret := (some .int)) (by decide) rfl ?_
  intro p e s m args below meth c s₁ B hml hv
  obtain ⟨rfl, hsz, ⟨hP, hK, hD0⟩, hE⟩ := hv
  have hx := B.exec
  have hb := B.bytes
  have hr := B.returns
  have hts0 := atoms_spec (ws := .code y_Mo_plan b_Mo_plan 4 (some .int) :: V_Mq) B.pre
  have hts : ∀ w ∈ V_Mq, w.before ([.ref M.o, .int p0, .int p1] : List Value).toArray s = true := fun w h => hts0 w (List.mem_cons_of_mem _ h)
  have hown : s.vm.findClass R_Mo = some m.cls := findClass_of_methodNamed B.named
  subst hsz
  have hD := hD0.self (sz := s.heap.size)
  generalize hAe : va_A (wM M S) s.heap.size = A at hD hE ⊢
  have hA : ∀ q : Nat, s.heap.size ≤ q → A q := fun q h => by rw [← hAe]; exact Or.inr h
  have hS : va_S A s.heap s.heap [] := va_S.rf
  have hP : va_P (dC, dI) classes (wM M S) s.heap := hP
  have hK : va_K (dC, dI) classes (tM M) s := hK
  have hEw : ∀ (H : Heap) (locs : List Loc), va_S A s.heap H locs → ∀ U : State, U.heap = H → s.WarmedH U.vm → E A U := fun H locs hS U hU hW => X.kept A s U H locs hE hS hU hW
  have hl := lv_entry ([.ref M.o, .int p0, .int p1]) (n := 4) (Nat.le_of_ble_eq_true rfl)
  rw [lg_entry_eq]
  generalize (lg_sl ([.ref M.o, .int p0, .int p1]) ++ List.replicate (4 - (lg_sl ([.ref M.o, .int p0, .int p1])).length) Slot.unset).toArray = ls at hl ⊢
  have hl : lv_has ls 4 [(0, .ref M.o), (1, .int p0), (2, .int p1)] := hl
  refine qabs (fun Q hQ => ?_)
  have hB_34 : ∀ (S : MS) (H : Heap) (locs : List Loc) (ls : Array Slot), f_Mo_plan_34 K S = some (r, S') → va_P (dC, dI) classes (wM M S) H → va_D A (wM M S) → va_S A s.heap H locs → lv_has ls 4 [] → W p l e ({ frames := 13, cells := 0, slots := 0, locals := 360 }) s m ([.ref M.o, .int p0, .int p1] : List Value).toArray below meth c H locs 0 0 Q (F0 m 34 ls []) := by
    intro S H locs ls h hP hD hS hl
    rw [f_Mo_plan_34] at h
    refine lv_iconst (v := (-1)) hx hb d_Mo_plan_34 (by decide) ?_
    rw [hQ]
    have e1 : ((-1)) = r := congrArg Prod.fst (Option.some.inj h)
    have e2 : S = S' := congrArg Prod.snd (Option.some.inj h)
    have hP := lx_newP e2.symm hP
    have hD := lx_newD e2.symm hD
    exact W.iret (v := ((-1))) hx hb hr (fun t ht hW => ⟨⟨((-1)), (), rfl, e1, by rw [ht]; exact hP, va_K.moved hW.alike hK, hD⟩, hS.F ht⟩) hS.2.2 d_Mo_plan_35
  have hB_50 : ∀ (y_2 : Int32) (y_3 : Int32) (S : MS) (H : Heap) (locs : List Loc) (ls : Array Slot), f_Mo_plan_50 K y_2 y_3 S = some (r, S') → va_P (dC, dI) classes (wM M S) H → va_D A (wM M S) → va_S A s.heap H locs → lv_has ls 4 [(2, .int y_2), (3, .int y_3)] → W p l e ({ frames := 13, cells := 0, slots := 0, locals := 360 }) s m ([.ref M.o, .int p0, .int p1] : List Value).toArray below meth c H locs 0 0 Q (F0 m 50 ls []) := by
    intro y_2 y_3 S H locs ls h hP hD hS hl
    rw [f_Mo_plan_50] at h
    refine lv_iload_n hx hb d_Mo_plan_50 rfl (lv_at hl 0 rfl) ?_
    refine lv_if_ne (tgt := 58) hx hb d_Mo_plan_51 (by decide) (fun c_15 => ?_) (fun c_15 => ?_)
    · have h := lf_f h c_15
      refine lv_iconst (v := (-1)) hx hb d_Mo_plan_58 (by decide) ?_
      rw [hQ]
      have e1 : ((-1)) = r := congrArg Prod.fst (Option.some.inj h)
      have e2 : S = S' := congrArg Prod.snd (Option.some.inj h)
      have hP := lx_newP e2.symm hP
      have hD := lx_newD e2.symm hD
      exact W.iret (v := ((-1))) hx hb hr (fun t ht hW => ⟨⟨((-1)), (), rfl, e1, by rw [ht]; exact hP, va_K.moved hW.alike hK, hD⟩, hS.F ht⟩) hS.2.2 d_Mo_plan_59
    · have h := lf_t h c_15
      refine lv_iload_n hx hb d_Mo_plan_54 rfl (lv_at hl 1 rfl) ?_
      refine lv_goto (tgt := 59) hx hb d_Mo_plan_55 (by decide) ?_
      rw [hQ]
      have e1 : y_3 = r := congrArg Prod.fst (Option.some.inj h)
      have e2 : S = S' := congrArg Prod.snd (Option.some.inj h)
      have hP := lx_newP e2.symm hP
      have hD := lx_newD e2.symm hD
      exact W.iret (v := y_3) hx hb hr (fun t ht hW => ⟨⟨y_3, (), rfl, e1, by rw [ht]; exact hP, va_K.moved hW.alike hK, hD⟩, hS.F ht⟩) hS.2.2 d_Mo_plan_59
  rw [f_Mo_plan] at h
  refine lv_aload_n hx hb d_Mo_plan_0 rfl (lv_at hl 0 rfl) ?_
  refine lv_iconst (v := 0) hx hb d_Mo_plan_1 (by decide) ?_
  refine va_put (D := (dC, dI)) (ci := 12) (v := .int 0) (ty := .int) (C := R_Mo) (T := F_Mo) (N := 66) hx hb hts (fun w h => u_Mq_Mo w (i_Mo w h)) t_Mo t_Mo_ok n_Mo hown hK hP hD hS 0 rfl rfl 6 (by decide) (hts _ (u_Mq_Mo _ k_Mo_13)) (fun _ h9 => h9) rfl (by decide +kernel) rfl rfl (Nat.le_of_ble_eq_true rfl) d_Mo_plan_2 (fun H locs hP hD hS => ?_)
  obtain ⟨S_1, eS_1, h⟩ := lf_lX h
  have hP := lx_newP eS_1 hP
  have hD := lx_newD eS_1 hD
  refine lv_aload_n hx hb d_Mo_plan_5 rfl (lv_at hl 0 rfl) ?_
  obtain ⟨S_2, hc_2, h⟩ := lf_bE h
  have hFc := lx_free hD hS hA
  refine va_callv (va_runV (As := []) (rest := []) ⟨hx, hb, hml, hown, hts⟩ (l_Mo_look l dC dI X _ hc_2) (cwV 0 hts (gwV good_Mq (u_Mq_Mo _ k_Mo_88) (u_Mq_Mo _ k_Mo_89) (u_Mq_Mo _ k_Mo_492) (u_Mq_Mo _ k_Mo_0) (wcs (u_Mq_Mo _ k_Mo_90) (fun _ h => h))) rfl rfl rfl (by decide +kernel) ⟨Nat.le_of_ble_eq_true rfl, Nat.le_of_ble_eq_true rfl⟩) (pv_ofE (X.same _) (fun U z1 z2 => X.mono _ _ U hFc (hEw _ _ hS U z1 z2)) hP hK hD (va_recv hK hP (ci := 12) (q0 := 0) rfl rfl)) rfl rfl hl.1 rfl (lv_room (Nat.le_of_ble_eq_true rfl)) d_Mo_plan_6 ⟨by decide, by decide⟩) hS (fun q _ h => hFc q h) hFc (fun u t H locs ht hvm hw hB hz1 hk1 hS => ?_)
  obtain ⟨hP, -, hD⟩ := hB
  rw [ht] at hP
  have hD := lx_dj hD hFc
  refine lv_aload_n hx hb d_Mo_plan_9 rfl (lv_at hl 0 rfl) ?_
  refine va_get (D := (dC, dI)) (ci := 12) (v := .int S_2.v_turned) (C := R_Mo) (T := F_Mo) (N := 66) hx hb hts (fun w h => u_Mq_Mo w (i_Mo w h)) hown hK hP 0 rfl rfl 9 (by decide) (hts _ (u_Mq_Mo _ k_Mo_16)) (fun _ h9 => h9) rfl d_Mo_plan_10 ?_
  refine lv_if_ne (tgt := 34) hx hb d_Mo_plan_13 (by decide) (fun c_3 => ?_) (fun c_3 => ?_)
  · have h := lf_f h c_3
    exact hB_34 S_2 _ _ _ h hP hD hS (lv_sub hl [] rfl)
  · have h := lf_t h c_3
    refine lv_aload_n hx hb d_Mo_plan_16 rfl (lv_at hl 0 rfl) ?_
    refine va_get (D := (dC, dI)) (ci := 12) (v := .int S_2.v_fault) (C := R_Mo) (T := F_Mo) (N := 66) hx hb hts (fun w h => u_Mq_Mo w (i_Mo w h)) hown hK hP 0 rfl rfl 20 (by decide) (hts _ (u_Mq_Mo _ k_Mo_27)) (fun _ h9 => h9) rfl d_Mo_plan_17 ?_
    refine lv_iconst (v := 1) hx hb d_Mo_plan_20 (by decide) ?_
    refine lv_icmp_eq (tgt := 34) hx hb d_Mo_plan_21 (by decide) (fun c_4 => ?_) (fun c_4 => ?_)
    · have h := lf_t h c_4
      exact hB_34 S_2 _ _ _ h hP hD hS (lv_sub hl [] rfl)
    · have h := lf_f h c_4
      refine lv_iload_n hx hb d_Mo_plan_24 rfl (lv_at hl 2 rfl) ?_
      refine lv_if_lt (tgt := 34) hx hb d_Mo_plan_25 (by decide) (fun c_5 => ?_) (fun c_5 => ?_)
      · have h := lf_t h c_5
        exact hB_34 S_2 _ _ _ h hP hD hS (lv_sub hl [] rfl)
      · have h := lf_f h c_5
        refine lv_iload_n hx hb d_Mo_plan_28 rfl (lv_at hl 2 rfl) ?_
        refine lv_bipush (v := 6) hx hb d_Mo_plan_29 (by decide) ?_
        refine lv_icmp_le (tgt := 36) hx hb d_Mo_plan_31 (by decide) (fun c_6 => ?_) (fun c_6 => ?_)
        · have h := lf_t h c_6
          refine lv_aload_n hx hb d_Mo_plan_36 rfl (lv_at hl 0 rfl) ?_
          refine lv_iload_n hx hb d_Mo_plan_37 rfl (lv_at hl 1 rfl) ?_
          obtain ⟨r_7, S_7, hc_7, h⟩ := lf_cE h
          have hFc := lx_free hD hS hA
          refine va_calli (va_runV (As := [.int p0]) (rest := []) ⟨hx, hb, hml, hown, hts⟩ (l_Mo_refusal l dC dI X _ hc_7) (cwV 1 hts (gwV good_Mq (u_Mq_Mo _ k_Mo_367) (u_Mq_Mo _ k_Mo_368) (u_Mq_Mo _ k_Mo_537) (u_Mq_Mo _ k_Mo_0) (wcs (u_Mq_Mo _ k_Mo_369) (fun _ h => h))) rfl rfl rfl (by decide +kernel) ⟨Nat.le_of_ble_eq_true rfl, Nat.le_of_ble_eq_true rfl⟩) (pv_ofE (X.same _) (fun U z1 z2 => X.mono _ _ U hFc (hEw _ _ hS U z1 z2)) hP hK hD (va_recv hK hP (ci := 12) (q0 := 0) rfl rfl)) rfl rfl hl.1 rfl (lv_room (Nat.le_of_ble_eq_true rfl)) d_Mo_plan_38 ⟨by decide, by decide⟩) hS (fun q _ h => hFc q h) hFc (fun r_ u t H locs ht hvm hw hB hz1 hk1 hS => ?_)
          rw [hw]
          obtain ⟨hP, -, hD⟩ := hB
          rw [ht] at hP
          have hD := lx_dj hD hFc
          refine lv_istore_n (lv' := [(3, .int r_7), (0, .ref M.o), (1, .int p0), (2, .int p1)]) hx hb d_Mo_plan_41 rfl hl (by decide) rfl (fun ls hl => ?_)
          refine lv_iload_n hx hb d_Mo_plan_42 rfl (lv_at hl 3 rfl) ?_
          refine lv_if_eq (tgt := 50) hx hb d_Mo_plan_43 (by decide) (fun c_8 => ?_) (fun c_8 => ?_)
          · have h := lf_t h c_8
            exact hB_50 p1 r_7 S_7 _ _ _ h hP hD hS (lv_sub hl [3, 0] rfl)
          · have h := lf_f h c_8
            refine lv_iload_n hx hb d_Mo_plan_46 rfl (lv_at hl 0 rfl) ?_
            refine lv_if_le (tgt := 60) hx hb d_Mo_plan_47 (by decide) (fun c_9 => ?_) (fun c_9 => ?_)
            · have h := lf_t h c_9
              refine lv_iload_n hx hb d_Mo_plan_60 rfl (lv_at hl 3 rfl) ?_
              refine lv_iconst (v := 1) hx hb d_Mo_plan_61 (by decide) ?_
              refine lv_icmp_ne (tgt := 72) hx hb d_Mo_plan_62 (by decide) (fun c_10 => ?_) (fun c_10 => ?_)
              · have h := lf_f h c_10
                refine lv_iload_n hx hb d_Mo_plan_72 rfl (lv_at hl 3 rfl) ?_
                refine lv_iconst (v := 2) hx hb d_Mo_plan_73 (by decide) ?_
                refine lv_icmp_ne (tgt := 84) hx hb d_Mo_plan_74 (by decide) (fun c_11 => ?_) (fun c_11 => ?_)
                · have h := lf_f h c_11
                  refine lv_iload_n hx hb d_Mo_plan_84 rfl (lv_at hl 3 rfl) ?_
                  refine lv_iconst (v := 3) hx hb d_Mo_plan_85 (by decide) ?_
                  refine lv_icmp_ne (tgt := 96) hx hb d_Mo_plan_86 (by decide) (fun c_12 => ?_) (fun c_12 => ?_)
                  · have h := lf_f h c_12
                    refine lv_iload_n hx hb d_Mo_plan_96 rfl (lv_at hl 3 rfl) ?_
                    refine lv_iconst (v := 4) hx hb d_Mo_plan_97 (by decide) ?_
                    refine lv_icmp_ne (tgt := 108) hx hb d_Mo_plan_98 (by decide) (fun c_13 => ?_) (fun c_13 => ?_)
                    · have h := lf_f h c_13
                      refine lv_iload_n hx hb d_Mo_plan_108 rfl (lv_at hl 3 rfl) ?_
                      refine lv_iconst (v := 5) hx hb d_Mo_plan_109 (by decide) ?_
                      refine lv_icmp_ne (tgt := 120) hx hb d_Mo_plan_110 (by decide) (fun c_14 => ?_) (fun c_14 => ?_)
                      · have h := lf_f h c_14
                        refine lv_aload_n hx hb d_Mo_plan_120 rfl (lv_at hl 1 rfl) ?_
                        refine va_get (D := (dC, dI)) (ci := 12) (v := .int S_7.v_blocks) (C := R_Mo) (T := F_Mo) (N := 66) hx hb hts (fun w h => u_Mq_Mo w (i_Mo w h)) hown hK hP 0 rfl rfl 50 (by decide) (hts _ (u_Mq_Mo _ k_Mo_57)) (fun _ h9 => h9) rfl d_Mo_plan_121 ?_
                        refine lv_iconst (v := 1) hx hb d_Mo_plan_124 (by decide) ?_
                        refine lv_isub hx hb d_Mo_plan_125 ?_
                        refine lv_aload_n hx hb d_Mo_plan_126 rfl (lv_at hl 1 rfl) ?_
                        refine va_get (D := (dC, dI)) (ci := 12) (v := .int S_7.v_fixedBlocks) (C := R_Mo) (T := F_Mo) (N := 66) hx hb hts (fun w h => u_Mq_Mo w (i_Mo w h)) hown hK hP 0 rfl rfl 56 (by decide) (hts _ (u_Mq_Mo _ k_Mo_63)) (fun _ h9 => h9) rfl d_Mo_plan_127 ?_
                        refine lv_isub hx hb d_Mo_plan_130 ?_
                        refine lv_aload_n hx hb d_Mo_plan_131 rfl (lv_at hl 1 rfl) ?_
                        refine va_get (D := (dC, dI)) (ci := 12) (v := .int S_7.v_builds) (C := R_Mo) (T := F_Mo) (N := 66) hx hb hts (fun w h => u_Mq_Mo w (i_Mo w h)) hown hK hP 0 rfl rfl 58 (by decide) (hts _ (u_Mq_Mo _ k_Mo_65)) (fun _ h9 => h9) rfl d_Mo_plan_132 ?_
                        refine lv_isub hx hb d_Mo_plan_135 ?_
                        refine lv_aload_n hx hb d_Mo_plan_136 rfl (lv_at hl 1 rfl) ?_
                        refine va_get (D := (dC, dI)) (ci := 12) (v := .int S_7.v_kept) (C := R_Mo) (T := F_Mo) (N := 66) hx hb hts (fun w h => u_Mq_Mo w (i_Mo w h)) hown hK hP 0 rfl rfl 59 (by decide) (hts _ (u_Mq_Mo _ k_Mo_66)) (fun _ h9 => h9) rfl d_Mo_plan_137 ?_
                        refine lv_isub hx hb d_Mo_plan_140 ?_
                        rw [hQ]
                        have e1 : ((((S_7.v_blocks - 1) - S_7.v_fixedBlocks) - S_7.v_builds) - S_7.v_kept) = r := congrArg Prod.fst (Option.some.inj h)
                        have e2 : S_7 = S' := congrArg Prod.snd (Option.some.inj h)
                        have hP := lx_newP e2.symm hP
                        have hD := lx_newD e2.symm hD
                        exact W.iret (v := ((((S_7.v_blocks - 1) - S_7.v_fixedBlocks) - S_7.v_builds) - S_7.v_kept)) hx hb hr (fun t ht hW => ⟨⟨((((S_7.v_blocks - 1) - S_7.v_fixedBlocks) - S_7.v_builds) - S_7.v_kept), (), rfl, e1, by rw [ht]; exact hP, va_K.moved hW.alike hK, hD⟩, hS.F ht⟩) hS.2.2 d_Mo_plan_141
                      · have h := lf_t h c_14
                        refine lv_aload_n hx hb d_Mo_plan_113 rfl (lv_at hl 1 rfl) ?_
                        refine va_get (D := (dC, dI)) (ci := 12) (v := .int S_7.v_builds) (C := R_Mo) (T := F_Mo) (N := 66) hx hb hts (fun w h => u_Mq_Mo w (i_Mo w h)) hown hK hP 0 rfl rfl 58 (by decide) (hts _ (u_Mq_Mo _ k_Mo_65)) (fun _ h9 => h9) rfl d_Mo_plan_114 ?_
                        refine lv_goto (tgt := 141) hx hb d_Mo_plan_117 (by decide) ?_
                        rw [hQ]
                        have e1 : S_7.v_builds = r := congrArg Prod.fst (Option.some.inj h)
                        have e2 : S_7 = S' := congrArg Prod.snd (Option.some.inj h)
                        have hP := lx_newP e2.symm hP
                        have hD := lx_newD e2.symm hD
                        exact W.iret (v := S_7.v_builds) hx hb hr (fun t ht hW => ⟨⟨S_7.v_builds, (), rfl, e1, by rw [ht]; exact hP, va_K.moved hW.alike hK, hD⟩, hS.F ht⟩) hS.2.2 d_Mo_plan_141
                    · have h := lf_t h c_13
                      refine lv_aload_n hx hb d_Mo_plan_101 rfl (lv_at hl 1 rfl) ?_
                      refine va_get (D := (dC, dI)) (ci := 12) (v := .int S_7.v_moves) (C := R_Mo) (T := F_Mo) (N := 66) hx hb hts (fun w h => u_Mq_Mo w (i_Mo w h)) hown hK hP 0 rfl rfl 57 (by decide) (hts _ (u_Mq_Mo _ k_Mo_64)) (fun _ h9 => h9) rfl d_Mo_plan_102 ?_
                      refine lv_goto (tgt := 141) hx hb d_Mo_plan_105 (by decide) ?_
                      rw [hQ]
                      have e1 : S_7.v_moves = r := congrArg Prod.fst (Option.some.inj h)
                      have e2 : S_7 = S' := congrArg Prod.snd (Option.some.inj h)
                      have hP := lx_newP e2.symm hP
                      have hD := lx_newD e2.symm hD
                      exact W.iret (v := S_7.v_moves) hx hb hr (fun t ht hW => ⟨⟨S_7.v_moves, (), rfl, e1, by rw [ht]; exact hP, va_K.moved hW.alike hK, hD⟩, hS.F ht⟩) hS.2.2 d_Mo_plan_141
                  · have h := lf_t h c_12
                    refine lv_aload_n hx hb d_Mo_plan_89 rfl (lv_at hl 1 rfl) ?_
                    refine va_get (D := (dC, dI)) (ci := 12) (v := .int S_7.v_fixedBlocks) (C := R_Mo) (T := F_Mo) (N := 66) hx hb hts (fun w h => u_Mq_Mo w (i_Mo w h)) hown hK hP 0 rfl rfl 56 (by decide) (hts _ (u_Mq_Mo _ k_Mo_63)) (fun _ h9 => h9) rfl d_Mo_plan_90 ?_
                    refine lv_goto (tgt := 141) hx hb d_Mo_plan_93 (by decide) ?_
                    rw [hQ]
                    have e1 : S_7.v_fixedBlocks = r := congrArg Prod.fst (Option.some.inj h)
                    have e2 : S_7 = S' := congrArg Prod.snd (Option.some.inj h)
                    have hP := lx_newP e2.symm hP
                    have hD := lx_newD e2.symm hD
                    exact W.iret (v := S_7.v_fixedBlocks) hx hb hr (fun t ht hW => ⟨⟨S_7.v_fixedBlocks, (), rfl, e1, by rw [ht]; exact hP, va_K.moved hW.alike hK, hD⟩, hS.F ht⟩) hS.2.2 d_Mo_plan_141
                · have h := lf_t h c_11
                  refine lv_aload_n hx hb d_Mo_plan_77 rfl (lv_at hl 1 rfl) ?_
                  refine va_get (D := (dC, dI)) (ci := 12) (v := .int S_7.v_inodes) (C := R_Mo) (T := F_Mo) (N := 66) hx hb hts (fun w h => u_Mq_Mo w (i_Mo w h)) hown hK hP 0 rfl rfl 48 (by decide) (hts _ (u_Mq_Mo _ k_Mo_55)) (fun _ h9 => h9) rfl d_Mo_plan_78 ?_
                  refine lv_goto (tgt := 141) hx hb d_Mo_plan_81 (by decide) ?_
                  rw [hQ]
                  have e1 : S_7.v_inodes = r := congrArg Prod.fst (Option.some.inj h)
                  have e2 : S_7 = S' := congrArg Prod.snd (Option.some.inj h)
                  have hP := lx_newP e2.symm hP
                  have hD := lx_newD e2.symm hD
                  exact W.iret (v := S_7.v_inodes) hx hb hr (fun t ht hW => ⟨⟨S_7.v_inodes, (), rfl, e1, by rw [ht]; exact hP, va_K.moved hW.alike hK, hD⟩, hS.F ht⟩) hS.2.2 d_Mo_plan_141
              · have h := lf_t h c_10
                refine lv_aload_n hx hb d_Mo_plan_65 rfl (lv_at hl 1 rfl) ?_
                refine va_get (D := (dC, dI)) (ci := 12) (v := .int S_7.v_groups) (C := R_Mo) (T := F_Mo) (N := 66) hx hb hts (fun w h => u_Mq_Mo w (i_Mo w h)) hown hK hP 0 rfl rfl 46 (by decide) (hts _ (u_Mq_Mo _ k_Mo_53)) (fun _ h9 => h9) rfl d_Mo_plan_66 ?_
                refine lv_goto (tgt := 141) hx hb d_Mo_plan_69 (by decide) ?_
                rw [hQ]
                have e1 : S_7.v_groups = r := congrArg Prod.fst (Option.some.inj h)
                have e2 : S_7 = S' := congrArg Prod.snd (Option.some.inj h)
                have hP := lx_newP e2.symm hP
                have hD := lx_newD e2.symm hD
                exact W.iret (v := S_7.v_groups) hx hb hr (fun t ht hW => ⟨⟨S_7.v_groups, (), rfl, e1, by rw [ht]; exact hP, va_K.moved hW.alike hK, hD⟩, hS.F ht⟩) hS.2.2 d_Mo_plan_141
            · have h := lf_f h c_9
              exact hB_50 p1 r_7 S_7 _ _ _ h hP hD hS (lv_sub hl [3, 0] rfl)
        · have h := lf_f h c_6
          exact hB_34 S_2 _ _ _ h hP hD hS (lv_sub hl [] rfl)
set_option maxHeartbeats 4000000 in
set_option maxRecDepth 100000 in
theorem l_Mo_target (l : Launch) (dC : Nat → ClassId) (dI : Nat → Nat → Nat) {K : Nat} {M : MA} {E : (Nat → Prop) → State → Prop} (X : lx_X l dC dI K M E) (sz : Nat) {S S' : MS} {p0 : Int32} {p1 : Int32} {r : Int32} (h : f_Mo_target K S p0 p1 = some (r, S')) : Met l y_Mo_target (.code y_Mo_target b_Mo_target 3 (some .int) :: V_Mq) ({ frames := 13, cells := 0, slots := 0, locals := 360 }) (va_Pc [.ref M.o, .int p0, .int p1] (fun U => U.heap.size = sz ∧ at_ (dC, dI) (fun _ => True) (wM M S) (tM M) U ∧ E (va_A (wM M S) sz) U)) (va_Qi (fun (r_ : Int32) (u : Unit) => r_ = r) (fun (u : Unit) t => at_ (dC, dI) (va_A (wM M S) sz) (wM M S') (tM M) t) (va_A (wM M S) sz)) 0 0 (va_A (wM M S) sz) := by
  refine Met.ofW (cc := b_Mo_target) (maxL := 3) (ret := (some .int)) (by decide) rfl ?_
  intro p e s m args below meth c s₁ B hml hv
  obtain ⟨rfl, hsz, ⟨hP, hK, hD0⟩, hE⟩ := hv
  have hx := B.exec
  have hb := B.bytes
  have hr := B.returns
  have hts0 := atoms_spec (ws := .code y_Mo_target b_Mo_target 3 (some .int) :: V_Mq) B.pre
  have hts : ∀ w ∈ V_Mq, w.before ([.ref M.o, .int p0, .int p1] : List Value).toArray s = true := fun w h => hts0 w (List.mem_cons_of_mem _ h)
  have hown : s.vm.findClass R_Mo = some m.cls := findClass_of_methodNamed B.named
  subst hsz
  have hD := hD0.self (sz := s.heap.size)
  generalize hAe : va_A (wM M S) s.heap.size = A at hD hE ⊢
  have hA : ∀ q : Nat, s.heap.size ≤ q → A q := fun q h => by rw [← hAe]; exact Or.inr h
  have hS : va_S A s.heap s.heap [] := va_S.rf
  have hP : va_P (dC, dI) classes (wM M S) s.heap := hP
  have hK : va_K (dC, dI) classes (tM M) s := hK
  have hEw : ∀ (H : Heap) (locs : List Loc), va_S A s.heap H locs → ∀ U : State, U.heap = H → s.WarmedH U.vm → E A U := fun H locs hS U hU hW => X.kept A s U H locs hE hS hU hW
  have hl := lv_entry ([.ref M.o, .int p0, .int p1]) (n := 3) (Nat.le_of_ble_eq_true rfl)
  rw [lg_entry_eq]
  generalize (lg_sl ([.ref M.o, .int p0, .int p1]) ++ List.replicate (3 - (lg_sl ([.ref M.o, .int p0, .int p1])).length) Slot.unset).toArray = ls at hl ⊢
  have hl : lv_has ls 3 [(0, .ref M.o), (1, .int p0), (2, .int p1)] := hl
  refine qabs (fun Q hQ => ?_)
  have hB_32 : ∀ (S : MS) (H : Heap) (locs : List Loc) (ls : Array Slot), f_Mo_target_32 K S = some (r, S') → va_P (dC, dI) classes (wM M S) H → va_D A (wM M S) → va_S A s.heap H locs → lv_has ls 3 [] → W p l e ({ frames := 13, cells := 0, slots := 0, locals := 360 }) s m ([.ref M.o, .int p0, .int p1] : List Value).toArray below meth c H locs 0 0 Q (F0 m 32 ls []) := by
    intro S H locs ls h hP hD hS hl
    rw [f_Mo_target_32] at h
    refine lv_iconst (v := (-1)) hx hb d_Mo_target_32 (by decide) ?_
    rw [hQ]
    have e1 : ((-1)) = r := congrArg Prod.fst (Option.some.inj h)
    have e2 : S = S' := congrArg Prod.snd (Option.some.inj h)
    have hP := lx_newP e2.symm hP
    have hD := lx_newD e2.symm hD
    exact W.iret (v := ((-1))) hx hb hr (fun t ht hW => ⟨⟨((-1)), (), rfl, e1, by rw [ht]; exact hP, va_K.moved hW.alike hK, hD⟩, hS.F ht⟩) hS.2.2 d_Mo_target_33
  rw [f_Mo_target] at h
  refine lv_aload_n hx hb d_Mo_target_0 rfl (lv_at hl 0 rfl) ?_
  refine lv_iconst (v := 0) hx hb d_Mo_target_1 (by decide) ?_
  refine va_put (D := (dC, dI)) (ci := 12) (v := .int 0) (ty := .int) (C := R_Mo) (T := F_Mo) (N := 66) hx hb hts (fun w h => u_Mq_Mo w (i_Mo w h)) t_Mo t_Mo_ok n_Mo hown hK hP hD hS 0 rfl rfl 6 (by decide) (hts _ (u_Mq_Mo _ k_Mo_13)) (fun _ h9 => h9) rfl (by decide +kernel) rfl rfl (Nat.le_of_ble_eq_true rfl) d_Mo_target_2 (fun H locs hP hD hS => ?_)
  obtain ⟨S_1, eS_1, h⟩ := lf_lX h
  have hP := lx_newP eS_1 hP
  have hD := lx_newD eS_1 hD
  refine lv_aload_n hx hb d_Mo_target_5 rfl (lv_at hl 0 rfl) ?_
  obtain ⟨S_2, hc_2, h⟩ := lf_bE h
  have hFc := lx_free hD hS hA
  refine va_callv (va_runV (As := []) (rest := []) ⟨hx, hb, hml, hown, hts⟩ (l_Mo_look l dC dI X _ hc_2) (cwV 0 hts (gwV good_Mq (u_Mq_Mo _ k_Mo_88) (u_Mq_Mo _ k_Mo_89) (u_Mq_Mo _ k_Mo_492) (u_Mq_Mo _ k_Mo_0) (wcs (u_Mq_Mo _ k_Mo_90) (fun _ h => h))) rfl rfl rfl (by decide +kernel) ⟨Nat.le_of_ble_eq_true rfl, Nat.le_of_ble_eq_true rfl⟩) (pv_ofE (X.same _) (fun U z1 z2 => X.mono _ _ U hFc (hEw _ _ hS U z1 z2)) hP hK hD (va_recv hK hP (ci := 12) (q0 := 0) rfl rfl)) rfl rfl hl.1 rfl (lv_room (Nat.le_of_ble_eq_true rfl)) d_Mo_target_6 ⟨by decide, by decide⟩) hS (fun q _ h => hFc q h) hFc (fun u t H locs ht hvm hw hB hz1 hk1 hS => ?_)
  obtain ⟨hP, -, hD⟩ := hB
  rw [ht] at hP
  have hD := lx_dj hD hFc
  refine lv_aload_n hx hb d_Mo_target_9 rfl (lv_at hl 0 rfl) ?_
  refine va_get (D := (dC, dI)) (ci := 12) (v := .int S_2.v_turned) (C := R_Mo) (T := F_Mo) (N := 66) hx hb hts (fun w h => u_Mq_Mo w (i_Mo w h)) hown hK hP 0 rfl rfl 9 (by decide) (hts _ (u_Mq_Mo _ k_Mo_16)) (fun _ h9 => h9) rfl d_Mo_target_10 ?_
  refine lv_if_ne (tgt := 32) hx hb d_Mo_target_13 (by decide) (fun c_3 => ?_) (fun c_3 => ?_)
  · have h := lf_f h c_3
    exact hB_32 S_2 _ _ _ h hP hD hS (lv_sub hl [] rfl)
  · have h := lf_t h c_3
    refine lv_aload_n hx hb d_Mo_target_16 rfl (lv_at hl 0 rfl) ?_
    refine va_get (D := (dC, dI)) (ci := 12) (v := .int S_2.v_fault) (C := R_Mo) (T := F_Mo) (N := 66) hx hb hts (fun w h => u_Mq_Mo w (i_Mo w h)) hown hK hP 0 rfl rfl 20 (by decide) (hts _ (u_Mq_Mo _ k_Mo_27)) (fun _ h9 => h9) rfl d_Mo_target_17 ?_
    refine lv_iconst (v := 1) hx hb d_Mo_target_20 (by decide) ?_
    refine lv_icmp_eq (tgt := 32) hx hb d_Mo_target_21 (by decide) (fun c_4 => ?_) (fun c_4 => ?_)
    · have h := lf_t h c_4
      exact hB_32 S_2 _ _ _ h hP hD hS (lv_sub hl [] rfl)
    · have h := lf_f h c_4
      refine lv_aload_n hx hb d_Mo_target_24 rfl (lv_at hl 0 rfl) ?_
      refine lv_iload_n hx hb d_Mo_target_25 rfl (lv_at hl 1 rfl) ?_
      obtain ⟨r_5, S_5, hc_5, h⟩ := lf_cE h
      have hFc := lx_free hD hS hA
      refine va_calli (va_runV (As := [.int p0]) (rest := []) ⟨hx, hb, hml, hown, hts⟩ (l_Mo_refusal l dC dI X _ hc_5) (cwV 1 hts (gwV good_Mq (u_Mq_Mo _ k_Mo_367) (u_Mq_Mo _ k_Mo_368) (u_Mq_Mo _ k_Mo_537) (u_Mq_Mo _ k_Mo_0) (wcs (u_Mq_Mo _ k_Mo_369) (fun _ h => h))) rfl rfl rfl (by decide +kernel) ⟨Nat.le_of_ble_eq_true rfl, Nat.le_of_ble_eq_true rfl⟩) (pv_ofE (X.same _) (fun U z1 z2 => X.mono _ _ U hFc (hEw _ _ hS U z1 z2)) hP hK hD (va_recv hK hP (ci := 12) (q0 := 0) rfl rfl)) rfl rfl hl.1 rfl (lv_room (Nat.le_of_ble_eq_true rfl)) d_Mo_target_26 ⟨by decide, by decide⟩) hS (fun q _ h => hFc q h) hFc (fun r_ u t H locs ht hvm hw hB hz1 hk1 hS => ?_)
      rw [hw]
      obtain ⟨hP, -, hD⟩ := hB
      rw [ht] at hP
      have hD := lx_dj hD hFc
      refine lv_if_le (tgt := 34) hx hb d_Mo_target_29 (by decide) (fun c_6 => ?_) (fun c_6 => ?_)
      · have h := lf_t h c_6
        refine lv_aload_n hx hb d_Mo_target_34 rfl (lv_at hl 0 rfl) ?_
        refine lv_iload_n hx hb d_Mo_target_35 rfl (lv_at hl 2 rfl) ?_
        obtain ⟨r_7, S_7, hc_7, h⟩ := lf_cE h
        have hFc := lx_free hD hS hA
        refine va_calli (va_runV (As := [.int p1]) (rest := []) ⟨hx, hb, hml, hown, hts⟩ (l_Mo_isCluster l dC dI X _ hc_7) (cwV 1 hts (gwV good_Mq (u_Mq_Mo _ k_Mo_104) (u_Mq_Mo _ k_Mo_105) (u_Mq_Mo _ k_Mo_482) (u_Mq_Mo _ k_Mo_0) (wcs (u_Mq_Mo _ k_Mo_106) (fun _ h => h))) rfl rfl rfl (by decide +kernel) ⟨Nat.le_of_ble_eq_true rfl, Nat.le_of_ble_eq_true rfl⟩) (pv_ofE (X.same _) (fun U z1 z2 => X.mono _ _ U hFc (hEw _ _ hS U z1 z2)) hP hK hD (va_recv hK hP (ci := 12) (q0 := 0) rfl rfl)) rfl rfl hl.1 rfl (lv_room (Nat.le_of_ble_eq_true rfl)) d_Mo_target_36 ⟨by decide, by decide⟩) hS (fun q _ h => hFc q h) hFc (fun r_ u t H locs ht hvm hw hB hz1 hk1 hS => ?_)
        rw [hw]
        obtain ⟨hP, -, hD⟩ := hB
        rw [ht] at hP
        have hD := lx_dj hD hFc
        refine lv_if_eq (tgt := 51) hx hb d_Mo_target_39 (by decide) (fun c_8 => ?_) (fun c_8 => ?_)
        · have h := lf_t h c_8
          refine lv_iconst (v := (-1)) hx hb d_Mo_target_51 (by decide) ?_
          rw [hQ]
          have e1 : ((-1)) = r := congrArg Prod.fst (Option.some.inj h)
          have e2 : S_7 = S' := congrArg Prod.snd (Option.some.inj h)
          have hP := lx_newP e2.symm hP
          have hD := lx_newD e2.symm hD
          exact W.iret (v := ((-1))) hx hb hr (fun t ht hW => ⟨⟨((-1)), (), rfl, e1, by rw [ht]; exact hP, va_K.moved hW.alike hK, hD⟩, hS.F ht⟩) hS.2.2 d_Mo_target_52
        · have h := lf_f h c_8
          refine lv_aload_n hx hb d_Mo_target_42 rfl (lv_at hl 0 rfl) ?_
          refine va_get (D := (dC, dI)) (ci := 12) (v := .ref M.a_moved) (C := R_Mo) (T := F_Mo) (N := 66) hx hb hts (fun w h => u_Mq_Mo w (i_Mo w h)) hown hK hP 0 rfl rfl 53 (by decide) (hts _ (u_Mq_Mo _ k_Mo_60)) (fun _ h9 => h9) rfl d_Mo_target_43 ?_
          refine lv_iload_n hx hb d_Mo_target_46 rfl (lv_at hl 2 rfl) ?_
          obtain ⟨g_9, h⟩ := lf_gE h
          refine va_iald hx hb hK hP 23 22 rfl rfl g_9 d_Mo_target_47 ?_
          refine lv_goto (tgt := 52) hx hb d_Mo_target_48 (by decide) ?_
          rw [hQ]
          have e1 : (S_7.v_moved p1.toNatClampNeg) = r := congrArg Prod.fst (Option.some.inj h)
          have e2 : S_7 = S' := congrArg Prod.snd (Option.some.inj h)
          have hP := lx_newP e2.symm hP
          have hD := lx_newD e2.symm hD
          exact W.iret (v := (S_7.v_moved p1.toNatClampNeg)) hx hb hr (fun t ht hW => ⟨⟨(S_7.v_moved p1.toNatClampNeg), (), rfl, e1, by rw [ht]; exact hP, va_K.moved hW.alike hK, hD⟩, hS.F ht⟩) hS.2.2 d_Mo_target_52
      · have h := lf_f h c_6
        exact hB_32 S_5 _ _ _ h hP hD hS (lv_sub hl [] rfl)
set_option maxHeartbeats 4000000 in
set_option maxRecDepth 100000 in
theorem l_Mo_lay (l : Launch) (dC : Nat → ClassId) (dI : Nat → Nat → Nat) {K : Nat} {M : MA} {E : (Nat → Prop) → State → Prop} (X : lx_X l dC dI K M E) (sz : Nat) {S S' : MS} {p0 : Int32} {p1 : Int32} {p2 : Int64} (h : f_Mo_lay K S p0 p1 p2 = some S') : Met l y_Mo_lay (.code y_Mo_lay b_Mo_lay 6 none :: V_Mq) ({ frames := 0, cells := 0, slots := 0, locals := 0 }) (va_Pc [.ref M.o, .int p0, .int p1, .long p2] (fun U => U.heap.size = sz ∧ at_ (dC, dI) (fun _ => True) (wM M S) (tM M) U ∧ E (va_A (wM M S) sz) U)) (va_Qv (fun (u : Unit) => True) (fun (u : Unit) t => at_ (dC, dI) (va_A (wM M S) sz) (wM M S') (tM M) t) (va_A (wM M S) sz)) 0 0 (va_A (wM M S) sz) := by
  refine Met.ofW (cc := b_Mo_lay) (maxL := 6) (ret := none) (by decide) rfl ?_
  intro p e s m args below meth c s₁ B hml hv
  obtain ⟨rfl, hsz, ⟨hP, hK, hD0⟩, hE⟩ := hv
  have hx := B.exec
  have hb := B.bytes
  have hr := B.returns
  have hts0 := atoms_spec (ws := .code y_Mo_lay b_Mo_lay 6 none :: V_Mq) B.pre
  have hts : ∀ w ∈ V_Mq, w.before ([.ref M.o, .int p0, .int p1, .long p2] : List Value).toArray s = true := fun w h => hts0 w (List.mem_cons_of_mem _ h)
  have hown : s.vm.findClass R_Mo = some m.cls := findClass_of_methodNamed B.named
  subst hsz
  have hD := hD0.self (sz := s.heap.size)
  generalize hAe : va_A (wM M S) s.heap.size = A at hD hE ⊢
  have hA : ∀ q : Nat, s.heap.size ≤ q → A q := fun q h => by rw [← hAe]; exact Or.inr h
  have hS : va_S A s.heap s.heap [] := va_S.rf
  have hP : va_P (dC, dI) classes (wM M S) s.heap := hP
  have hK : va_K (dC, dI) classes (tM M) s := hK
  have hEw : ∀ (H : Heap) (locs : List Loc), va_S A s.heap H locs → ∀ U : State, U.heap = H → s.WarmedH U.vm → E A U := fun H locs hS U hU hW => X.kept A s U H locs hE hS hU hW
  have hl := lv_entry ([.ref M.o, .int p0, .int p1, .long p2]) (n := 6) (Nat.le_of_ble_eq_true rfl)
  rw [lg_entry_eq]
  generalize (lg_sl ([.ref M.o, .int p0, .int p1, .long p2]) ++ List.replicate (6 - (lg_sl ([.ref M.o, .int p0, .int p1, .long p2])).length) Slot.unset).toArray = ls at hl ⊢
  have hl : lv_has ls 6 [(0, .ref M.o), (1, .int p0), (2, .int p1), (3, .long p2)] := hl
  refine qabs (fun Q hQ => ?_)
  have hB_3 : ∀ (k : Nat), ∀ (y_1 : Int32) (y_2 : Int32) (y_3 : Int64) (y_5 : Int32) (S : MS) (H : Heap) (locs : List Loc) (ls : Array Slot), f_Mo_lay_3 K k y_1 y_2 y_3 y_5 S = some S' → va_P (dC, dI) classes (wM M S) H → va_D A (wM M S) → va_S A s.heap H locs → lv_has ls 6 [(0, .ref M.o), (1, .int y_1), (2, .int y_2), (3, .long y_3), (5, .int y_5)] → W p l e ({ frames := 0, cells := 0, slots := 0, locals := 0 }) s m ([.ref M.o, .int p0, .int p1, .long p2] : List Value).toArray below meth c H locs 0 0 Q (F0 m 3 ls []) := by
    intro k
    induction k with
    | zero => intro y_1 y_2 y_3 y_5 S H locs ls h; exact lf_no h
    | succ k hr_3 =>
      intro y_1 y_2 y_3 y_5 S H locs ls h hP hD hS hl
      rw [f_Mo_lay_3] at h
      refine lv_iload hx hb d_Mo_lay_3 (lv_at hl 4 rfl) ?_
      refine lv_iload_n hx hb d_Mo_lay_5 rfl (lv_at hl 2 rfl) ?_
      refine lv_icmp_ge (tgt := 33) hx hb d_Mo_lay_6 (by decide) (fun c_1 => ?_) (fun c_1 => ?_)
      · have h := lf_t h c_1
        rw [hQ]
        have e2 : S = S' := Option.some.inj h
        have hP := lx_newP e2.symm hP
        have hD := lx_newD e2.symm hD
        exact W.vret hx hb hr (fun t ht hW => ⟨⟨(), rfl, trivial, by rw [ht]; exact hP, va_K.moved hW.alike hK, hD⟩, hS.F ht⟩) hS.2.2 d_Mo_lay_33
      · have h := lf_f h c_1
        refine lv_aload_n hx hb d_Mo_lay_9 rfl (lv_at hl 0 rfl) ?_
        refine va_get (D := (dC, dI)) (ci := 12) (v := .ref M.a_fresh) (C := R_Mo) (T := F_Mo) (N := 66) hx hb hts (fun w h => u_Mq_Mo w (i_Mo w h)) hown hK hP 0 rfl rfl 2 (by decide) (hts _ (u_Mq_Mo _ k_Mo_9)) (fun _ h9 => h9) rfl d_Mo_lay_10 ?_
        refine lv_iload_n hx hb d_Mo_lay_13 rfl (lv_at hl 1 rfl) ?_
        refine lv_iload hx hb d_Mo_lay_14 (lv_at hl 4 rfl) ?_
        refine lv_iadd hx hb d_Mo_lay_16 ?_
        refine lv_lload_n hx hb d_Mo_lay_17 rfl (lv_at hl 3 rfl) ?_
        refine lv_bipush (v := 8) hx hb d_Mo_lay_18 (by decide) ?_
        refine lv_iload hx hb d_Mo_lay_20 (lv_at hl 4 rfl) ?_
        refine lv_imul hx hb d_Mo_lay_22 ?_
        refine lv_lshr hx hb d_Mo_lay_23 rfl ?_
        refine lv_l2i hx hb d_Mo_lay_24 rfl ?_
        refine lv_i2b hx hb d_Mo_lay_25 rfl ?_
        obtain ⟨g_2, h⟩ := lf_gE h
        refine va_bast hx hb hK hP hD hS 2 1 rfl rfl g_2 d_Mo_lay_26 (fun H locs hP hD hS => ?_)
        obtain ⟨S_3, eS_3, h⟩ := lf_lX h
        have hP := lx_newP eS_3 hP
        have hD := lx_newD eS_3 hD
        obtain ⟨x_4, ex_4, h⟩ := lf_lX h
        refine lv_iinc (v := x_4) (lv' := [(5, .int x_4), (0, .ref M.o), (1, .int y_1), (2, .int y_2), (3, .long y_3)]) hx hb d_Mo_lay_27 hl (k := 4) rfl (by rw [ex_4]; rfl) (by decide) rfl (fun ls hl => ?_)
        refine lv_goto (tgt := 3) hx hb d_Mo_lay_30 (by decide) ?_
        exact hr_3 y_1 y_2 y_3 x_4 S_3 _ _ _ h hP hD hS (lv_sub hl [1, 2, 3, 4, 0] rfl)
  rw [f_Mo_lay] at h
  refine lv_iconst (v := 0) hx hb d_Mo_lay_0 (by decide) ?_
  refine lv_istore (lv' := [(5, .int 0), (0, .ref M.o), (1, .int p0), (2, .int p1), (3, .long p2)]) hx hb d_Mo_lay_1 hl (by decide) rfl (fun ls hl => ?_)
  exact hB_3 K p0 p1 p2 0 S _ _ _ h hP hD hS (lv_sub hl [1, 2, 3, 4, 0] rfl)
set_option maxHeartbeats 4000000 in
set_option maxRecDepth 100000 in
theorem l_Mo_build (l : Launch) (dC : Nat → ClassId) (dI : Nat → Nat → Nat) {K : Nat} {M : MA} {E : (Nat → Prop) → State → Prop} (X : lx_X l dC dI K M E) (sz : Nat) {S S' : MS} {r : Int32} (h : f_Mo_build K S = some (r, S')) : Met l y_Mo_build (.code y_Mo_build b_Mo_build 2 (some .int) :: V_Mq) ({ frames := 0, cells := 0, slots := 0, locals := 0 }) (va_Pc [.ref M.o] (fun U => U.heap.size = sz ∧ at_ (dC, dI) (fun _ => True) (wM M S) (tM M) U ∧ E (va_A (wM M S) sz) U)) (va_Qi (fun (r_ : Int32) (u : Unit) => r_ = r) (fun (u : Unit) t => at_ (dC, dI) (va_A (wM M S) sz) (wM M S') (tM M) t) (va_A (wM M S) sz)) 0 0 (va_A (wM M S) sz) := by
  refine Met.ofW (cc := b_Mo_build) (maxL := 2) (ret := (some .int)) (by decide) rfl ?_
  intro p e s m args below meth c s₁ B hml hv
  obtain ⟨rfl, hsz, ⟨hP, hK, hD0⟩, hE⟩ := hv
  have hx := B.exec
  have hb := B.bytes
  have hr := B.returns
  have hts0 := atoms_spec (ws := .code y_Mo_build b_Mo_build 2 (some .int) :: V_Mq) B.pre
  have hts : ∀ w ∈ V_Mq, w.before ([.ref M.o] : List Value).toArray s = true := fun w h => hts0 w (List.mem_cons_of_mem _ h)
  have hown : s.vm.findClass R_Mo = some m.cls := findClass_of_methodNamed B.named
  subst hsz
  have hD := hD0.self (sz := s.heap.size)
  generalize hAe : va_A (wM M S) s.heap.size = A at hD hE ⊢
  have hA : ∀ q : Nat, s.heap.size ≤ q → A q := fun q h => by rw [← hAe]; exact Or.inr h
  have hS : va_S A s.heap s.heap [] := va_S.rf
  have hP : va_P (dC, dI) classes (wM M S) s.heap := hP
  have hK : va_K (dC, dI) classes (tM M) s := hK
  have hEw : ∀ (H : Heap) (locs : List Loc), va_S A s.heap H locs → ∀ U : State, U.heap = H → s.WarmedH U.vm → E A U := fun H locs hS U hU hW => X.kept A s U H locs hE hS hU hW
  have hl := lv_entry ([.ref M.o]) (n := 2) (Nat.le_of_ble_eq_true rfl)
  rw [lg_entry_eq]
  generalize (lg_sl ([.ref M.o]) ++ List.replicate (2 - (lg_sl ([.ref M.o])).length) Slot.unset).toArray = ls at hl ⊢
  have hl : lv_has ls 2 [(0, .ref M.o)] := hl
  refine qabs (fun Q hQ => ?_)
  rw [f_Mo_build] at h
  refine lv_aload_n hx hb d_Mo_build_0 rfl (lv_at hl 0 rfl) ?_
  refine va_get (D := (dC, dI)) (ci := 12) (v := .ref M.a_built) (C := R_Mo) (T := F_Mo) (N := 66) hx hb hts (fun w h => u_Mq_Mo w (i_Mo w h)) hown hK hP 0 rfl rfl 55 (by decide) (hts _ (u_Mq_Mo _ k_Mo_62)) (fun _ h9 => h9) rfl d_Mo_build_1 ?_
  refine lv_aload_n hx hb d_Mo_build_4 rfl (lv_at hl 0 rfl) ?_
  refine va_get (D := (dC, dI)) (ci := 12) (v := .int S.v_next) (C := R_Mo) (T := F_Mo) (N := 66) hx hb hts (fun w h => u_Mq_Mo w (i_Mo w h)) hown hK hP 0 rfl rfl 60 (by decide) (hts _ (u_Mq_Mo _ k_Mo_67)) (fun _ h9 => h9) rfl d_Mo_build_5 ?_
  obtain ⟨g_1, h⟩ := lf_gE h
  refine va_iald hx hb hK hP 25 24 rfl rfl g_1 d_Mo_build_8 ?_
  refine lv_topi (fun x_2 ex_2 => ?_)
  have h := lf_lE h ex_2
  refine lv_istore_n (lv' := [(1, .int x_2), (0, .ref M.o)]) hx hb d_Mo_build_9 rfl hl (by decide) rfl (fun ls hl => ?_)
  refine lv_aload_n hx hb d_Mo_build_10 rfl (lv_at hl 1 rfl) ?_
  refine lv_dup hx hb d_Mo_build_11 rfl ?_
  refine va_get (D := (dC, dI)) (ci := 12) (v := .int S.v_next) (C := R_Mo) (T := F_Mo) (N := 66) hx hb hts (fun w h => u_Mq_Mo w (i_Mo w h)) hown hK hP 0 rfl rfl 60 (by decide) (hts _ (u_Mq_Mo _ k_Mo_67)) (fun _ h9 => h9) rfl d_Mo_build_12 ?_
  refine lv_iconst (v := 1) hx hb d_Mo_build_15 (by decide) ?_
  refine lv_iadd hx hb d_Mo_build_16 ?_
  refine va_put (D := (dC, dI)) (ci := 12) (v := .int (S.v_next + 1)) (ty := .int) (C := R_Mo) (T := F_Mo) (N := 66) hx hb hts (fun w h => u_Mq_Mo w (i_Mo w h)) t_Mo t_Mo_ok n_Mo hown hK hP hD hS 0 rfl rfl 60 (by decide) (hts _ (u_Mq_Mo _ k_Mo_67)) (fun _ h9 => h9) rfl (by decide +kernel) rfl rfl (Nat.le_of_ble_eq_true rfl) d_Mo_build_17 (fun H locs hP hD hS => ?_)
  obtain ⟨S_3, eS_3, h⟩ := lf_lX h
  have hP := lx_newP eS_3 hP
  have hD := lx_newD eS_3 hD
  refine lv_aload_n hx hb d_Mo_build_20 rfl (lv_at hl 1 rfl) ?_
  refine va_get (D := (dC, dI)) (ci := 12) (v := .ref M.a_used) (C := R_Mo) (T := F_Mo) (N := 66) hx hb hts (fun w h => u_Mq_Mo w (i_Mo w h)) hown hK hP 0 rfl rfl 52 (by decide) (hts _ (u_Mq_Mo _ k_Mo_59)) (fun _ h9 => h9) rfl d_Mo_build_21 ?_
  refine lv_iload_n hx hb d_Mo_build_24 rfl (lv_at hl 0 rfl) ?_
  refine lv_iconst (v := 1) hx hb d_Mo_build_25 (by decide) ?_
  obtain ⟨g_4, h⟩ := lf_gE h
  refine va_zast hx hb hK hP hD hS 22 21 rfl rfl g_4 d_Mo_build_26 (fun H locs hP hD hS => ?_)
  obtain ⟨S_5, eS_5, h⟩ := lf_lX h
  have hP := lx_newP eS_5 hP
  have hD := lx_newD eS_5 hD
  refine lv_iload_n hx hb d_Mo_build_27 rfl (lv_at hl 0 rfl) ?_
  rw [hQ]
  have e1 : x_2 = r := congrArg Prod.fst (Option.some.inj h)
  have e2 : S_5 = S' := congrArg Prod.snd (Option.some.inj h)
  have hP := lx_newP e2.symm hP
  have hD := lx_newD e2.symm hD
  exact W.iret (v := x_2) hx hb hr (fun t ht hW => ⟨⟨x_2, (), rfl, e1, by rw [ht]; exact hP, va_K.moved hW.alike hK, hD⟩, hS.F ht⟩) hS.2.2 d_Mo_build_28
set_option maxHeartbeats 4000000 in
set_option maxRecDepth 100000 in
theorem l_Mo_inodeAt (l : Launch) (dC : Nat → ClassId) (dI : Nat → Nat → Nat) {K : Nat} {M : MA} {E : (Nat → Prop) → State → Prop} (X : lx_X l dC dI K M E) (sz : Nat) {S S' : MS} {p0 : Int32} {r : Int32} (h : f_Mo_inodeAt K S p0 = some (r, S')) : Met l y_Mo_inodeAt (.code y_Mo_inodeAt b_Mo_inodeAt 2 (some .int) :: V_Mq) ({ frames := 1, cells := 0, slots := 0, locals := 21 }) (va_Pc [.ref M.o, .int p0] (fun U => U.heap.size = sz ∧ at_ (dC, dI) (fun _ => True) (wM M S) (tM M) U ∧ E (va_A (wM M S) sz) U)) (va_Qi (fun (r_ : Int32) (u : Unit) => r_ = r) (fun (u : Unit) t => at_ (dC, dI) (va_A (wM M S) sz) (wM M S') (tM M) t) (va_A (wM M S) sz)) 0 0 (va_A (wM M S) sz) := by
  refine Met.ofW (cc := b_Mo_inodeAt) (maxL := 2) (ret := (some .int)) (by decide) rfl ?_
  intro p e s m args below meth c s₁ B hml hv
  obtain ⟨rfl, hsz, ⟨hP, hK, hD0⟩, hE⟩ := hv
  have hx := B.exec
  have hb := B.bytes
  have hr := B.returns
  have hts0 := atoms_spec (ws := .code y_Mo_inodeAt b_Mo_inodeAt 2 (some .int) :: V_Mq) B.pre
  have hts : ∀ w ∈ V_Mq, w.before ([.ref M.o, .int p0] : List Value).toArray s = true := fun w h => hts0 w (List.mem_cons_of_mem _ h)
  have hown : s.vm.findClass R_Mo = some m.cls := findClass_of_methodNamed B.named
  subst hsz
  have hD := hD0.self (sz := s.heap.size)
  generalize hAe : va_A (wM M S) s.heap.size = A at hD hE ⊢
  have hA : ∀ q : Nat, s.heap.size ≤ q → A q := fun q h => by rw [← hAe]; exact Or.inr h
  have hS : va_S A s.heap s.heap [] := va_S.rf
  have hP : va_P (dC, dI) classes (wM M S) s.heap := hP
  have hK : va_K (dC, dI) classes (tM M) s := hK
  have hEw : ∀ (H : Heap) (locs : List Loc), va_S A s.heap H locs → ∀ U : State, U.heap = H → s.WarmedH U.vm → E A U := fun H locs hS U hU hW => X.kept A s U H locs hE hS hU hW
  have hl := lv_entry ([.ref M.o, .int p0]) (n := 2) (Nat.le_of_ble_eq_true rfl)
  rw [lg_entry_eq]
  generalize (lg_sl ([.ref M.o, .int p0]) ++ List.replicate (2 - (lg_sl ([.ref M.o, .int p0])).length) Slot.unset).toArray = ls at hl ⊢
  have hl : lv_has ls 2 [(0, .ref M.o), (1, .int p0)] := hl
  refine qabs (fun Q hQ => ?_)
  rw [f_Mo_inodeAt] at h
  refine lv_sipush (v := 1024) hx hb d_Mo_inodeAt_0 (by decide) ?_
  refine lv_aload_n hx hb d_Mo_inodeAt_3 rfl (lv_at hl 0 rfl) ?_
  refine lv_iload_n hx hb d_Mo_inodeAt_4 rfl (lv_at hl 1 rfl) ?_
  refine lv_iconst (v := 1) hx hb d_Mo_inodeAt_5 (by decide) ?_
  refine lv_isub hx hb d_Mo_inodeAt_6 ?_
  refine lv_aload_n hx hb d_Mo_inodeAt_7 rfl (lv_at hl 0 rfl) ?_
  refine va_get (D := (dC, dI)) (ci := 12) (v := .int S.v_inodes) (C := R_Mo) (T := F_Mo) (N := 66) hx hb hts (fun w h => u_Mq_Mo w (i_Mo w h)) hown hK hP 0 rfl rfl 48 (by decide) (hts _ (u_Mq_Mo _ k_Mo_55)) (fun _ h9 => h9) rfl d_Mo_inodeAt_8 ?_
  obtain ⟨g_1, h⟩ := lf_gE h
  refine lv_idiv hx hb d_Mo_inodeAt_11 g_1 ?_
  obtain ⟨r_2, S_2, hc_2, h⟩ := lf_cE h
  have hFc := lx_free hD hS hA
  refine va_calli (va_runV (As := [.int ((p0 - 1) / S.v_inodes)]) (rest := [.int 1024]) ⟨hx, hb, hml, hown, hts⟩ (l_Mo_mapOf l dC dI X _ hc_2) (cwV 1 hts (gwV good_Mq (u_Mq_Mo _ k_Mo_376) (u_Mq_Mo _ k_Mo_377) (u_Mq_Mo _ k_Mo_530) (u_Mq_Mo _ k_Mo_0) (wcs (u_Mq_Mo _ k_Mo_378) (fun _ h => h))) rfl rfl rfl (by decide +kernel) ⟨Nat.le_of_ble_eq_true rfl, Nat.le_of_ble_eq_true rfl⟩) (pv_ofE (X.same _) (fun U z1 z2 => X.mono _ _ U hFc (hEw _ _ hS U z1 z2)) hP hK hD (va_recv hK hP (ci := 12) (q0 := 0) rfl rfl)) rfl rfl hl.1 rfl (lv_room (Nat.le_of_ble_eq_true rfl)) d_Mo_inodeAt_12 ⟨by decide, by decide⟩) hS (fun q _ h => hFc q h) hFc (fun r_ u t H locs ht hvm hw hB hz1 hk1 hS => ?_)
  rw [hw]
  obtain ⟨hP, -, hD⟩ := hB
  rw [ht] at hP
  have hD := lx_dj hD hFc
  refine lv_iconst (v := 2) hx hb d_Mo_inodeAt_15 (by decide) ?_
  refine lv_iadd hx hb d_Mo_inodeAt_16 ?_
  refine lv_imul hx hb d_Mo_inodeAt_17 ?_
  refine lv_sipush (v := 128) hx hb d_Mo_inodeAt_18 (by decide) ?_
  refine lv_iload_n hx hb d_Mo_inodeAt_21 rfl (lv_at hl 1 rfl) ?_
  refine lv_iconst (v := 1) hx hb d_Mo_inodeAt_22 (by decide) ?_
  refine lv_isub hx hb d_Mo_inodeAt_23 ?_
  refine lv_aload_n hx hb d_Mo_inodeAt_24 rfl (lv_at hl 0 rfl) ?_
  refine va_get (D := (dC, dI)) (ci := 12) (v := .int S_2.v_inodes) (C := R_Mo) (T := F_Mo) (N := 66) hx hb hts (fun w h => u_Mq_Mo w (i_Mo w h)) hown hK hP 0 rfl rfl 48 (by decide) (hts _ (u_Mq_Mo _ k_Mo_55)) (fun _ h9 => h9) rfl d_Mo_inodeAt_25 ?_
  obtain ⟨g_3, h⟩ := lf_gE h
  refine lv_irem hx hb d_Mo_inodeAt_28 g_3 ?_
  refine lv_imul hx hb d_Mo_inodeAt_29 ?_
  refine lv_iadd hx hb d_Mo_inodeAt_30 ?_
  rw [hQ]
  have e1 : ((1024 * (r_2 + 2)) + (128 * ((p0 - 1) - (p0 - 1) / S_2.v_inodes * S_2.v_inodes))) = r := congrArg Prod.fst (Option.some.inj h)
  have e2 : S_2 = S' := congrArg Prod.snd (Option.some.inj h)
  have hP := lx_newP e2.symm hP
  have hD := lx_newD e2.symm hD
  exact W.iret (v := ((1024 * (r_2 + 2)) + (128 * ((p0 - 1) - (p0 - 1) / S_2.v_inodes * S_2.v_inodes)))) hx hb hr (fun t ht hW => ⟨⟨((1024 * (r_2 + 2)) + (128 * ((p0 - 1) - (p0 - 1) / S_2.v_inodes * S_2.v_inodes))), (), rfl, e1, by rw [ht]; exact hP, va_K.moved hW.alike hK, hD⟩, hS.F ht⟩) hS.2.2 d_Mo_inodeAt_31
set_option maxHeartbeats 4000000 in
set_option maxRecDepth 100000 in
theorem l_Mo_standing (l : Launch) (dC : Nat → ClassId) (dI : Nat → Nat → Nat) {K : Nat} {M : MA} {E : (Nat → Prop) → State → Prop} (X : lx_X l dC dI K M E) (sz : Nat) {S S' : MS} {p0 : Int32} {r : Int32} (h : f_Mo_standing K S p0 = some (r, S')) : Met l y_Mo_standing (.code y_Mo_standing b_Mo_standing 3 (some .int) :: V_Mq) ({ frames := 0, cells := 0, slots := 0, locals := 0 }) (va_Pc [.ref M.o, .int p0] (fun U => U.heap.size = sz ∧ at_ (dC, dI) (fun _ => True) (wM M S) (tM M) U ∧ E (va_A (wM M S) sz) U)) (va_Qi (fun (r_ : Int32) (u : Unit) => r_ = r) (fun (u : Unit) t => at_ (dC, dI) (va_A (wM M S) sz) (wM M S') (tM M) t) (va_A (wM M S) sz)) 0 0 (va_A (wM M S) sz) := by
  refine Met.ofW (cc := b_Mo_standing) (maxL := 3) (ret := (some .int)) (by decide) rfl ?_
  intro p e s m args below meth c s₁ B hml hv
  obtain ⟨rfl, hsz, ⟨hP, hK, hD0⟩, hE⟩ := hv
  have hx := B.exec
  have hb := B.bytes
  have hr := B.returns
  have hts0 := atoms_spec (ws := .code y_Mo_standing b_Mo_standing 3 (some .int) :: V_Mq) B.pre
  have hts : ∀ w ∈ V_Mq, w.before ([.ref M.o, .int p0] : List Value).toArray s = true := fun w h => hts0 w (List.mem_cons_of_mem _ h)
  have hown : s.vm.findClass R_Mo = some m.cls := findClass_of_methodNamed B.named
  subst hsz
  have hD := hD0.self (sz := s.heap.size)
  generalize hAe : va_A (wM M S) s.heap.size = A at hD hE ⊢
  have hA : ∀ q : Nat, s.heap.size ≤ q → A q := fun q h => by rw [← hAe]; exact Or.inr h
  have hS : va_S A s.heap s.heap [] := va_S.rf
  have hP : va_P (dC, dI) classes (wM M S) s.heap := hP
  have hK : va_K (dC, dI) classes (tM M) s := hK
  have hEw : ∀ (H : Heap) (locs : List Loc), va_S A s.heap H locs → ∀ U : State, U.heap = H → s.WarmedH U.vm → E A U := fun H locs hS U hU hW => X.kept A s U H locs hE hS hU hW
  have hl := lv_entry ([.ref M.o, .int p0]) (n := 3) (Nat.le_of_ble_eq_true rfl)
  rw [lg_entry_eq]
  generalize (lg_sl ([.ref M.o, .int p0]) ++ List.replicate (3 - (lg_sl ([.ref M.o, .int p0])).length) Slot.unset).toArray = ls at hl ⊢
  have hl : lv_has ls 3 [(0, .ref M.o), (1, .int p0)] := hl
  refine qabs (fun Q hQ => ?_)
  have hB_39 : ∀ (y_1 : Int32) (z_0 : Int32) (z_1 : Int32) (S : MS) (H : Heap) (locs : List Loc) (ls : Array Slot), f_Mo_standing_39 K y_1 z_0 z_1 S = some (r, S') → va_P (dC, dI) classes (wM M S) H → va_D A (wM M S) → va_S A s.heap H locs → lv_has ls 3 [(0, .ref M.o), (1, .int y_1)] → W p l e ({ frames := 0, cells := 0, slots := 0, locals := 0 }) s m ([.ref M.o, .int p0] : List Value).toArray below meth c H locs 0 0 Q (F0 m 39 ls [.int z_1, .int z_0]) := by
    intro y_1 z_0 z_1 S H locs ls h hP hD hS hl
    rw [f_Mo_standing_39] at h
    refine lv_iconst (v := 2) hx hb d_Mo_standing_39 (by decide) ?_
    refine lv_isub hx hb d_Mo_standing_40 ?_
    refine lv_aload_n hx hb d_Mo_standing_41 rfl (lv_at hl 0 rfl) ?_
    refine va_get (D := (dC, dI)) (ci := 12) (v := .int S.v_c) (C := R_Mo) (T := F_Mo) (N := 66) hx hb hts (fun w h => u_Mq_Mo w (i_Mo w h)) hown hK hP 0 rfl rfl 11 (by decide) (hts _ (u_Mq_Mo _ k_Mo_18)) (fun _ h9 => h9) rfl d_Mo_standing_42 ?_
    refine lv_iconst (v := 2) hx hb d_Mo_standing_45 (by decide) ?_
    refine lv_idiv hx hb d_Mo_standing_46 (by decide) ?_
    refine lv_imul hx hb d_Mo_standing_47 ?_
    refine lv_iadd hx hb d_Mo_standing_48 ?_
    refine lv_iload_n hx hb d_Mo_standing_49 rfl (lv_at hl 1 rfl) ?_
    refine lv_aload_n hx hb d_Mo_standing_50 rfl (lv_at hl 0 rfl) ?_
    refine va_get (D := (dC, dI)) (ci := 12) (v := .int S.v_c) (C := R_Mo) (T := F_Mo) (N := 66) hx hb hts (fun w h => u_Mq_Mo w (i_Mo w h)) hown hK hP 0 rfl rfl 11 (by decide) (hts _ (u_Mq_Mo _ k_Mo_18)) (fun _ h9 => h9) rfl d_Mo_standing_51 ?_
    refine lv_iconst (v := 2) hx hb d_Mo_standing_54 (by decide) ?_
    refine lv_idiv hx hb d_Mo_standing_55 (by decide) ?_
    obtain ⟨g_7, h⟩ := lf_gE h
    refine lv_irem hx hb d_Mo_standing_56 g_7 ?_
    refine lv_iadd hx hb d_Mo_standing_57 ?_
    rw [hQ]
    have e1 : ((z_0 + ((z_1 - 2) * (S.v_c / 2))) + (y_1 - y_1 / (S.v_c / 2) * (S.v_c / 2))) = r := congrArg Prod.fst (Option.some.inj h)
    have e2 : S = S' := congrArg Prod.snd (Option.some.inj h)
    have hP := lx_newP e2.symm hP
    have hD := lx_newD e2.symm hD
    exact W.iret (v := ((z_0 + ((z_1 - 2) * (S.v_c / 2))) + (y_1 - y_1 / (S.v_c / 2) * (S.v_c / 2)))) hx hb hr (fun t ht hW => ⟨⟨((z_0 + ((z_1 - 2) * (S.v_c / 2))) + (y_1 - y_1 / (S.v_c / 2) * (S.v_c / 2))), (), rfl, e1, by rw [ht]; exact hP, va_K.moved hW.alike hK, hD⟩, hS.F ht⟩) hS.2.2 d_Mo_standing_58
  rw [f_Mo_standing] at h
  refine lv_aload_n hx hb d_Mo_standing_0 rfl (lv_at hl 0 rfl) ?_
  refine va_get (D := (dC, dI)) (ci := 12) (v := .ref M.a_chain) (C := R_Mo) (T := F_Mo) (N := 66) hx hb hts (fun w h => u_Mq_Mo w (i_Mo w h)) hown hK hP 0 rfl rfl 33 (by decide) (hts _ (u_Mq_Mo _ k_Mo_40)) (fun _ h9 => h9) rfl d_Mo_standing_1 ?_
  refine lv_iload_n hx hb d_Mo_standing_4 rfl (lv_at hl 1 rfl) ?_
  refine lv_aload_n hx hb d_Mo_standing_5 rfl (lv_at hl 0 rfl) ?_
  refine va_get (D := (dC, dI)) (ci := 12) (v := .int S.v_c) (C := R_Mo) (T := F_Mo) (N := 66) hx hb hts (fun w h => u_Mq_Mo w (i_Mo w h)) hown hK hP 0 rfl rfl 11 (by decide) (hts _ (u_Mq_Mo _ k_Mo_18)) (fun _ h9 => h9) rfl d_Mo_standing_6 ?_
  refine lv_iconst (v := 2) hx hb d_Mo_standing_9 (by decide) ?_
  refine lv_idiv hx hb d_Mo_standing_10 (by decide) ?_
  obtain ⟨g_1, h⟩ := lf_gE h
  refine lv_idiv hx hb d_Mo_standing_11 g_1 ?_
  obtain ⟨g_2, h⟩ := lf_gE h
  refine va_iald hx hb hK hP 15 14 rfl rfl g_2 d_Mo_standing_12 ?_
  refine lv_topi (fun x_3 ex_3 => ?_)
  have h := lf_lE h ex_3
  refine lv_istore_n (lv' := [(2, .int x_3), (0, .ref M.o), (1, .int p0)]) hx hb d_Mo_standing_13 rfl hl (by decide) rfl (fun ls hl => ?_)
  refine lv_aload_n hx hb d_Mo_standing_14 rfl (lv_at hl 1 rfl) ?_
  refine va_get (D := (dC, dI)) (ci := 12) (v := .int S.v_a) (C := R_Mo) (T := F_Mo) (N := 66) hx hb hts (fun w h => u_Mq_Mo w (i_Mo w h)) hown hK hP 0 rfl rfl 16 (by decide) (hts _ (u_Mq_Mo _ k_Mo_23)) (fun _ h9 => h9) rfl d_Mo_standing_15 ?_
  refine lv_iconst (v := 2) hx hb d_Mo_standing_18 (by decide) ?_
  refine lv_idiv hx hb d_Mo_standing_19 (by decide) ?_
  refine lv_aload_n hx hb d_Mo_standing_20 rfl (lv_at hl 1 rfl) ?_
  refine va_get (D := (dC, dI)) (ci := 12) (v := .ref M.a_moved) (C := R_Mo) (T := F_Mo) (N := 66) hx hb hts (fun w h => u_Mq_Mo w (i_Mo w h)) hown hK hP 0 rfl rfl 53 (by decide) (hts _ (u_Mq_Mo _ k_Mo_60)) (fun _ h9 => h9) rfl d_Mo_standing_21 ?_
  refine lv_iload_n hx hb d_Mo_standing_24 rfl (lv_at hl 0 rfl) ?_
  obtain ⟨g_4, h⟩ := lf_gE h
  refine va_iald hx hb hK hP 23 22 rfl rfl g_4 d_Mo_standing_25 ?_
  refine lv_if_ne (tgt := 33) hx hb d_Mo_standing_26 (by decide) (fun c_5 => ?_) (fun c_5 => ?_)
  · have h := lf_f h c_5
    refine lv_aload_n hx hb d_Mo_standing_33 rfl (lv_at hl 1 rfl) ?_
    refine va_get (D := (dC, dI)) (ci := 12) (v := .ref M.a_moved) (C := R_Mo) (T := F_Mo) (N := 66) hx hb hts (fun w h => u_Mq_Mo w (i_Mo w h)) hown hK hP 0 rfl rfl 53 (by decide) (hts _ (u_Mq_Mo _ k_Mo_60)) (fun _ h9 => h9) rfl d_Mo_standing_34 ?_
    refine lv_iload_n hx hb d_Mo_standing_37 rfl (lv_at hl 0 rfl) ?_
    obtain ⟨g_6, h⟩ := lf_gE h
    refine va_iald hx hb hK hP 23 22 rfl rfl g_6 d_Mo_standing_38 ?_
    exact hB_39 p0 (S.v_a / 2) (S.v_moved x_3.toNatClampNeg) S _ _ _ h hP hD hS (lv_sub hl [1, 2] rfl)
  · have h := lf_t h c_5
    refine lv_iload_n hx hb d_Mo_standing_29 rfl (lv_at hl 0 rfl) ?_
    refine lv_goto (tgt := 39) hx hb d_Mo_standing_30 (by decide) ?_
    exact hB_39 p0 (S.v_a / 2) x_3 S _ _ _ h hP hD hS (lv_sub hl [1, 2] rfl)
