set_option maxHeartbeats 4000000 in
set_option maxRecDepth 100000 in
theorem l_Tu_fillInodes (l : Launch) (dC : Nat → ClassId) (dI : Nat → Nat → Nat) {K : Nat} {M : CA} {E : (Nat → Prop) → State → Prop} (X : ly_X l dC dI K M E) (sz : Nat) {Y : CT} {G : CG} {S S' : CS} {p0 : Int32} (h : f_Tu_fillInodes K G S p0 = some S') : Met l y_Tu_fillInodes (.code y_Tu_fillInodes cb_Tu_fillInodes 4 none :: V_Vq) ({ frames := 4, cells := 0, slots := 0, locals := 100 }) (va_Pc [.ref M.o_Tu, .int p0] (fun U => U.heap.size = sz ∧ at_ (dC, dI) (fun _ => True) (wV M Y G S) (tV M) U ∧ E (va_A (wV M Y G S) sz) U)) (va_Qv (fun (u : Unit) => True) (fun (u : Unit) t => at_ (dC, dI) (va_A (wV M Y G S) sz) (wV M Y G S') (tV M) t) (va_A (wV M Y G S) sz)) 0 0 (va_A (wV M Y G S) sz) := by
  refine Met.ofW (cc := cb_Tu_fillInodes) (maxL := 4) (ret := none) (by decide) rfl ?_
  intro p e s m args below meth c s₁ B hml hv
  obtain ⟨rfl, hsz, ⟨hP, hK, hD0⟩, hE⟩ := hv
  have hx := B.exec
  have hb := B.bytes
  have hr := B.returns
  have hts0 := atoms_spec (ws := .code y_Tu_fillInodes cb_Tu_fillInodes 4 none :: V_Vq) B.pre
  have hts : ∀ w ∈ V_Vq, w.before ([.ref M.o_Tu, .int p0] : List Value).toArray s = true := fun w h => hts0 w (List.mem_cons_of_mem _ h)
  have hown : s.vm.findClass R_Tu = some m.cls := findClass_of_methodNamed B.named
  subst hsz
  have hD := hD0.self (sz := s.heap.size)
  generalize hAe : va_A (wV M Y G S) s.heap.size = A at hD hE ⊢
  have hA : ∀ q : Nat, s.heap.size ≤ q → A q := fun q h => by rw [← hAe]; exact Or.inr h
  have hS : va_S A s.heap s.heap [] := va_S.rf
  have hP : va_P (dC, dI) classes (wV M Y G S) s.heap := hP
  have hK : va_K (dC, dI) classes (tV M) s := hK
  have hEw : ∀ (H : Heap) (locs : List Loc), va_S A s.heap H locs → ∀ U : State, U.heap = H → s.WarmedH U.vm → E A U := fun H locs hS U hU hW => X.kept A s U H locs hE hS hU hW
  have hl := lv_entry ([.ref M.o_Tu, .int p0]) (n := 4) (Nat.le_of_ble_eq_true rfl)
  rw [lg_entry_eq]
  generalize (lg_sl ([.ref M.o_Tu, .int p0]) ++ List.replicate (4 - (lg_sl ([.ref M.o_Tu, .int p0])).length) Slot.unset).toArray = ls at hl ⊢
  have hl : lv_has ls 4 [(0, .ref M.o_Tu), (1, .int p0)] := hl
  refine qabs (fun Q hQ => ?_)
  have hB_86 : ∀ (rec_6 : Int32 → Int32 → CS → Option (CS)) (hr_6 : ∀ (y_1 : Int32) (y_2 : Int32) (S : CS) (H : Heap) (locs : List Loc) (ls : Array Slot), rec_6 y_1 y_2 S = some S' → va_P (dC, dI) classes (wV M Y G S) H → va_D A (wV M Y G S) → va_S A s.heap H locs → lv_has ls 4 [(0, .ref M.o_Tu), (1, .int y_1), (2, .int y_2)] → W p l e ({ frames := 4, cells := 0, slots := 0, locals := 100 }) s m ([.ref M.o_Tu, .int p0] : List Value).toArray below meth c H locs 0 0 Q (F0 m 6 ls [])), ∀ (y_1 : Int32) (y_2 : Int32) (S : CS) (H : Heap) (locs : List Loc) (ls : Array Slot), f_Tu_fillInodes_86 K G rec_6 y_1 y_2 S = some S' → va_P (dC, dI) classes (wV M Y G S) H → va_D A (wV M Y G S) → va_S A s.heap H locs → lv_has ls 4 [(0, .ref M.o_Tu), (1, .int y_1), (2, .int y_2)] → W p l e ({ frames := 4, cells := 0, slots := 0, locals := 100 }) s m ([.ref M.o_Tu, .int p0] : List Value).toArray below meth c H locs 0 0 Q (F0 m 86 ls []) := by
    intro rec_6 hr_6 y_1 y_2 S H locs ls h hP hD hS hl
    rw [f_Tu_fillInodes_86] at h
    obtain ⟨x_11, ex_11, h⟩ := lf_lX h
    refine lv_iinc (v := x_11) (lv' := [(2, .int x_11), (0, .ref M.o_Tu), (1, .int y_1)]) hx hb d_Tu_fillInodes_86 hl (k := 2) rfl (by rw [ex_11]; rfl) (by decide) rfl (fun ls hl => ?_)
    refine lv_goto (tgt := 6) hx hb d_Tu_fillInodes_89 (by decide) ?_
    exact hr_6 y_1 x_11 S _ _ _ h hP hD hS (lv_sub hl [1, 2, 0] rfl)
  have hB_6 : ∀ (k : Nat), ∀ (y_1 : Int32) (y_2 : Int32) (S : CS) (H : Heap) (locs : List Loc) (ls : Array Slot), f_Tu_fillInodes_6 K G k y_1 y_2 S = some S' → va_P (dC, dI) classes (wV M Y G S) H → va_D A (wV M Y G S) → va_S A s.heap H locs → lv_has ls 4 [(0, .ref M.o_Tu), (1, .int y_1), (2, .int y_2)] → W p l e ({ frames := 4, cells := 0, slots := 0, locals := 100 }) s m ([.ref M.o_Tu, .int p0] : List Value).toArray below meth c H locs 0 0 Q (F0 m 6 ls []) := by
    intro k
    induction k with
    | zero => intro y_1 y_2 S H locs ls h; exact lf_no h
    | succ k hr_6 =>
      intro y_1 y_2 S H locs ls h hP hD hS hl
      rw [f_Tu_fillInodes_6] at h
      refine lv_iload_n hx hb d_Tu_fillInodes_6 rfl (lv_at hl 2 rfl) ?_
      refine lv_bipush (v := 8) hx hb d_Tu_fillInodes_7 (by decide) ?_
      refine lv_icmp_ge (tgt := 92) hx hb d_Tu_fillInodes_9 (by decide) (fun c_2 => ?_) (fun c_2 => ?_)
      · have h := lf_t h c_2
        rw [hQ]
        have e2 : S = S' := Option.some.inj h
        have hP := ly_newP e2.symm hP
        have hD := ly_newD e2.symm hD
        exact W.vret hx hb hr (fun t ht hW => ⟨⟨(), rfl, trivial, by rw [ht]; exact hP, va_K.moved hW.alike hK, hD⟩, hS.F ht⟩) hS.2.2 d_Tu_fillInodes_92
      · have h := lf_f h c_2
        refine lv_iload_n hx hb d_Tu_fillInodes_12 rfl (lv_at hl 1 rfl) ?_
        refine lv_iload_n hx hb d_Tu_fillInodes_13 rfl (lv_at hl 2 rfl) ?_
        refine lv_iadd hx hb d_Tu_fillInodes_14 ?_
        refine lv_topi (fun x_3 ex_3 => ?_)
        have h := lf_lE h ex_3
        refine lv_istore_n (lv' := [(3, .int x_3), (0, .ref M.o_Tu), (1, .int y_1), (2, .int y_2)]) hx hb d_Tu_fillInodes_15 rfl hl (by decide) rfl (fun ls hl => ?_)
        refine lv_iload_n hx hb d_Tu_fillInodes_16 rfl (lv_at hl 0 rfl) ?_
        refine lv_iconst (v := 2) hx hb d_Tu_fillInodes_17 (by decide) ?_
        refine lv_icmp_ne (tgt := 34) hx hb d_Tu_fillInodes_18 (by decide) (fun c_4 => ?_) (fun c_4 => ?_)
        · have h := lf_f h c_4
          refine lv_iload_n hx hb d_Tu_fillInodes_34 rfl (lv_at hl 0 rfl) ?_
          refine lv_bipush (v := 11) hx hb d_Tu_fillInodes_35 (by decide) ?_
          refine lv_icmp_ne (tgt := 53) hx hb d_Tu_fillInodes_37 (by decide) (fun c_5 => ?_) (fun c_5 => ?_)
          · have h := lf_f h c_5
            refine lv_iload_n hx hb d_Tu_fillInodes_53 rfl (lv_at hl 0 rfl) ?_
            refine lv_bipush (v := 11) hx hb d_Tu_fillInodes_54 (by decide) ?_
            refine lv_icmp_le (tgt := 86) hx hb d_Tu_fillInodes_56 (by decide) (fun c_6 => ?_) (fun c_6 => ?_)
            · have h := lf_t h c_6
              exact hB_86 _ hr_6 y_1 y_2 S _ _ _ h hP hD hS (lv_sub hl [1, 2, 3] rfl)
            · have h := lf_f h c_6
              refine lv_iload_n hx hb d_Tu_fillInodes_59 rfl (lv_at hl 0 rfl) ?_
              refine lv_bipush (v := 11) hx hb d_Tu_fillInodes_60 (by decide) ?_
              refine lv_isub hx hb d_Tu_fillInodes_62 ?_
              refine lv_aload_n hx hb d_Tu_fillInodes_63 rfl (lv_at hl 1 rfl) ?_
              refine va_get (D := (dC, dI)) (ci := 10) (v := .ref M.o_Tr) (C := R_Tu) (T := F_Tu) (N := 7) hx hb hts (fun w h => u_Vq_Tu w (i_Tu w h)) hown hK hP 8 rfl rfl 2 (by decide) (hts _ (u_Vq_Tu _ k_Tu_19)) (fun _ h9 => h9) rfl d_Tu_fillInodes_64 ?_
              refine va_get (D := (dC, dI)) (ci := 5) (v := .int S.v_Tr_count) (C := R_Tr) (T := F_Tr) (N := 18) hx hb hts (fun w h => u_Vq_Tr w (i_Tr w h)) hown hK hP 4 rfl rfl 0 (by decide) (hts _ (u_Vq_Tu _ k_Tu_4)) (fun _ h9 => h9) rfl d_Tu_fillInodes_67 ?_
              refine lv_icmp_ge (tgt := 86) hx hb d_Tu_fillInodes_70 (by decide) (fun c_7 => ?_) (fun c_7 => ?_)
              · have h := lf_t h c_7
                exact hB_86 _ hr_6 y_1 y_2 S _ _ _ h hP hD hS (lv_sub hl [1, 2, 3] rfl)
              · have h := lf_f h c_7
                refine lv_aload_n hx hb d_Tu_fillInodes_73 rfl (lv_at hl 1 rfl) ?_
                refine lv_iload_n hx hb d_Tu_fillInodes_74 rfl (lv_at hl 3 rfl) ?_
                refine lv_sipush (v := 128) hx hb d_Tu_fillInodes_75 (by decide) ?_
                refine lv_imul hx hb d_Tu_fillInodes_78 ?_
                refine lv_iload_n hx hb d_Tu_fillInodes_79 rfl (lv_at hl 0 rfl) ?_
                refine lv_bipush (v := 11) hx hb d_Tu_fillInodes_80 (by decide) ?_
                refine lv_isub hx hb d_Tu_fillInodes_82 ?_
                obtain ⟨S_8, hc_8, h⟩ := lf_bE h
                have hFc := lx_free hD hS hA
                refine va_callv (va_runV (As := [.int (y_2 * 128), .int (x_3 - 11)]) (rest := []) ⟨hx, hb, hml, hown, hts⟩ (l_Tu_fillInode l dC dI X _ hc_8) (cwV 2 hts (gwV good_Vq (u_Vq_Tu _ k_Tu_143) (u_Vq_Tu _ k_Tu_144) (u_Vq_Tu _ k_Tu_182) (u_Vq_Tu _ k_Tu_0) (wcs (u_Vq_Tu _ k_Tu_145) (fun _ h => h))) rfl rfl rfl (by decide +kernel) ⟨Nat.le_of_ble_eq_true rfl, Nat.le_of_ble_eq_true rfl⟩) (pv_ofE (X.same _) (fun U z1 z2 => X.mono _ _ U hFc (hEw _ _ hS U z1 z2)) hP hK hD (va_recv hK hP (ci := 10) (q0 := 8) rfl rfl)) rfl rfl hl.1 rfl (lv_room (Nat.le_of_ble_eq_true rfl)) d_Tu_fillInodes_83 ⟨by decide, by decide⟩) hS (fun q _ h => hFc q h) hFc (fun u t H locs ht hvm hw hB hz1 hk1 hS => ?_)
                obtain ⟨hP, -, hD⟩ := hB
                rw [ht] at hP
                have hD := lx_dj hD hFc
                exact hB_86 _ hr_6 y_1 y_2 S_8 _ _ _ h hP hD hS (lv_sub hl [1, 2, 3] rfl)
          · have h := lf_t h c_5
            refine lv_aload_n hx hb d_Tu_fillInodes_40 rfl (lv_at hl 1 rfl) ?_
            refine lv_iload_n hx hb d_Tu_fillInodes_41 rfl (lv_at hl 3 rfl) ?_
            refine lv_sipush (v := 128) hx hb d_Tu_fillInodes_42 (by decide) ?_
            refine lv_imul hx hb d_Tu_fillInodes_45 ?_
            refine lv_iconst (v := (-1)) hx hb d_Tu_fillInodes_46 (by decide) ?_
            obtain ⟨S_9, hc_9, h⟩ := lf_bE h
            have hFc := lx_free hD hS hA
            refine va_callv (va_runV (As := [.int (y_2 * 128), .int ((-1))]) (rest := []) ⟨hx, hb, hml, hown, hts⟩ (l_Tu_fillInode l dC dI X _ hc_9) (cwV 2 hts (gwV good_Vq (u_Vq_Tu _ k_Tu_143) (u_Vq_Tu _ k_Tu_144) (u_Vq_Tu _ k_Tu_182) (u_Vq_Tu _ k_Tu_0) (wcs (u_Vq_Tu _ k_Tu_145) (fun _ h => h))) rfl rfl rfl (by decide +kernel) ⟨Nat.le_of_ble_eq_true rfl, Nat.le_of_ble_eq_true rfl⟩) (pv_ofE (X.same _) (fun U z1 z2 => X.mono _ _ U hFc (hEw _ _ hS U z1 z2)) hP hK hD (va_recv hK hP (ci := 10) (q0 := 8) rfl rfl)) rfl rfl hl.1 rfl (lv_room (Nat.le_of_ble_eq_true rfl)) d_Tu_fillInodes_47 ⟨by decide, by decide⟩) hS (fun q _ h => hFc q h) hFc (fun u t H locs ht hvm hw hB hz1 hk1 hS => ?_)
            obtain ⟨hP, -, hD⟩ := hB
            rw [ht] at hP
            have hD := lx_dj hD hFc
            refine lv_goto (tgt := 86) hx hb d_Tu_fillInodes_50 (by decide) ?_
            exact hB_86 _ hr_6 y_1 y_2 S_9 _ _ _ h hP hD hS (lv_sub hl [1, 2, 3] rfl)
        · have h := lf_t h c_4
          refine lv_aload_n hx hb d_Tu_fillInodes_21 rfl (lv_at hl 1 rfl) ?_
          refine lv_iload_n hx hb d_Tu_fillInodes_22 rfl (lv_at hl 3 rfl) ?_
          refine lv_sipush (v := 128) hx hb d_Tu_fillInodes_23 (by decide) ?_
          refine lv_imul hx hb d_Tu_fillInodes_26 ?_
          refine lv_iconst (v := 0) hx hb d_Tu_fillInodes_27 (by decide) ?_
          obtain ⟨S_10, hc_10, h⟩ := lf_bE h
          have hFc := lx_free hD hS hA
          refine va_callv (va_runV (As := [.int (y_2 * 128), .int 0]) (rest := []) ⟨hx, hb, hml, hown, hts⟩ (l_Tu_fillInode l dC dI X _ hc_10) (cwV 2 hts (gwV good_Vq (u_Vq_Tu _ k_Tu_143) (u_Vq_Tu _ k_Tu_144) (u_Vq_Tu _ k_Tu_182) (u_Vq_Tu _ k_Tu_0) (wcs (u_Vq_Tu _ k_Tu_145) (fun _ h => h))) rfl rfl rfl (by decide +kernel) ⟨Nat.le_of_ble_eq_true rfl, Nat.le_of_ble_eq_true rfl⟩) (pv_ofE (X.same _) (fun U z1 z2 => X.mono _ _ U hFc (hEw _ _ hS U z1 z2)) hP hK hD (va_recv hK hP (ci := 10) (q0 := 8) rfl rfl)) rfl rfl hl.1 rfl (lv_room (Nat.le_of_ble_eq_true rfl)) d_Tu_fillInodes_28 ⟨by decide, by decide⟩) hS (fun q _ h => hFc q h) hFc (fun u t H locs ht hvm hw hB hz1 hk1 hS => ?_)
          obtain ⟨hP, -, hD⟩ := hB
          rw [ht] at hP
          have hD := lx_dj hD hFc
          refine lv_goto (tgt := 86) hx hb d_Tu_fillInodes_31 (by decide) ?_
          exact hB_86 _ hr_6 y_1 y_2 S_10 _ _ _ h hP hD hS (lv_sub hl [1, 2, 3] rfl)
  rw [f_Tu_fillInodes] at h
  refine lv_aload_n hx hb d_Tu_fillInodes_0 rfl (lv_at hl 0 rfl) ?_
  obtain ⟨S_1, hc_1, h⟩ := lf_bE h
  have hFc := lx_free hD hS hA
  refine va_callv (va_runV (As := []) (rest := []) ⟨hx, hb, hml, hown, hts⟩ (l_Tu_empty l dC dI X _ hc_1) (cwV 0 hts (gwV good_Vq (u_Vq_Tu _ k_Tu_57) (u_Vq_Tu _ k_Tu_58) (u_Vq_Tu _ k_Tu_164) (u_Vq_Tu _ k_Tu_0) (wcs (u_Vq_Tu _ k_Tu_59) (fun _ h => h))) rfl rfl rfl (by decide +kernel) ⟨Nat.le_of_ble_eq_true rfl, Nat.le_of_ble_eq_true rfl⟩) (pv_ofE (X.same _) (fun U z1 z2 => X.mono _ _ U hFc (hEw _ _ hS U z1 z2)) hP hK hD (va_recv hK hP (ci := 10) (q0 := 8) rfl rfl)) rfl rfl hl.1 rfl (lv_room (Nat.le_of_ble_eq_true rfl)) d_Tu_fillInodes_1 ⟨by decide, by decide⟩) hS (fun q _ h => hFc q h) hFc (fun u t H locs ht hvm hw hB hz1 hk1 hS => ?_)
  obtain ⟨hP, -, hD⟩ := hB
  rw [ht] at hP
  have hD := lx_dj hD hFc
  refine lv_iconst (v := 0) hx hb d_Tu_fillInodes_4 (by decide) ?_
  refine lv_istore_n (lv' := [(2, .int 0), (0, .ref M.o_Tu), (1, .int p0)]) hx hb d_Tu_fillInodes_5 rfl hl (by decide) rfl (fun ls hl => ?_)
  exact hB_6 K p0 0 S_1 _ _ _ h hP hD hS (lv_sub hl [1, 2, 0] rfl)
set_option maxHeartbeats 4000000 in
set_option maxRecDepth 100000 in
theorem l_Tu_putFixed (l : Launch) (dC : Nat → ClassId) (dI : Nat → Nat → Nat) {K : Nat} {M : CA} {E : (Nat → Prop) → State → Prop} (X : ly_X l dC dI K M E) (sz : Nat) {Y : CT} {G : CG} {S S' : CS} (h : f_Tu_putFixed K G S = some S') : Met l y_Tu_putFixed (.code y_Tu_putFixed cb_Tu_putFixed 4 none :: V_Vq) ({ frames := 5, cells := 0, slots := 0, locals := 123 }) (va_Pc [.ref M.o_Tu] (fun U => U.heap.size = sz ∧ at_ (dC, dI) (fun _ => True) (wV M Y G S) (tV M) U ∧ E (va_A (wV M Y G S) sz) U)) (va_Qv (fun (u : Unit) => True) (fun (u : Unit) t => at_ (dC, dI) (va_A (wV M Y G S) sz) (wV M Y G S') (tV M) t) (va_A (wV M Y G S) sz)) 0 0 (va_A (wV M Y G S) sz) := by
  refine Met.ofW (cc := cb_Tu_putFixed) (maxL := 4) (ret := none) (by decide) rfl ?_
  intro p e s m args below meth c s₁ B hml hv
  obtain ⟨rfl, hsz, ⟨hP, hK, hD0⟩, hE⟩ := hv
  have hx := B.exec
  have hb := B.bytes
  have hr := B.returns
  have hts0 := atoms_spec (ws := .code y_Tu_putFixed cb_Tu_putFixed 4 none :: V_Vq) B.pre
  have hts : ∀ w ∈ V_Vq, w.before ([.ref M.o_Tu] : List Value).toArray s = true := fun w h => hts0 w (List.mem_cons_of_mem _ h)
  have hown : s.vm.findClass R_Tu = some m.cls := findClass_of_methodNamed B.named
  subst hsz
  have hD := hD0.self (sz := s.heap.size)
  generalize hAe : va_A (wV M Y G S) s.heap.size = A at hD hE ⊢
  have hA : ∀ q : Nat, s.heap.size ≤ q → A q := fun q h => by rw [← hAe]; exact Or.inr h
  have hS : va_S A s.heap s.heap [] := va_S.rf
  have hP : va_P (dC, dI) classes (wV M Y G S) s.heap := hP
  have hK : va_K (dC, dI) classes (tV M) s := hK
  have hEw : ∀ (H : Heap) (locs : List Loc), va_S A s.heap H locs → ∀ U : State, U.heap = H → s.WarmedH U.vm → E A U := fun H locs hS U hU hW => X.kept A s U H locs hE hS hU hW
  have hl := lv_entry ([.ref M.o_Tu]) (n := 4) (Nat.le_of_ble_eq_true rfl)
  rw [lg_entry_eq]
  generalize (lg_sl ([.ref M.o_Tu]) ++ List.replicate (4 - (lg_sl ([.ref M.o_Tu])).length) Slot.unset).toArray = ls at hl ⊢
  have hl : lv_has ls 4 [(0, .ref M.o_Tu)] := hl
  refine qabs (fun Q hQ => ?_)
  have hB_95 : ∀ (rec_2 : Int32 → CS → Option (CS)) (hr_2 : ∀ (y_1 : Int32) (S : CS) (H : Heap) (locs : List Loc) (ls : Array Slot), rec_2 y_1 S = some S' → va_P (dC, dI) classes (wV M Y G S) H → va_D A (wV M Y G S) → va_S A s.heap H locs → lv_has ls 4 [(0, .ref M.o_Tu), (1, .int y_1)] → W p l e ({ frames := 5, cells := 0, slots := 0, locals := 123 }) s m ([.ref M.o_Tu] : List Value).toArray below meth c H locs 0 0 Q (F0 m 2 ls [])) (k : Nat), ∀ (y_1 : Int32) (y_2 : Int32) (y_3 : Int32) (S : CS) (H : Heap) (locs : List Loc) (ls : Array Slot), f_Tu_putFixed_95 K G rec_2 k y_1 y_2 y_3 S = some S' → va_P (dC, dI) classes (wV M Y G S) H → va_D A (wV M Y G S) → va_S A s.heap H locs → lv_has ls 4 [(0, .ref M.o_Tu), (1, .int y_1), (2, .int y_2), (3, .int y_3)] → W p l e ({ frames := 5, cells := 0, slots := 0, locals := 123 }) s m ([.ref M.o_Tu] : List Value).toArray below meth c H locs 0 0 Q (F0 m 95 ls []) := by
    intro rec_2 hr_2 k
    induction k with
    | zero => intro y_1 y_2 y_3 S H locs ls h; exact lf_no h
    | succ k hr_95 =>
      intro y_1 y_2 y_3 S H locs ls h hP hD hS hl
      rw [f_Tu_putFixed_95] at h
      refine lv_iload_n hx hb d_Tu_putFixed_95 rfl (lv_at hl 3 rfl) ?_
      refine lv_aload_n hx hb d_Tu_putFixed_96 rfl (lv_at hl 0 rfl) ?_
      refine va_get (D := (dC, dI)) (ci := 10) (v := .ref M.o_Pl) (C := R_Tu) (T := F_Tu) (N := 7) hx hb hts (fun w h => u_Vq_Tu w (i_Tu w h)) hown hK hP 8 rfl rfl 4 (by decide) (hts _ (u_Vq_Tu _ k_Tu_21)) (fun _ h9 => h9) rfl d_Tu_putFixed_97 ?_
      refine va_get (D := (dC, dI)) (ci := 9) (v := .int S.v_Pl_inodes) (C := R_Pl) (T := F_Pl) (N := 17) hx hb hts (fun w h => u_Vq_Pl w (i_Pl w h)) hown hK hP 7 rfl rfl 13 (by decide) (hts _ (u_Vq_Tu _ k_Tu_11)) (fun _ h9 => h9) rfl d_Tu_putFixed_100 ?_
      refine lv_bipush (v := 8) hx hb d_Tu_putFixed_103 (by decide) ?_
      refine lv_idiv hx hb d_Tu_putFixed_105 (by decide) ?_
      refine lv_icmp_ge (tgt := 144) hx hb d_Tu_putFixed_106 (by decide) (fun c_21 => ?_) (fun c_21 => ?_)
      · have h := lf_t h c_21
        obtain ⟨x_22, ex_22, h⟩ := lf_lX h
        refine lv_iinc (v := x_22) (lv' := [(1, .int x_22), (0, .ref M.o_Tu), (2, .int y_2), (3, .int y_3)]) hx hb d_Tu_putFixed_144 hl (k := 1) rfl (by rw [ex_22]; rfl) (by decide) rfl (fun ls hl => ?_)
        refine lv_goto (tgt := 2) hx hb d_Tu_putFixed_147 (by decide) ?_
        exact hr_2 x_22 S _ _ _ h hP hD hS (lv_sub hl [1, 0] rfl)
      · have h := lf_f h c_21
        refine lv_aload_n hx hb d_Tu_putFixed_109 rfl (lv_at hl 0 rfl) ?_
        refine lv_iload_n hx hb d_Tu_putFixed_110 rfl (lv_at hl 1 rfl) ?_
        refine lv_aload_n hx hb d_Tu_putFixed_111 rfl (lv_at hl 0 rfl) ?_
        refine va_get (D := (dC, dI)) (ci := 10) (v := .ref M.o_Pl) (C := R_Tu) (T := F_Tu) (N := 7) hx hb hts (fun w h => u_Vq_Tu w (i_Tu w h)) hown hK hP 8 rfl rfl 4 (by decide) (hts _ (u_Vq_Tu _ k_Tu_21)) (fun _ h9 => h9) rfl d_Tu_putFixed_112 ?_
        refine va_get (D := (dC, dI)) (ci := 9) (v := .int S.v_Pl_inodes) (C := R_Pl) (T := F_Pl) (N := 17) hx hb hts (fun w h => u_Vq_Pl w (i_Pl w h)) hown hK hP 7 rfl rfl 13 (by decide) (hts _ (u_Vq_Tu _ k_Tu_11)) (fun _ h9 => h9) rfl d_Tu_putFixed_115 ?_
        refine lv_imul hx hb d_Tu_putFixed_118 ?_
        refine lv_bipush (v := 8) hx hb d_Tu_putFixed_119 (by decide) ?_
        refine lv_iload_n hx hb d_Tu_putFixed_121 rfl (lv_at hl 3 rfl) ?_
        refine lv_imul hx hb d_Tu_putFixed_122 ?_
        refine lv_iadd hx hb d_Tu_putFixed_123 ?_
        refine lv_iconst (v := 1) hx hb d_Tu_putFixed_124 (by decide) ?_
        refine lv_iadd hx hb d_Tu_putFixed_125 ?_
        obtain ⟨S_23, hc_23, h⟩ := lf_bE h
        have hFc := lx_free hD hS hA
        refine va_callv (va_runV (As := [.int (((y_1 * S.v_Pl_inodes) + (8 * y_3)) + 1)]) (rest := []) ⟨hx, hb, hml, hown, hts⟩ (l_Tu_fillInodes l dC dI X _ hc_23) (cwV 1 hts (gwV good_Vq (u_Vq_Tu _ k_Tu_140) (u_Vq_Tu _ k_Tu_141) (u_Vq_Tu _ k_Tu_181) (u_Vq_Tu _ k_Tu_0) (wcs (u_Vq_Tu _ k_Tu_142) (fun _ h => h))) rfl rfl rfl (by decide +kernel) ⟨Nat.le_of_ble_eq_true rfl, Nat.le_of_ble_eq_true rfl⟩) (pv_ofE (X.same _) (fun U z1 z2 => X.mono _ _ U hFc (hEw _ _ hS U z1 z2)) hP hK hD (va_recv hK hP (ci := 10) (q0 := 8) rfl rfl)) rfl rfl hl.1 rfl (lv_room (Nat.le_of_ble_eq_true rfl)) d_Tu_putFixed_126 ⟨by decide, by decide⟩) hS (fun q _ h => hFc q h) hFc (fun u t H locs ht hvm hw hB hz1 hk1 hS => ?_)
        obtain ⟨hP, -, hD⟩ := hB
        rw [ht] at hP
        have hD := lx_dj hD hFc
        refine lv_aload_n hx hb d_Tu_putFixed_129 rfl (lv_at hl 0 rfl) ?_
        refine lv_iload_n hx hb d_Tu_putFixed_130 rfl (lv_at hl 2 rfl) ?_
        refine lv_iconst (v := 2) hx hb d_Tu_putFixed_131 (by decide) ?_
        refine lv_iadd hx hb d_Tu_putFixed_132 ?_
        refine lv_iload_n hx hb d_Tu_putFixed_133 rfl (lv_at hl 3 rfl) ?_
        refine lv_iadd hx hb d_Tu_putFixed_134 ?_
        obtain ⟨S_24, hc_24, h⟩ := lf_bE h
        have hFc := lx_free hD hS hA
        refine va_callv (va_runV (As := [.int ((y_2 + 2) + y_3)]) (rest := []) ⟨hx, hb, hml, hown, hts⟩ (l_Tu_storeBlock l dC dI X _ hc_24) (cwV 1 hts (gwV good_Vq (u_Vq_Tu _ k_Tu_72) (u_Vq_Tu _ k_Tu_73) (u_Vq_Tu _ k_Tu_165) (u_Vq_Tu _ k_Tu_0) (wcs (u_Vq_Tu _ k_Tu_74) (fun _ h => h))) rfl rfl rfl (by decide +kernel) ⟨Nat.le_of_ble_eq_true rfl, Nat.le_of_ble_eq_true rfl⟩) (pv_ofE (X.same _) (fun U z1 z2 => X.mono _ _ U hFc (hEw _ _ hS U z1 z2)) hP hK hD (va_recv hK hP (ci := 10) (q0 := 8) rfl rfl)) rfl rfl hl.1 rfl (lv_room (Nat.le_of_ble_eq_true rfl)) d_Tu_putFixed_135 ⟨by decide, by decide⟩) hS (fun q _ h => hFc q h) hFc (fun u t H locs ht hvm hw hB hz1 hk1 hS => ?_)
        obtain ⟨hP, -, hD⟩ := hB
        rw [ht] at hP
        have hD := lx_dj hD hFc
        obtain ⟨x_25, ex_25, h⟩ := lf_lX h
        refine lv_iinc (v := x_25) (lv' := [(3, .int x_25), (0, .ref M.o_Tu), (1, .int y_1), (2, .int y_2)]) hx hb d_Tu_putFixed_138 hl (k := 3) rfl (by rw [ex_25]; rfl) (by decide) rfl (fun ls hl => ?_)
        refine lv_goto (tgt := 95) hx hb d_Tu_putFixed_141 (by decide) ?_
        exact hr_95 y_1 y_2 x_25 S_24 _ _ _ h hP hD hS (lv_sub hl [1, 2, 3, 0] rfl)
  have hB_62 : ∀ (rec_2 : Int32 → CS → Option (CS)) (hr_2 : ∀ (y_1 : Int32) (S : CS) (H : Heap) (locs : List Loc) (ls : Array Slot), rec_2 y_1 S = some S' → va_P (dC, dI) classes (wV M Y G S) H → va_D A (wV M Y G S) → va_S A s.heap H locs → lv_has ls 4 [(0, .ref M.o_Tu), (1, .int y_1)] → W p l e ({ frames := 5, cells := 0, slots := 0, locals := 123 }) s m ([.ref M.o_Tu] : List Value).toArray below meth c H locs 0 0 Q (F0 m 2 ls [])), ∀ (y_1 : Int32) (S : CS) (H : Heap) (locs : List Loc) (ls : Array Slot), f_Tu_putFixed_62 K G rec_2 y_1 S = some S' → va_P (dC, dI) classes (wV M Y G S) H → va_D A (wV M Y G S) → va_S A s.heap H locs → lv_has ls 4 [(0, .ref M.o_Tu), (1, .int y_1)] → W p l e ({ frames := 5, cells := 0, slots := 0, locals := 123 }) s m ([.ref M.o_Tu] : List Value).toArray below meth c H locs 0 0 Q (F0 m 62 ls []) := by
    intro rec_2 hr_2 y_1 S H locs ls h hP hD hS hl
    rw [f_Tu_putFixed_62] at h
    refine lv_aload_n hx hb d_Tu_putFixed_62 rfl (lv_at hl 0 rfl) ?_
    refine va_get (D := (dC, dI)) (ci := 10) (v := .ref M.o_Pl) (C := R_Tu) (T := F_Tu) (N := 7) hx hb hts (fun w h => u_Vq_Tu w (i_Tu w h)) hown hK hP 8 rfl rfl 4 (by decide) (hts _ (u_Vq_Tu _ k_Tu_21)) (fun _ h9 => h9) rfl d_Tu_putFixed_63 ?_
    refine lv_iload_n hx hb d_Tu_putFixed_66 rfl (lv_at hl 1 rfl) ?_
    obtain ⟨r_16, S_16, hc_16, h⟩ := lf_cE h
    have hFc := lx_free hD hS hA
    refine va_calli (va_runV (As := [.int y_1]) (rest := []) ⟨hx, hb, hml, hown, hts⟩ (l_Pl_mapBlock l dC dI X _ hc_16) (cwV 1 hts (gwV good_Vq (u_Vq_Tu _ k_Tu_123) (u_Vq_Pl _ k_Pl_53) (u_Vq_Pl _ k_Pl_54) (u_Vq_Pl _ k_Pl_0) (wcs (u_Vq_Pl _ k_Pl_55) (fun _ h => h))) rfl rfl rfl (by decide +kernel) ⟨Nat.le_of_ble_eq_true rfl, Nat.le_of_ble_eq_true rfl⟩) (pv_ofE (X.same _) (fun U z1 z2 => X.mono _ _ U hFc (hEw _ _ hS U z1 z2)) hP hK hD (va_recv hK hP (ci := 9) (q0 := 7) rfl rfl)) rfl rfl hl.1 rfl (lv_room (Nat.le_of_ble_eq_true rfl)) d_Tu_putFixed_67 ⟨by decide, by decide⟩) hS (fun q _ h => hFc q h) hFc (fun r_ u t H locs ht hvm hw hB hz1 hk1 hS => ?_)
    rw [hw]
    obtain ⟨hP, -, hD⟩ := hB
    rw [ht] at hP
    have hD := lx_dj hD hFc
    refine lv_istore_n (lv' := [(2, .int r_16), (0, .ref M.o_Tu), (1, .int y_1)]) hx hb d_Tu_putFixed_70 rfl hl (by decide) rfl (fun ls hl => ?_)
    refine lv_aload_n hx hb d_Tu_putFixed_71 rfl (lv_at hl 1 rfl) ?_
    refine lv_iload_n hx hb d_Tu_putFixed_72 rfl (lv_at hl 2 rfl) ?_
    obtain ⟨S_17, hc_17, h⟩ := lf_bE h
    have hFc := lx_free hD hS hA
    refine va_callv (va_runV (As := [.int y_1]) (rest := []) ⟨hx, hb, hml, hown, hts⟩ (l_Tu_fillBlockMap l dC dI X _ hc_17) (cwV 1 hts (gwV good_Vq (u_Vq_Tu _ k_Tu_129) (u_Vq_Tu _ k_Tu_130) (u_Vq_Tu _ k_Tu_179) (u_Vq_Tu _ k_Tu_0) (wcs (u_Vq_Tu _ k_Tu_131) (fun _ h => h))) rfl rfl rfl (by decide +kernel) ⟨Nat.le_of_ble_eq_true rfl, Nat.le_of_ble_eq_true rfl⟩) (pv_ofE (X.same _) (fun U z1 z2 => X.mono _ _ U hFc (hEw _ _ hS U z1 z2)) hP hK hD (va_recv hK hP (ci := 10) (q0 := 8) rfl rfl)) rfl rfl hl.1 rfl (lv_room (Nat.le_of_ble_eq_true rfl)) d_Tu_putFixed_73 ⟨by decide, by decide⟩) hS (fun q _ h => hFc q h) hFc (fun u t H locs ht hvm hw hB hz1 hk1 hS => ?_)
    obtain ⟨hP, -, hD⟩ := hB
    rw [ht] at hP
    have hD := lx_dj hD hFc
    refine lv_aload_n hx hb d_Tu_putFixed_76 rfl (lv_at hl 1 rfl) ?_
    refine lv_iload_n hx hb d_Tu_putFixed_77 rfl (lv_at hl 0 rfl) ?_
    obtain ⟨S_18, hc_18, h⟩ := lf_bE h
    have hFc := lx_free hD hS hA
    refine va_callv (va_runV (As := [.int r_16]) (rest := []) ⟨hx, hb, hml, hown, hts⟩ (l_Tu_storeBlock l dC dI X _ hc_18) (cwV 1 hts (gwV good_Vq (u_Vq_Tu _ k_Tu_72) (u_Vq_Tu _ k_Tu_73) (u_Vq_Tu _ k_Tu_165) (u_Vq_Tu _ k_Tu_0) (wcs (u_Vq_Tu _ k_Tu_74) (fun _ h => h))) rfl rfl rfl (by decide +kernel) ⟨Nat.le_of_ble_eq_true rfl, Nat.le_of_ble_eq_true rfl⟩) (pv_ofE (X.same _) (fun U z1 z2 => X.mono _ _ U hFc (hEw _ _ hS U z1 z2)) hP hK hD (va_recv hK hP (ci := 10) (q0 := 8) rfl rfl)) rfl rfl hl.1 rfl (lv_room (Nat.le_of_ble_eq_true rfl)) d_Tu_putFixed_78 ⟨by decide, by decide⟩) hS (fun q _ h => hFc q h) hFc (fun u t H locs ht hvm hw hB hz1 hk1 hS => ?_)
    obtain ⟨hP, -, hD⟩ := hB
    rw [ht] at hP
    have hD := lx_dj hD hFc
    refine lv_aload_n hx hb d_Tu_putFixed_81 rfl (lv_at hl 1 rfl) ?_
    refine lv_iload_n hx hb d_Tu_putFixed_82 rfl (lv_at hl 2 rfl) ?_
    obtain ⟨S_19, hc_19, h⟩ := lf_bE h
    have hFc := lx_free hD hS hA
    refine va_callv (va_runV (As := [.int y_1]) (rest := []) ⟨hx, hb, hml, hown, hts⟩ (l_Tu_fillInodeMap l dC dI X _ hc_19) (cwV 1 hts (gwV good_Vq (u_Vq_Tu _ k_Tu_137) (u_Vq_Tu _ k_Tu_138) (u_Vq_Tu _ k_Tu_180) (u_Vq_Tu _ k_Tu_0) (wcs (u_Vq_Tu _ k_Tu_139) (fun _ h => h))) rfl rfl rfl (by decide +kernel) ⟨Nat.le_of_ble_eq_true rfl, Nat.le_of_ble_eq_true rfl⟩) (pv_ofE (X.same _) (fun U z1 z2 => X.mono _ _ U hFc (hEw _ _ hS U z1 z2)) hP hK hD (va_recv hK hP (ci := 10) (q0 := 8) rfl rfl)) rfl rfl hl.1 rfl (lv_room (Nat.le_of_ble_eq_true rfl)) d_Tu_putFixed_83 ⟨by decide, by decide⟩) hS (fun q _ h => hFc q h) hFc (fun u t H locs ht hvm hw hB hz1 hk1 hS => ?_)
    obtain ⟨hP, -, hD⟩ := hB
    rw [ht] at hP
    have hD := lx_dj hD hFc
    refine lv_aload_n hx hb d_Tu_putFixed_86 rfl (lv_at hl 1 rfl) ?_
    refine lv_iload_n hx hb d_Tu_putFixed_87 rfl (lv_at hl 0 rfl) ?_
    refine lv_iconst (v := 1) hx hb d_Tu_putFixed_88 (by decide) ?_
    refine lv_iadd hx hb d_Tu_putFixed_89 ?_
    obtain ⟨S_20, hc_20, h⟩ := lf_bE h
    have hFc := lx_free hD hS hA
    refine va_callv (va_runV (As := [.int (r_16 + 1)]) (rest := []) ⟨hx, hb, hml, hown, hts⟩ (l_Tu_storeBlock l dC dI X _ hc_20) (cwV 1 hts (gwV good_Vq (u_Vq_Tu _ k_Tu_72) (u_Vq_Tu _ k_Tu_73) (u_Vq_Tu _ k_Tu_165) (u_Vq_Tu _ k_Tu_0) (wcs (u_Vq_Tu _ k_Tu_74) (fun _ h => h))) rfl rfl rfl (by decide +kernel) ⟨Nat.le_of_ble_eq_true rfl, Nat.le_of_ble_eq_true rfl⟩) (pv_ofE (X.same _) (fun U z1 z2 => X.mono _ _ U hFc (hEw _ _ hS U z1 z2)) hP hK hD (va_recv hK hP (ci := 10) (q0 := 8) rfl rfl)) rfl rfl hl.1 rfl (lv_room (Nat.le_of_ble_eq_true rfl)) d_Tu_putFixed_90 ⟨by decide, by decide⟩) hS (fun q _ h => hFc q h) hFc (fun u t H locs ht hvm hw hB hz1 hk1 hS => ?_)
    obtain ⟨hP, -, hD⟩ := hB
    rw [ht] at hP
    have hD := lx_dj hD hFc
    refine lv_iconst (v := 0) hx hb d_Tu_putFixed_93 (by decide) ?_
    refine lv_istore_n (lv' := [(3, .int 0), (2, .int r_16), (0, .ref M.o_Tu), (1, .int y_1)]) hx hb d_Tu_putFixed_94 rfl hl (by decide) rfl (fun ls hl => ?_)
    exact hB_95 _ hr_2 K y_1 r_16 0 S_20 _ _ _ h hP hD hS (lv_sub hl [2, 3, 1, 0] rfl)
  have hB_150 : ∀ (S : CS) (H : Heap) (locs : List Loc) (ls : Array Slot), f_Tu_putFixed_150 K G S = some S' → va_P (dC, dI) classes (wV M Y G S) H → va_D A (wV M Y G S) → va_S A s.heap H locs → lv_has ls 4 [(0, .ref M.o_Tu)] → W p l e ({ frames := 5, cells := 0, slots := 0, locals := 123 }) s m ([.ref M.o_Tu] : List Value).toArray below meth c H locs 0 0 Q (F0 m 150 ls []) := by
    intro S H locs ls h hP hD hS hl
    rw [f_Tu_putFixed_150] at h
    refine lv_aload_n hx hb d_Tu_putFixed_150 rfl (lv_at hl 0 rfl) ?_
    obtain ⟨S_11, hc_11, h⟩ := lf_bE h
    have hFc := lx_free hD hS hA
    refine va_callv (va_runV (As := []) (rest := []) ⟨hx, hb, hml, hown, hts⟩ (l_Tu_fillDescriptors l dC dI X _ hc_11) (cwV 0 hts (gwV good_Vq (u_Vq_Tu _ k_Tu_120) (u_Vq_Tu _ k_Tu_121) (u_Vq_Tu _ k_Tu_176) (u_Vq_Tu _ k_Tu_0) (wcs (u_Vq_Tu _ k_Tu_122) (fun _ h => h))) rfl rfl rfl (by decide +kernel) ⟨Nat.le_of_ble_eq_true rfl, Nat.le_of_ble_eq_true rfl⟩) (pv_ofE (X.same _) (fun U z1 z2 => X.mono _ _ U hFc (hEw _ _ hS U z1 z2)) hP hK hD (va_recv hK hP (ci := 10) (q0 := 8) rfl rfl)) rfl rfl hl.1 rfl (lv_room (Nat.le_of_ble_eq_true rfl)) d_Tu_putFixed_151 ⟨by decide, by decide⟩) hS (fun q _ h => hFc q h) hFc (fun u t H locs ht hvm hw hB hz1 hk1 hS => ?_)
    obtain ⟨hP, -, hD⟩ := hB
    rw [ht] at hP
    have hD := lx_dj hD hFc
    refine lv_aload_n hx hb d_Tu_putFixed_154 rfl (lv_at hl 0 rfl) ?_
    refine lv_iconst (v := 2) hx hb d_Tu_putFixed_155 (by decide) ?_
    obtain ⟨S_12, hc_12, h⟩ := lf_bE h
    have hFc := lx_free hD hS hA
    refine va_callv (va_runV (As := [.int 2]) (rest := []) ⟨hx, hb, hml, hown, hts⟩ (l_Tu_storeBlock l dC dI X _ hc_12) (cwV 1 hts (gwV good_Vq (u_Vq_Tu _ k_Tu_72) (u_Vq_Tu _ k_Tu_73) (u_Vq_Tu _ k_Tu_165) (u_Vq_Tu _ k_Tu_0) (wcs (u_Vq_Tu _ k_Tu_74) (fun _ h => h))) rfl rfl rfl (by decide +kernel) ⟨Nat.le_of_ble_eq_true rfl, Nat.le_of_ble_eq_true rfl⟩) (pv_ofE (X.same _) (fun U z1 z2 => X.mono _ _ U hFc (hEw _ _ hS U z1 z2)) hP hK hD (va_recv hK hP (ci := 10) (q0 := 8) rfl rfl)) rfl rfl hl.1 rfl (lv_room (Nat.le_of_ble_eq_true rfl)) d_Tu_putFixed_156 ⟨by decide, by decide⟩) hS (fun q _ h => hFc q h) hFc (fun u t H locs ht hvm hw hB hz1 hk1 hS => ?_)
    obtain ⟨hP, -, hD⟩ := hB
    rw [ht] at hP
    have hD := lx_dj hD hFc
    refine lv_aload_n hx hb d_Tu_putFixed_159 rfl (lv_at hl 0 rfl) ?_
    refine lv_iconst (v := 0) hx hb d_Tu_putFixed_160 (by decide) ?_
    obtain ⟨S_13, hc_13, h⟩ := lf_bE h
    have hFc := lx_free hD hS hA
    refine va_callv (va_runV (As := [.int 0]) (rest := []) ⟨hx, hb, hml, hown, hts⟩ (l_Tu_fillSuperblock l dC dI X _ hc_13) (cwV 1 hts (gwV good_Vq (u_Vq_Tu _ k_Tu_108) (u_Vq_Tu _ k_Tu_109) (u_Vq_Tu _ k_Tu_174) (u_Vq_Tu _ k_Tu_0) (wcs (u_Vq_Tu _ k_Tu_110) (fun _ h => h))) rfl rfl rfl (by decide +kernel) ⟨Nat.le_of_ble_eq_true rfl, Nat.le_of_ble_eq_true rfl⟩) (pv_ofE (X.same _) (fun U z1 z2 => X.mono _ _ U hFc (hEw _ _ hS U z1 z2)) hP hK hD (va_recv hK hP (ci := 10) (q0 := 8) rfl rfl)) rfl rfl hl.1 rfl (lv_room (Nat.le_of_ble_eq_true rfl)) d_Tu_putFixed_161 ⟨by decide, by decide⟩) hS (fun q _ h => hFc q h) hFc (fun u t H locs ht hvm hw hB hz1 hk1 hS => ?_)
    obtain ⟨hP, -, hD⟩ := hB
    rw [ht] at hP
    have hD := lx_dj hD hFc
    refine lv_aload_n hx hb d_Tu_putFixed_164 rfl (lv_at hl 0 rfl) ?_
    refine va_get (D := (dC, dI)) (ci := 10) (v := .ref M.o_Dk) (C := R_Tu) (T := F_Tu) (N := 7) hx hb hts (fun w h => u_Vq_Tu w (i_Tu w h)) hown hK hP 8 rfl rfl 0 (by decide) (hts _ (u_Vq_Tu _ k_Tu_17)) (fun _ h9 => h9) rfl d_Tu_putFixed_165 ?_
    refine lv_iconst (v := 3) hx hb d_Tu_putFixed_168 (by decide) ?_
    refine lv_aload_n hx hb d_Tu_putFixed_169 rfl (lv_at hl 0 rfl) ?_
    refine va_get (D := (dC, dI)) (ci := 10) (v := .ref M.a_Tu_block) (C := R_Tu) (T := F_Tu) (N := 7) hx hb hts (fun w h => u_Vq_Tu w (i_Tu w h)) hown hK hP 8 rfl rfl 6 (by decide) (hts _ (u_Vq_Tu _ k_Tu_23)) (fun _ h9 => h9) rfl d_Tu_putFixed_170 ?_
    refine lv_sipush (v := 512) hx hb d_Tu_putFixed_173 (by decide) ?_
    obtain ⟨S_14, hc_14, h⟩ := lf_bE h
    have hFc := lx_free hD hS hA
    refine va_callv (va_runV (As := [.int 3, .ref M.a_Tu_block, .int 512]) (rest := []) ⟨hx, hb, hml, hown, hts⟩ (l_Dk_store_Tublock l dC dI X _ hc_14) (cwV 3 hts (gwV good_Vq (u_Vq_Tu _ k_Tu_42) (u_Vq_Dk _ k_Dk_41) (u_Vq_Dk _ k_Dk_42) (u_Vq_Dk _ k_Dk_0) (wcs (u_Vq_Dk _ k_Dk_43) (fun _ h => h))) rfl rfl rfl (by decide +kernel) ⟨Nat.le_of_ble_eq_true rfl, Nat.le_of_ble_eq_true rfl⟩) (pv_ofE (X.same _) (fun U z1 z2 => X.mono _ _ U hFc (hEw _ _ hS U z1 z2)) hP hK hD (va_recv hK hP (ci := 0) (q0 := 1) rfl rfl)) rfl rfl hl.1 rfl (lv_room (Nat.le_of_ble_eq_true rfl)) d_Tu_putFixed_176 ⟨by decide, by decide⟩) hS (fun q _ h => hFc q h) hFc (fun u t H locs ht hvm hw hB hz1 hk1 hS => ?_)
    obtain ⟨hP, -, hD⟩ := hB
    rw [ht] at hP
    have hD := lx_dj hD hFc
    refine lv_aload_n hx hb d_Tu_putFixed_179 rfl (lv_at hl 0 rfl) ?_
    refine va_get (D := (dC, dI)) (ci := 10) (v := .ref M.o_Dk) (C := R_Tu) (T := F_Tu) (N := 7) hx hb hts (fun w h => u_Vq_Tu w (i_Tu w h)) hown hK hP 8 rfl rfl 0 (by decide) (hts _ (u_Vq_Tu _ k_Tu_17)) (fun _ h9 => h9) rfl d_Tu_putFixed_180 ?_
    refine lv_iconst (v := 2) hx hb d_Tu_putFixed_183 (by decide) ?_
    refine lv_aload_n hx hb d_Tu_putFixed_184 rfl (lv_at hl 0 rfl) ?_
    refine va_get (D := (dC, dI)) (ci := 10) (v := .ref M.a_Tu_block) (C := R_Tu) (T := F_Tu) (N := 7) hx hb hts (fun w h => u_Vq_Tu w (i_Tu w h)) hown hK hP 8 rfl rfl 6 (by decide) (hts _ (u_Vq_Tu _ k_Tu_23)) (fun _ h9 => h9) rfl d_Tu_putFixed_185 ?_
    refine lv_iconst (v := 0) hx hb d_Tu_putFixed_188 (by decide) ?_
    obtain ⟨S_15, hc_15, h⟩ := lf_bE h
    have hFc := lx_free hD hS hA
    refine va_callv (va_runV (As := [.int 2, .ref M.a_Tu_block, .int 0]) (rest := []) ⟨hx, hb, hml, hown, hts⟩ (l_Dk_store_Tublock l dC dI X _ hc_15) (cwV 3 hts (gwV good_Vq (u_Vq_Tu _ k_Tu_42) (u_Vq_Dk _ k_Dk_41) (u_Vq_Dk _ k_Dk_42) (u_Vq_Dk _ k_Dk_0) (wcs (u_Vq_Dk _ k_Dk_43) (fun _ h => h))) rfl rfl rfl (by decide +kernel) ⟨Nat.le_of_ble_eq_true rfl, Nat.le_of_ble_eq_true rfl⟩) (pv_ofE (X.same _) (fun U z1 z2 => X.mono _ _ U hFc (hEw _ _ hS U z1 z2)) hP hK hD (va_recv hK hP (ci := 0) (q0 := 1) rfl rfl)) rfl rfl hl.1 rfl (lv_room (Nat.le_of_ble_eq_true rfl)) d_Tu_putFixed_189 ⟨by decide, by decide⟩) hS (fun q _ h => hFc q h) hFc (fun u t H locs ht hvm hw hB hz1 hk1 hS => ?_)
    obtain ⟨hP, -, hD⟩ := hB
    rw [ht] at hP
    have hD := lx_dj hD hFc
    rw [hQ]
    have e2 : S_15 = S' := Option.some.inj h
    have hP := ly_newP e2.symm hP
    have hD := ly_newD e2.symm hD
    exact W.vret hx hb hr (fun t ht hW => ⟨⟨(), rfl, trivial, by rw [ht]; exact hP, va_K.moved hW.alike hK, hD⟩, hS.F ht⟩) hS.2.2 d_Tu_putFixed_192
  have hB_2 : ∀ (k : Nat), ∀ (y_1 : Int32) (S : CS) (H : Heap) (locs : List Loc) (ls : Array Slot), f_Tu_putFixed_2 K G k y_1 S = some S' → va_P (dC, dI) classes (wV M Y G S) H → va_D A (wV M Y G S) → va_S A s.heap H locs → lv_has ls 4 [(0, .ref M.o_Tu), (1, .int y_1)] → W p l e ({ frames := 5, cells := 0, slots := 0, locals := 123 }) s m ([.ref M.o_Tu] : List Value).toArray below meth c H locs 0 0 Q (F0 m 2 ls []) := by
    intro k
    induction k with
    | zero => intro y_1 S H locs ls h; exact lf_no h
    | succ k hr_2 =>
      intro y_1 S H locs ls h hP hD hS hl
      rw [f_Tu_putFixed_2] at h
      refine lv_iload_n hx hb d_Tu_putFixed_2 rfl (lv_at hl 1 rfl) ?_
      refine lv_aload_n hx hb d_Tu_putFixed_3 rfl (lv_at hl 0 rfl) ?_
      refine va_get (D := (dC, dI)) (ci := 10) (v := .ref M.o_Pl) (C := R_Tu) (T := F_Tu) (N := 7) hx hb hts (fun w h => u_Vq_Tu w (i_Tu w h)) hown hK hP 8 rfl rfl 4 (by decide) (hts _ (u_Vq_Tu _ k_Tu_21)) (fun _ h9 => h9) rfl d_Tu_putFixed_4 ?_
      refine va_get (D := (dC, dI)) (ci := 9) (v := .int S.v_Pl_groups) (C := R_Pl) (T := F_Pl) (N := 17) hx hb hts (fun w h => u_Vq_Pl w (i_Pl w h)) hown hK hP 7 rfl rfl 12 (by decide) (hts _ (u_Vq_Tu _ k_Tu_10)) (fun _ h9 => h9) rfl d_Tu_putFixed_7 ?_
      refine lv_icmp_ge (tgt := 150) hx hb d_Tu_putFixed_10 (by decide) (fun c_1 => ?_) (fun c_1 => ?_)
      · have h := lf_t h c_1
        exact hB_150 S _ _ _ h hP hD hS (lv_sub hl [0] rfl)
      · have h := lf_f h c_1
        refine lv_aload_n hx hb d_Tu_putFixed_13 rfl (lv_at hl 0 rfl) ?_
        refine va_get (D := (dC, dI)) (ci := 10) (v := .ref M.o_Dk) (C := R_Tu) (T := F_Tu) (N := 7) hx hb hts (fun w h => u_Vq_Tu w (i_Tu w h)) hown hK hP 8 rfl rfl 0 (by decide) (hts _ (u_Vq_Tu _ k_Tu_17)) (fun _ h9 => h9) rfl d_Tu_putFixed_14 ?_
        obtain ⟨r_2, S_2, hc_2, h⟩ := lf_cE h
        have hFc := lx_free hD hS hA
        refine va_calli (va_runV (As := []) (rest := []) ⟨hx, hb, hml, hown, hts⟩ (l_Dk_isOn l dC dI X _ hc_2) (cwV 0 hts (gwV good_Vq (u_Vq_Tu _ k_Tu_43) (u_Vq_Dk _ k_Dk_44) (u_Vq_Dk _ k_Dk_45) (u_Vq_Dk _ k_Dk_0) (wcs (u_Vq_Dk _ k_Dk_46) (fun _ h => h))) rfl rfl rfl (by decide +kernel) ⟨Nat.le_of_ble_eq_true rfl, Nat.le_of_ble_eq_true rfl⟩) (pv_ofE (X.same _) (fun U z1 z2 => X.mono _ _ U hFc (hEw _ _ hS U z1 z2)) hP hK hD (va_recv hK hP (ci := 0) (q0 := 1) rfl rfl)) rfl rfl hl.1 rfl (lv_room (Nat.le_of_ble_eq_true rfl)) d_Tu_putFixed_17 ⟨by decide, by decide⟩) hS (fun q _ h => hFc q h) hFc (fun r_ u t H locs ht hvm hw hB hz1 hk1 hS => ?_)
        rw [hw]
        obtain ⟨hP, -, hD⟩ := hB
        rw [ht] at hP
        have hD := lx_dj hD hFc
        refine lv_if_eq (tgt := 150) hx hb d_Tu_putFixed_20 (by decide) (fun c_3 => ?_) (fun c_3 => ?_)
        · have h := lf_t h c_3
          exact hB_150 S_2 _ _ _ h hP hD hS (lv_sub hl [0] rfl)
        · have h := lf_f h c_3
          refine lv_iload_n hx hb d_Tu_putFixed_23 rfl (lv_at hl 1 rfl) ?_
          refine lv_if_le (tgt := 62) hx hb d_Tu_putFixed_24 (by decide) (fun c_4 => ?_) (fun c_4 => ?_)
          · have h := lf_t h c_4
            exact hB_62 _ hr_2 y_1 S_2 _ _ _ h hP hD hS (lv_sub hl [0, 1] rfl)
          · have h := lf_f h c_4
            refine lv_aload_n hx hb d_Tu_putFixed_27 rfl (lv_at hl 0 rfl) ?_
            refine lv_iload_n hx hb d_Tu_putFixed_28 rfl (lv_at hl 1 rfl) ?_
            obtain ⟨S_5, hc_5, h⟩ := lf_bE h
            have hFc := lx_free hD hS hA
            refine va_callv (va_runV (As := [.int y_1]) (rest := []) ⟨hx, hb, hml, hown, hts⟩ (l_Tu_fillSuperblock l dC dI X _ hc_5) (cwV 1 hts (gwV good_Vq (u_Vq_Tu _ k_Tu_108) (u_Vq_Tu _ k_Tu_109) (u_Vq_Tu _ k_Tu_174) (u_Vq_Tu _ k_Tu_0) (wcs (u_Vq_Tu _ k_Tu_110) (fun _ h => h))) rfl rfl rfl (by decide +kernel) ⟨Nat.le_of_ble_eq_true rfl, Nat.le_of_ble_eq_true rfl⟩) (pv_ofE (X.same _) (fun U z1 z2 => X.mono _ _ U hFc (hEw _ _ hS U z1 z2)) hP hK hD (va_recv hK hP (ci := 10) (q0 := 8) rfl rfl)) rfl rfl hl.1 rfl (lv_room (Nat.le_of_ble_eq_true rfl)) d_Tu_putFixed_29 ⟨by decide, by decide⟩) hS (fun q _ h => hFc q h) hFc (fun u t H locs ht hvm hw hB hz1 hk1 hS => ?_)
            obtain ⟨hP, -, hD⟩ := hB
            rw [ht] at hP
            have hD := lx_dj hD hFc
            refine lv_aload_n hx hb d_Tu_putFixed_32 rfl (lv_at hl 0 rfl) ?_
            refine lv_aload_n hx hb d_Tu_putFixed_33 rfl (lv_at hl 0 rfl) ?_
            refine va_get (D := (dC, dI)) (ci := 10) (v := .ref M.o_Pl) (C := R_Tu) (T := F_Tu) (N := 7) hx hb hts (fun w h => u_Vq_Tu w (i_Tu w h)) hown hK hP 8 rfl rfl 4 (by decide) (hts _ (u_Vq_Tu _ k_Tu_21)) (fun _ h9 => h9) rfl d_Tu_putFixed_34 ?_
            refine lv_iload_n hx hb d_Tu_putFixed_37 rfl (lv_at hl 1 rfl) ?_
            obtain ⟨r_6, S_6, hc_6, h⟩ := lf_cE h
            have hFc := lx_free hD hS hA
            refine va_calli (va_runV (As := [.int y_1]) (rest := [.ref M.o_Tu]) ⟨hx, hb, hml, hown, hts⟩ (l_Pl_firstBlock l dC dI X _ hc_6) (cwV 1 hts (gwV good_Vq (u_Vq_Tu _ k_Tu_119) (u_Vq_Pl _ k_Pl_45) (u_Vq_Pl _ k_Pl_46) (u_Vq_Pl _ k_Pl_0) (wcs (u_Vq_Pl _ k_Pl_47) (fun _ h => h))) rfl rfl rfl (by decide +kernel) ⟨Nat.le_of_ble_eq_true rfl, Nat.le_of_ble_eq_true rfl⟩) (pv_ofE (X.same _) (fun U z1 z2 => X.mono _ _ U hFc (hEw _ _ hS U z1 z2)) hP hK hD (va_recv hK hP (ci := 9) (q0 := 7) rfl rfl)) rfl rfl hl.1 rfl (lv_room (Nat.le_of_ble_eq_true rfl)) d_Tu_putFixed_38 ⟨by decide, by decide⟩) hS (fun q _ h => hFc q h) hFc (fun r_ u t H locs ht hvm hw hB hz1 hk1 hS => ?_)
            rw [hw]
            obtain ⟨hP, -, hD⟩ := hB
            rw [ht] at hP
            have hD := lx_dj hD hFc
            obtain ⟨S_7, hc_7, h⟩ := lf_bE h
            have hFc := lx_free hD hS hA
            refine va_callv (va_runV (As := [.int r_6]) (rest := []) ⟨hx, hb, hml, hown, hts⟩ (l_Tu_storeBlock l dC dI X _ hc_7) (cwV 1 hts (gwV good_Vq (u_Vq_Tu _ k_Tu_72) (u_Vq_Tu _ k_Tu_73) (u_Vq_Tu _ k_Tu_165) (u_Vq_Tu _ k_Tu_0) (wcs (u_Vq_Tu _ k_Tu_74) (fun _ h => h))) rfl rfl rfl (by decide +kernel) ⟨Nat.le_of_ble_eq_true rfl, Nat.le_of_ble_eq_true rfl⟩) (pv_ofE (X.same _) (fun U z1 z2 => X.mono _ _ U hFc (hEw _ _ hS U z1 z2)) hP hK hD (va_recv hK hP (ci := 10) (q0 := 8) rfl rfl)) rfl rfl hl.1 rfl (lv_room (Nat.le_of_ble_eq_true rfl)) d_Tu_putFixed_41 ⟨by decide, by decide⟩) hS (fun q _ h => hFc q h) hFc (fun u t H locs ht hvm hw hB hz1 hk1 hS => ?_)
            obtain ⟨hP, -, hD⟩ := hB
            rw [ht] at hP
            have hD := lx_dj hD hFc
            refine lv_aload_n hx hb d_Tu_putFixed_44 rfl (lv_at hl 0 rfl) ?_
            obtain ⟨S_8, hc_8, h⟩ := lf_bE h
            have hFc := lx_free hD hS hA
            refine va_callv (va_runV (As := []) (rest := []) ⟨hx, hb, hml, hown, hts⟩ (l_Tu_fillDescriptors l dC dI X _ hc_8) (cwV 0 hts (gwV good_Vq (u_Vq_Tu _ k_Tu_120) (u_Vq_Tu _ k_Tu_121) (u_Vq_Tu _ k_Tu_176) (u_Vq_Tu _ k_Tu_0) (wcs (u_Vq_Tu _ k_Tu_122) (fun _ h => h))) rfl rfl rfl (by decide +kernel) ⟨Nat.le_of_ble_eq_true rfl, Nat.le_of_ble_eq_true rfl⟩) (pv_ofE (X.same _) (fun U z1 z2 => X.mono _ _ U hFc (hEw _ _ hS U z1 z2)) hP hK hD (va_recv hK hP (ci := 10) (q0 := 8) rfl rfl)) rfl rfl hl.1 rfl (lv_room (Nat.le_of_ble_eq_true rfl)) d_Tu_putFixed_45 ⟨by decide, by decide⟩) hS (fun q _ h => hFc q h) hFc (fun u t H locs ht hvm hw hB hz1 hk1 hS => ?_)
            obtain ⟨hP, -, hD⟩ := hB
            rw [ht] at hP
            have hD := lx_dj hD hFc
            refine lv_aload_n hx hb d_Tu_putFixed_48 rfl (lv_at hl 0 rfl) ?_
            refine lv_aload_n hx hb d_Tu_putFixed_49 rfl (lv_at hl 0 rfl) ?_
            refine va_get (D := (dC, dI)) (ci := 10) (v := .ref M.o_Pl) (C := R_Tu) (T := F_Tu) (N := 7) hx hb hts (fun w h => u_Vq_Tu w (i_Tu w h)) hown hK hP 8 rfl rfl 4 (by decide) (hts _ (u_Vq_Tu _ k_Tu_21)) (fun _ h9 => h9) rfl d_Tu_putFixed_50 ?_
            refine lv_iload_n hx hb d_Tu_putFixed_53 rfl (lv_at hl 1 rfl) ?_
            obtain ⟨r_9, S_9, hc_9, h⟩ := lf_cE h
            have hFc := lx_free hD hS hA
            refine va_calli (va_runV (As := [.int y_1]) (rest := [.ref M.o_Tu]) ⟨hx, hb, hml, hown, hts⟩ (l_Pl_firstBlock l dC dI X _ hc_9) (cwV 1 hts (gwV good_Vq (u_Vq_Tu _ k_Tu_119) (u_Vq_Pl _ k_Pl_45) (u_Vq_Pl _ k_Pl_46) (u_Vq_Pl _ k_Pl_0) (wcs (u_Vq_Pl _ k_Pl_47) (fun _ h => h))) rfl rfl rfl (by decide +kernel) ⟨Nat.le_of_ble_eq_true rfl, Nat.le_of_ble_eq_true rfl⟩) (pv_ofE (X.same _) (fun U z1 z2 => X.mono _ _ U hFc (hEw _ _ hS U z1 z2)) hP hK hD (va_recv hK hP (ci := 9) (q0 := 7) rfl rfl)) rfl rfl hl.1 rfl (lv_room (Nat.le_of_ble_eq_true rfl)) d_Tu_putFixed_54 ⟨by decide, by decide⟩) hS (fun q _ h => hFc q h) hFc (fun r_ u t H locs ht hvm hw hB hz1 hk1 hS => ?_)
            rw [hw]
            obtain ⟨hP, -, hD⟩ := hB
            rw [ht] at hP
            have hD := lx_dj hD hFc
            refine lv_iconst (v := 1) hx hb d_Tu_putFixed_57 (by decide) ?_
            refine lv_iadd hx hb d_Tu_putFixed_58 ?_
            obtain ⟨S_10, hc_10, h⟩ := lf_bE h
            have hFc := lx_free hD hS hA
            refine va_callv (va_runV (As := [.int (r_9 + 1)]) (rest := []) ⟨hx, hb, hml, hown, hts⟩ (l_Tu_storeBlock l dC dI X _ hc_10) (cwV 1 hts (gwV good_Vq (u_Vq_Tu _ k_Tu_72) (u_Vq_Tu _ k_Tu_73) (u_Vq_Tu _ k_Tu_165) (u_Vq_Tu _ k_Tu_0) (wcs (u_Vq_Tu _ k_Tu_74) (fun _ h => h))) rfl rfl rfl (by decide +kernel) ⟨Nat.le_of_ble_eq_true rfl, Nat.le_of_ble_eq_true rfl⟩) (pv_ofE (X.same _) (fun U z1 z2 => X.mono _ _ U hFc (hEw _ _ hS U z1 z2)) hP hK hD (va_recv hK hP (ci := 10) (q0 := 8) rfl rfl)) rfl rfl hl.1 rfl (lv_room (Nat.le_of_ble_eq_true rfl)) d_Tu_putFixed_59 ⟨by decide, by decide⟩) hS (fun q _ h => hFc q h) hFc (fun u t H locs ht hvm hw hB hz1 hk1 hS => ?_)
            obtain ⟨hP, -, hD⟩ := hB
            rw [ht] at hP
            have hD := lx_dj hD hFc
            exact hB_62 _ hr_2 y_1 S_10 _ _ _ h hP hD hS (lv_sub hl [0, 1] rfl)
  rw [f_Tu_putFixed] at h
  refine lv_iconst (v := 0) hx hb d_Tu_putFixed_0 (by decide) ?_
  refine lv_istore_n (lv' := [(1, .int 0), (0, .ref M.o_Tu)]) hx hb d_Tu_putFixed_1 rfl hl (by decide) rfl (fun ls hl => ?_)
  exact hB_2 K 0 S _ _ _ h hP hD hS (lv_sub hl [1, 0] rfl)
set_option maxHeartbeats 4000000 in
set_option maxRecDepth 100000 in
theorem l_Vt_feed (l : Launch) (dC : Nat → ClassId) (dI : Nat → Nat → Nat) {K : Nat} {M : CA} {E : (Nat → Prop) → State → Prop} (X : ly_X l dC dI K M E) (sz : Nat) {Y : CT} {G : CG} {S S' : CS} {p0 : Int32} {p1 : Int32} {p2 : Int32} {p3 : Int32} {p4 : Int32} (h : f_Vt_feed K G S p0 p1 p2 p3 p4 = some S') : Met l y_Vt_feed (.code y_Vt_feed cb_Vt_feed 6 none :: V_Vq) ({ frames := 1, cells := 0, slots := 0, locals := 23 }) (va_Pc [.ref M.o_Vt, .int p0, .int p1, .int p2, .int p3, .int p4] (fun U => U.heap.size = sz ∧ at_ (dC, dI) (fun _ => True) (wV M Y G S) (tV M) U ∧ E (va_A (wV M Y G S) sz) U)) (va_Qv (fun (u : Unit) => True) (fun (u : Unit) t => at_ (dC, dI) (va_A (wV M Y G S) sz) (wV M Y G S') (tV M) t) (va_A (wV M Y G S) sz)) 0 0 (va_A (wV M Y G S) sz) := by
  refine Met.ofW (cc := cb_Vt_feed) (maxL := 6) (ret := none) (by decide) rfl ?_
  intro p e s m args below meth c s₁ B hml hv
  obtain ⟨rfl, hsz, ⟨hP, hK, hD0⟩, hE⟩ := hv
  have hx := B.exec
  have hb := B.bytes
  have hr := B.returns
  have hts0 := atoms_spec (ws := .code y_Vt_feed cb_Vt_feed 6 none :: V_Vq) B.pre
  have hts : ∀ w ∈ V_Vq, w.before ([.ref M.o_Vt, .int p0, .int p1, .int p2, .int p3, .int p4] : List Value).toArray s = true := fun w h => hts0 w (List.mem_cons_of_mem _ h)
  have hown : s.vm.findClass R_Vt = some m.cls := findClass_of_methodNamed B.named
  subst hsz
  have hD := hD0.self (sz := s.heap.size)
  generalize hAe : va_A (wV M Y G S) s.heap.size = A at hD hE ⊢
  have hA : ∀ q : Nat, s.heap.size ≤ q → A q := fun q h => by rw [← hAe]; exact Or.inr h
  have hS : va_S A s.heap s.heap [] := va_S.rf
  have hP : va_P (dC, dI) classes (wV M Y G S) s.heap := hP
  have hK : va_K (dC, dI) classes (tV M) s := hK
  have hEw : ∀ (H : Heap) (locs : List Loc), va_S A s.heap H locs → ∀ U : State, U.heap = H → s.WarmedH U.vm → E A U := fun H locs hS U hU hW => X.kept A s U H locs hE hS hU hW
  have hl := lv_entry ([.ref M.o_Vt, .int p0, .int p1, .int p2, .int p3, .int p4]) (n := 6) (Nat.le_of_ble_eq_true rfl)
  rw [lg_entry_eq]
  generalize (lg_sl ([.ref M.o_Vt, .int p0, .int p1, .int p2, .int p3, .int p4]) ++ List.replicate (6 - (lg_sl ([.ref M.o_Vt, .int p0, .int p1, .int p2, .int p3, .int p4])).length) Slot.unset).toArray = ls at hl ⊢
  have hl : lv_has ls 6 [(0, .ref M.o_Vt), (1, .int p0), (2, .int p1), (3, .int p2), (4, .int p3), (5, .int p4)] := hl
  refine qabs (fun Q hQ => ?_)
  rw [f_Vt_feed] at h
  refine lv_aload_n hx hb d_Vt_feed_0 rfl (lv_at hl 0 rfl) ?_
  refine va_get (D := (dC, dI)) (ci := 11) (v := .ref M.o_Tp) (C := R_Vt) (T := F_Vt) (N := 16) hx hb hts (fun w h => u_Vq_Vt w (i_Vt w h)) hown hK hP 0 rfl rfl 1 (by decide) (hts _ (u_Vq_Vt _ k_Vt_30)) (fun _ h9 => h9) rfl d_Vt_feed_1 ?_
  refine lv_iconst (v := 0) hx hb d_Vt_feed_4 (by decide) ?_
  refine lv_iload_n hx hb d_Vt_feed_5 rfl (lv_at hl 1 rfl) ?_
  obtain ⟨S_1, hc_1, h⟩ := lf_bE h
  have hFc := lx_free hD hS hA
  refine va_callv (va_runV (As := [.int 0, .int p0]) (rest := []) ⟨hx, hb, hml, hown, hts⟩ (l_Tp_prepare l dC dI X _ hc_1) (cwV 2 hts (gwV good_Vq (u_Vq_Vt _ k_Vt_48) (u_Vq_Tp _ k_Tp_8) (u_Vq_Tp _ k_Tp_9) (u_Vq_Tp _ k_Tp_0) (wcs (u_Vq_Tp _ k_Tp_10) (fun _ h => h))) rfl rfl rfl (by decide +kernel) ⟨Nat.le_of_ble_eq_true rfl, Nat.le_of_ble_eq_true rfl⟩) (pv_ofE (X.same _) (fun U z1 z2 => X.mono _ _ U hFc (hEw _ _ hS U z1 z2)) hP hK hD (va_recv hK hP (ci := 3) (q0 := 2) rfl rfl)) rfl rfl hl.1 rfl (lv_room (Nat.le_of_ble_eq_true rfl)) d_Vt_feed_6 ⟨by decide, by decide⟩) hS (fun q _ h => hFc q h) hFc (fun u t H locs ht hvm hw hB hz1 hk1 hS => ?_)
  obtain ⟨hP, -, hD⟩ := hB
  rw [ht] at hP
  have hD := lx_dj hD hFc
  refine lv_aload_n hx hb d_Vt_feed_9 rfl (lv_at hl 0 rfl) ?_
  refine va_get (D := (dC, dI)) (ci := 11) (v := .ref M.o_Tp) (C := R_Vt) (T := F_Vt) (N := 16) hx hb hts (fun w h => u_Vq_Vt w (i_Vt w h)) hown hK hP 0 rfl rfl 1 (by decide) (hts _ (u_Vq_Vt _ k_Vt_30)) (fun _ h9 => h9) rfl d_Vt_feed_10 ?_
  refine lv_iconst (v := 4) hx hb d_Vt_feed_13 (by decide) ?_
  refine lv_iload_n hx hb d_Vt_feed_14 rfl (lv_at hl 2 rfl) ?_
  obtain ⟨S_2, hc_2, h⟩ := lf_bE h
  have hFc := lx_free hD hS hA
  refine va_callv (va_runV (As := [.int 4, .int p1]) (rest := []) ⟨hx, hb, hml, hown, hts⟩ (l_Tp_prepare l dC dI X _ hc_2) (cwV 2 hts (gwV good_Vq (u_Vq_Vt _ k_Vt_48) (u_Vq_Tp _ k_Tp_8) (u_Vq_Tp _ k_Tp_9) (u_Vq_Tp _ k_Tp_0) (wcs (u_Vq_Tp _ k_Tp_10) (fun _ h => h))) rfl rfl rfl (by decide +kernel) ⟨Nat.le_of_ble_eq_true rfl, Nat.le_of_ble_eq_true rfl⟩) (pv_ofE (X.same _) (fun U z1 z2 => X.mono _ _ U hFc (hEw _ _ hS U z1 z2)) hP hK hD (va_recv hK hP (ci := 3) (q0 := 2) rfl rfl)) rfl rfl hl.1 rfl (lv_room (Nat.le_of_ble_eq_true rfl)) d_Vt_feed_15 ⟨by decide, by decide⟩) hS (fun q _ h => hFc q h) hFc (fun u t H locs ht hvm hw hB hz1 hk1 hS => ?_)
  obtain ⟨hP, -, hD⟩ := hB
  rw [ht] at hP
  have hD := lx_dj hD hFc
  refine lv_aload_n hx hb d_Vt_feed_18 rfl (lv_at hl 0 rfl) ?_
  refine va_get (D := (dC, dI)) (ci := 11) (v := .ref M.o_Tp) (C := R_Vt) (T := F_Vt) (N := 16) hx hb hts (fun w h => u_Vq_Vt w (i_Vt w h)) hown hK hP 0 rfl rfl 1 (by decide) (hts _ (u_Vq_Vt _ k_Vt_30)) (fun _ h9 => h9) rfl d_Vt_feed_19 ?_
  refine lv_bipush (v := 8) hx hb d_Vt_feed_22 (by decide) ?_
  refine lv_iload_n hx hb d_Vt_feed_24 rfl (lv_at hl 3 rfl) ?_
  obtain ⟨S_3, hc_3, h⟩ := lf_bE h
  have hFc := lx_free hD hS hA
  refine va_callv (va_runV (As := [.int 8, .int p2]) (rest := []) ⟨hx, hb, hml, hown, hts⟩ (l_Tp_prepare l dC dI X _ hc_3) (cwV 2 hts (gwV good_Vq (u_Vq_Vt _ k_Vt_48) (u_Vq_Tp _ k_Tp_8) (u_Vq_Tp _ k_Tp_9) (u_Vq_Tp _ k_Tp_0) (wcs (u_Vq_Tp _ k_Tp_10) (fun _ h => h))) rfl rfl rfl (by decide +kernel) ⟨Nat.le_of_ble_eq_true rfl, Nat.le_of_ble_eq_true rfl⟩) (pv_ofE (X.same _) (fun U z1 z2 => X.mono _ _ U hFc (hEw _ _ hS U z1 z2)) hP hK hD (va_recv hK hP (ci := 3) (q0 := 2) rfl rfl)) rfl rfl hl.1 rfl (lv_room (Nat.le_of_ble_eq_true rfl)) d_Vt_feed_25 ⟨by decide, by decide⟩) hS (fun q _ h => hFc q h) hFc (fun u t H locs ht hvm hw hB hz1 hk1 hS => ?_)
  obtain ⟨hP, -, hD⟩ := hB
  rw [ht] at hP
  have hD := lx_dj hD hFc
  refine lv_aload_n hx hb d_Vt_feed_28 rfl (lv_at hl 0 rfl) ?_
  refine va_get (D := (dC, dI)) (ci := 11) (v := .ref M.o_Tp) (C := R_Vt) (T := F_Vt) (N := 16) hx hb hts (fun w h => u_Vq_Vt w (i_Vt w h)) hown hK hP 0 rfl rfl 1 (by decide) (hts _ (u_Vq_Vt _ k_Vt_30)) (fun _ h9 => h9) rfl d_Vt_feed_29 ?_
  refine lv_bipush (v := 12) hx hb d_Vt_feed_32 (by decide) ?_
  refine lv_iload hx hb d_Vt_feed_34 (lv_at hl 4 rfl) ?_
  obtain ⟨S_4, hc_4, h⟩ := lf_bE h
  have hFc := lx_free hD hS hA
  refine va_callv (va_runV (As := [.int 12, .int p3]) (rest := []) ⟨hx, hb, hml, hown, hts⟩ (l_Tp_prepare l dC dI X _ hc_4) (cwV 2 hts (gwV good_Vq (u_Vq_Vt _ k_Vt_48) (u_Vq_Tp _ k_Tp_8) (u_Vq_Tp _ k_Tp_9) (u_Vq_Tp _ k_Tp_0) (wcs (u_Vq_Tp _ k_Tp_10) (fun _ h => h))) rfl rfl rfl (by decide +kernel) ⟨Nat.le_of_ble_eq_true rfl, Nat.le_of_ble_eq_true rfl⟩) (pv_ofE (X.same _) (fun U z1 z2 => X.mono _ _ U hFc (hEw _ _ hS U z1 z2)) hP hK hD (va_recv hK hP (ci := 3) (q0 := 2) rfl rfl)) rfl rfl hl.1 rfl (lv_room (Nat.le_of_ble_eq_true rfl)) d_Vt_feed_36 ⟨by decide, by decide⟩) hS (fun q _ h => hFc q h) hFc (fun u t H locs ht hvm hw hB hz1 hk1 hS => ?_)
  obtain ⟨hP, -, hD⟩ := hB
  rw [ht] at hP
  have hD := lx_dj hD hFc
  refine lv_aload_n hx hb d_Vt_feed_39 rfl (lv_at hl 0 rfl) ?_
  refine va_get (D := (dC, dI)) (ci := 11) (v := .ref M.o_Tp) (C := R_Vt) (T := F_Vt) (N := 16) hx hb hts (fun w h => u_Vq_Vt w (i_Vt w h)) hown hK hP 0 rfl rfl 1 (by decide) (hts _ (u_Vq_Vt _ k_Vt_30)) (fun _ h9 => h9) rfl d_Vt_feed_40 ?_
  refine lv_bipush (v := 16) hx hb d_Vt_feed_43 (by decide) ?_
  refine lv_iload hx hb d_Vt_feed_45 (lv_at hl 5 rfl) ?_
  obtain ⟨S_5, hc_5, h⟩ := lf_bE h
  have hFc := lx_free hD hS hA
  refine va_callv (va_runV (As := [.int 16, .int p4]) (rest := []) ⟨hx, hb, hml, hown, hts⟩ (l_Tp_prepare l dC dI X _ hc_5) (cwV 2 hts (gwV good_Vq (u_Vq_Vt _ k_Vt_48) (u_Vq_Tp _ k_Tp_8) (u_Vq_Tp _ k_Tp_9) (u_Vq_Tp _ k_Tp_0) (wcs (u_Vq_Tp _ k_Tp_10) (fun _ h => h))) rfl rfl rfl (by decide +kernel) ⟨Nat.le_of_ble_eq_true rfl, Nat.le_of_ble_eq_true rfl⟩) (pv_ofE (X.same _) (fun U z1 z2 => X.mono _ _ U hFc (hEw _ _ hS U z1 z2)) hP hK hD (va_recv hK hP (ci := 3) (q0 := 2) rfl rfl)) rfl rfl hl.1 rfl (lv_room (Nat.le_of_ble_eq_true rfl)) d_Vt_feed_47 ⟨by decide, by decide⟩) hS (fun q _ h => hFc q h) hFc (fun u t H locs ht hvm hw hB hz1 hk1 hS => ?_)
  obtain ⟨hP, -, hD⟩ := hB
  rw [ht] at hP
  have hD := lx_dj hD hFc
  rw [hQ]
  have e2 : S_5 = S' := Option.some.inj h
  have hP := ly_newP e2.symm hP
  have hD := ly_newD e2.symm hD
  exact W.vret hx hb hr (fun t ht hW => ⟨⟨(), rfl, trivial, by rw [ht]; exact hP, va_K.moved hW.alike hK, hD⟩, hS.F ht⟩) hS.2.2 d_Vt_feed_50
set_option maxHeartbeats 4000000 in
set_option maxRecDepth 100000 in
theorem l_Vt_end (l : Launch) (dC : Nat → ClassId) (dI : Nat → Nat → Nat) {K : Nat} {M : CA} {E : (Nat → Prop) → State → Prop} (X : ly_X l dC dI K M E) (sz : Nat) {Y : CT} {G : CG} {S S' : CS} {p0 : Int32} {r : Int32} (h : f_Vt_end K G S p0 = some (r, S')) : Met l y_Vt_end (.code y_Vt_end cb_Vt_end 2 (some .int) :: V_Vq) ({ frames := 2, cells := 0, slots := 0, locals := 81 }) (va_Pc [.ref M.o_Vt, .int p0] (fun U => U.heap.size = sz ∧ at_ (dC, dI) (fun _ => True) (wV M Y G S) (tV M) U ∧ E (va_A (wV M Y G S) sz) U)) (va_Qi (fun (r_ : Int32) (u : Unit) => r_ = r) (fun (u : Unit) t => at_ (dC, dI) (va_A (wV M Y G S) sz) (wV M Y G S') (tV M) t) (va_A (wV M Y G S) sz)) 0 0 (va_A (wV M Y G S) sz) := by
  refine Met.ofW (cc := cb_Vt_end) (maxL := 2) (ret := (some .int)) (by decide) rfl ?_
  intro p e s m args below meth c s₁ B hml hv
  obtain ⟨rfl, hsz, ⟨hP, hK, hD0⟩, hE⟩ := hv
  have hx := B.exec
  have hb := B.bytes
  have hr := B.returns
  have hts0 := atoms_spec (ws := .code y_Vt_end cb_Vt_end 2 (some .int) :: V_Vq) B.pre
  have hts : ∀ w ∈ V_Vq, w.before ([.ref M.o_Vt, .int p0] : List Value).toArray s = true := fun w h => hts0 w (List.mem_cons_of_mem _ h)
  have hown : s.vm.findClass R_Vt = some m.cls := findClass_of_methodNamed B.named
  subst hsz
  have hD := hD0.self (sz := s.heap.size)
  generalize hAe : va_A (wV M Y G S) s.heap.size = A at hD hE ⊢
  have hA : ∀ q : Nat, s.heap.size ≤ q → A q := fun q h => by rw [← hAe]; exact Or.inr h
  have hS : va_S A s.heap s.heap [] := va_S.rf
  have hP : va_P (dC, dI) classes (wV M Y G S) s.heap := hP
  have hK : va_K (dC, dI) classes (tV M) s := hK
  have hEw : ∀ (H : Heap) (locs : List Loc), va_S A s.heap H locs → ∀ U : State, U.heap = H → s.WarmedH U.vm → E A U := fun H locs hS U hU hW => X.kept A s U H locs hE hS hU hW
  have hl := lv_entry ([.ref M.o_Vt, .int p0]) (n := 2) (Nat.le_of_ble_eq_true rfl)
  rw [lg_entry_eq]
  generalize (lg_sl ([.ref M.o_Vt, .int p0]) ++ List.replicate (2 - (lg_sl ([.ref M.o_Vt, .int p0])).length) Slot.unset).toArray = ls at hl ⊢
  have hl : lv_has ls 2 [(0, .ref M.o_Vt), (1, .int p0)] := hl
  refine qabs (fun Q hQ => ?_)
  rw [f_Vt_end] at h
  refine lv_aload_n hx hb d_Vt_end_0 rfl (lv_at hl 0 rfl) ?_
  refine va_get (D := (dC, dI)) (ci := 11) (v := .ref M.o_Tp) (C := R_Vt) (T := F_Vt) (N := 16) hx hb hts (fun w h => u_Vq_Vt w (i_Vt w h)) hown hK hP 0 rfl rfl 1 (by decide) (hts _ (u_Vq_Vt _ k_Vt_30)) (fun _ h9 => h9) rfl d_Vt_end_1 ?_
  refine lv_iload_n hx hb d_Vt_end_4 rfl (lv_at hl 1 rfl) ?_
  obtain ⟨r_1, S_1, hc_1, h⟩ := lf_cE h
  have hFc := lx_free hD hS hA
  refine va_calli (va_runV (As := [.int p0]) (rest := []) ⟨hx, hb, hml, hown, hts⟩ (l_Tp_append l dC dI X _ hc_1) (cwV 1 hts (gwV good_Vq (u_Vq_Vt _ k_Vt_52) (u_Vq_Tp _ k_Tp_11) (u_Vq_Tp _ k_Tp_12) (u_Vq_Tp _ k_Tp_0) (wcs (u_Vq_Tp _ k_Tp_13) (fun _ h => h))) rfl rfl rfl (by decide +kernel) ⟨Nat.le_of_ble_eq_true rfl, Nat.le_of_ble_eq_true rfl⟩) (pv_ofE (X.same _) (fun U z1 z2 => X.mono _ _ U hFc (hEw _ _ hS U z1 z2)) hP hK hD (va_recv hK hP (ci := 3) (q0 := 2) rfl rfl)) rfl rfl hl.1 rfl (lv_room (Nat.le_of_ble_eq_true rfl)) d_Vt_end_5 ⟨by decide, by decide⟩) hS (fun q _ h => hFc q h) hFc (fun r_ u t H locs ht hvm hw hB hz1 hk1 hS => ?_)
  rw [hw]
  obtain ⟨hP, -, hD⟩ := hB
  rw [ht] at hP
  have hD := lx_dj hD hFc
  rw [hQ]
  have e1 : r_1 = r := congrArg Prod.fst (Option.some.inj h)
  have e2 : S_1 = S' := congrArg Prod.snd (Option.some.inj h)
  have hP := ly_newP e2.symm hP
  have hD := ly_newD e2.symm hD
  exact W.iret (v := r_1) hx hb hr (fun t ht hW => ⟨⟨r_1, (), rfl, e1, by rw [ht]; exact hP, va_K.moved hW.alike hK, hD⟩, hS.F ht⟩) hS.2.2 d_Vt_end_8
set_option maxHeartbeats 4000000 in
set_option maxRecDepth 100000 in
theorem l_Vt_clear (l : Launch) (dC : Nat → ClassId) (dI : Nat → Nat → Nat) {K : Nat} {M : CA} {E : (Nat → Prop) → State → Prop} (X : ly_X l dC dI K M E) (sz : Nat) {Y : CT} {G : CG} {S S' : CS} (h : f_Vt_clear K G S = some S') : Met l y_Vt_clear (.code y_Vt_clear cb_Vt_clear 1 none :: V_Vq) ({ frames := 1, cells := 0, slots := 0, locals := 21 }) (va_Pc [.ref M.o_Vt] (fun U => U.heap.size = sz ∧ at_ (dC, dI) (fun _ => True) (wV M Y G S) (tV M) U ∧ E (va_A (wV M Y G S) sz) U)) (va_Qv (fun (u : Unit) => True) (fun (u : Unit) t => at_ (dC, dI) (va_A (wV M Y G S) sz) (wV M Y G S') (tV M) t) (va_A (wV M Y G S) sz)) 0 0 (va_A (wV M Y G S) sz) := by
  refine Met.ofW (cc := cb_Vt_clear) (maxL := 1) (ret := none) (by decide) rfl ?_
  intro p e s m args below meth c s₁ B hml hv
  obtain ⟨rfl, hsz, ⟨hP, hK, hD0⟩, hE⟩ := hv
  have hx := B.exec
  have hb := B.bytes
  have hr := B.returns
  have hts0 := atoms_spec (ws := .code y_Vt_clear cb_Vt_clear 1 none :: V_Vq) B.pre
  have hts : ∀ w ∈ V_Vq, w.before ([.ref M.o_Vt] : List Value).toArray s = true := fun w h => hts0 w (List.mem_cons_of_mem _ h)
  have hown : s.vm.findClass R_Vt = some m.cls := findClass_of_methodNamed B.named
  subst hsz
  have hD := hD0.self (sz := s.heap.size)
  generalize hAe : va_A (wV M Y G S) s.heap.size = A at hD hE ⊢
  have hA : ∀ q : Nat, s.heap.size ≤ q → A q := fun q h => by rw [← hAe]; exact Or.inr h
  have hS : va_S A s.heap s.heap [] := va_S.rf
  have hP : va_P (dC, dI) classes (wV M Y G S) s.heap := hP
  have hK : va_K (dC, dI) classes (tV M) s := hK
  have hEw : ∀ (H : Heap) (locs : List Loc), va_S A s.heap H locs → ∀ U : State, U.heap = H → s.WarmedH U.vm → E A U := fun H locs hS U hU hW => X.kept A s U H locs hE hS hU hW
  have hl := lv_entry ([.ref M.o_Vt]) (n := 1) (Nat.le_of_ble_eq_true rfl)
  rw [lg_entry_eq]
  generalize (lg_sl ([.ref M.o_Vt]) ++ List.replicate (1 - (lg_sl ([.ref M.o_Vt])).length) Slot.unset).toArray = ls at hl ⊢
  have hl : lv_has ls 1 [(0, .ref M.o_Vt)] := hl
  refine qabs (fun Q hQ => ?_)
  rw [f_Vt_clear] at h
  refine lv_aload_n hx hb d_Vt_clear_0 rfl (lv_at hl 0 rfl) ?_
  refine va_get (D := (dC, dI)) (ci := 11) (v := .ref M.o_Tp) (C := R_Vt) (T := F_Vt) (N := 16) hx hb hts (fun w h => u_Vq_Vt w (i_Vt w h)) hown hK hP 0 rfl rfl 1 (by decide) (hts _ (u_Vq_Vt _ k_Vt_30)) (fun _ h9 => h9) rfl d_Vt_clear_1 ?_
  obtain ⟨r_1, S_1, hc_1, h⟩ := lf_cE h
  have hFc := lx_free hD hS hA
  refine va_calli (va_runV (As := []) (rest := []) ⟨hx, hb, hml, hown, hts⟩ (l_Tp_useUp l dC dI X _ hc_1) (cwV 0 hts (gwV good_Vq (u_Vq_Vt _ k_Vt_56) (u_Vq_Tp _ k_Tp_16) (u_Vq_Tp _ k_Tp_17) (u_Vq_Tp _ k_Tp_0) (wcs (u_Vq_Tp _ k_Tp_18) (fun _ h => h))) rfl rfl rfl (by decide +kernel) ⟨Nat.le_of_ble_eq_true rfl, Nat.le_of_ble_eq_true rfl⟩) (pv_ofE (X.same _) (fun U z1 z2 => X.mono _ _ U hFc (hEw _ _ hS U z1 z2)) hP hK hD (va_recv hK hP (ci := 3) (q0 := 2) rfl rfl)) rfl rfl hl.1 rfl (lv_room (Nat.le_of_ble_eq_true rfl)) d_Vt_clear_4 ⟨by decide, by decide⟩) hS (fun q _ h => hFc q h) hFc (fun r_ u t H locs ht hvm hw hB hz1 hk1 hS => ?_)
  rw [hw]
  obtain ⟨hP, -, hD⟩ := hB
  rw [ht] at hP
  have hD := lx_dj hD hFc
  refine lv_pop hx hb d_Vt_clear_7 rfl ?_
  rw [hQ]
  have e2 : S_1 = S' := Option.some.inj h
  have hP := ly_newP e2.symm hP
  have hD := ly_newD e2.symm hD
  exact W.vret hx hb hr (fun t ht hW => ⟨⟨(), rfl, trivial, by rw [ht]; exact hP, va_K.moved hW.alike hK, hD⟩, hS.F ht⟩) hS.2.2 d_Vt_clear_8
set_option maxHeartbeats 4000000 in
set_option maxRecDepth 100000 in
theorem l_Vt_changed (l : Launch) (dC : Nat → ClassId) (dI : Nat → Nat → Nat) {K : Nat} {M : CA} {E : (Nat → Prop) → State → Prop} (X : ly_X l dC dI K M E) (sz : Nat) {Y : CT} {G : CG} {S S' : CS} (h : f_Vt_changed K G S = some S') : Met l y_Vt_changed (.code y_Vt_changed cb_Vt_changed 1 none :: V_Vq) ({ frames := 0, cells := 0, slots := 0, locals := 0 }) (va_Pc [.ref M.o_Vt] (fun U => U.heap.size = sz ∧ at_ (dC, dI) (fun _ => True) (wV M Y G S) (tV M) U ∧ E (va_A (wV M Y G S) sz) U)) (va_Qv (fun (u : Unit) => True) (fun (u : Unit) t => at_ (dC, dI) (va_A (wV M Y G S) sz) (wV M Y G S') (tV M) t) (va_A (wV M Y G S) sz)) 0 0 (va_A (wV M Y G S) sz) := by
  refine Met.ofW (cc := cb_Vt_changed) (maxL := 1) (ret := none) (by decide) rfl ?_
  intro p e s m args below meth c s₁ B hml hv
  obtain ⟨rfl, hsz, ⟨hP, hK, hD0⟩, hE⟩ := hv
  have hx := B.exec
  have hb := B.bytes
  have hr := B.returns
  have hts0 := atoms_spec (ws := .code y_Vt_changed cb_Vt_changed 1 none :: V_Vq) B.pre
  have hts : ∀ w ∈ V_Vq, w.before ([.ref M.o_Vt] : List Value).toArray s = true := fun w h => hts0 w (List.mem_cons_of_mem _ h)
  have hown : s.vm.findClass R_Vt = some m.cls := findClass_of_methodNamed B.named
  subst hsz
  have hD := hD0.self (sz := s.heap.size)
  generalize hAe : va_A (wV M Y G S) s.heap.size = A at hD hE ⊢
  have hA : ∀ q : Nat, s.heap.size ≤ q → A q := fun q h => by rw [← hAe]; exact Or.inr h
  have hS : va_S A s.heap s.heap [] := va_S.rf
  have hP : va_P (dC, dI) classes (wV M Y G S) s.heap := hP
  have hK : va_K (dC, dI) classes (tV M) s := hK
  have hEw : ∀ (H : Heap) (locs : List Loc), va_S A s.heap H locs → ∀ U : State, U.heap = H → s.WarmedH U.vm → E A U := fun H locs hS U hU hW => X.kept A s U H locs hE hS hU hW
  have hl := lv_entry ([.ref M.o_Vt]) (n := 1) (Nat.le_of_ble_eq_true rfl)
  rw [lg_entry_eq]
  generalize (lg_sl ([.ref M.o_Vt]) ++ List.replicate (1 - (lg_sl ([.ref M.o_Vt])).length) Slot.unset).toArray = ls at hl ⊢
  have hl : lv_has ls 1 [(0, .ref M.o_Vt)] := hl
  refine qabs (fun Q hQ => ?_)
  rw [f_Vt_changed] at h
  refine lv_aload_n hx hb d_Vt_changed_0 rfl (lv_at hl 0 rfl) ?_
  refine lv_iconst (v := 1) hx hb d_Vt_changed_1 (by decide) ?_
  refine va_put (D := (dC, dI)) (ci := 11) (v := .int 1) (ty := .boolean) (C := R_Vt) (T := F_Vt) (N := 16) hx hb hts (fun w h => u_Vq_Vt w (i_Vt w h)) t_Vt t_Vt_ok n_Vt hown hK hP hD hS 0 rfl rfl 13 (by decide) (hts _ (u_Vq_Vt _ k_Vt_42)) (fun _ h9 => h9) rfl (by decide +kernel) rfl rfl (Nat.le_of_ble_eq_true rfl) d_Vt_changed_2 (fun H locs hP hD hS => ?_)
  obtain ⟨S_1, eS_1, h⟩ := lf_lX h
  have hP := ly_newP eS_1 hP
  have hD := ly_newD eS_1 hD
  rw [hQ]
  have e2 : S_1 = S' := Option.some.inj h
  have hP := ly_newP e2.symm hP
  have hD := ly_newD e2.symm hD
  exact W.vret hx hb hr (fun t ht hW => ⟨⟨(), rfl, trivial, by rw [ht]; exact hP, va_K.moved hW.alike hK, hD⟩, hS.F ht⟩) hS.2.2 d_Vt_changed_5
set_option maxHeartbeats 4000000 in
set_option maxRecDepth 100000 in
theorem l_Vt_poke (l : Launch) (dC : Nat → ClassId) (dI : Nat → Nat → Nat) {K : Nat} {M : CA} {E : (Nat → Prop) → State → Prop} (X : ly_X l dC dI K M E) (sz : Nat) {Y : CT} {G : CG} {S S' : CS} {p0 : Int32} {p1 : Int32} {p2 : Int32} {r : Int32} (h : f_Vt_poke K G S p0 p1 p2 = some (r, S')) : Met l y_Vt_poke (.code y_Vt_poke cb_Vt_poke 4 (some .boolean) :: V_Vq) ({ frames := 1, cells := 0, slots := 0, locals := 22 }) (va_Pc [.ref M.o_Vt, .int p0, .int p1, .int p2] (fun U => U.heap.size = sz ∧ at_ (dC, dI) (fun _ => True) (wV M Y G S) (tV M) U ∧ E (va_A (wV M Y G S) sz) U)) (va_Qi (fun (r_ : Int32) (u : Unit) => r_ = r) (fun (u : Unit) t => at_ (dC, dI) (va_A (wV M Y G S) sz) (wV M Y G S') (tV M) t) (va_A (wV M Y G S) sz)) 0 0 (va_A (wV M Y G S) sz) := by
  refine Met.ofW (cc := cb_Vt_poke) (maxL := 4) (ret := (some .boolean)) (by decide) rfl ?_
  intro p e s m args below meth c s₁ B hml hv
  obtain ⟨rfl, hsz, ⟨hP, hK, hD0⟩, hE⟩ := hv
  have hx := B.exec
  have hb := B.bytes
  have hr := B.returns
  have hts0 := atoms_spec (ws := .code y_Vt_poke cb_Vt_poke 4 (some .boolean) :: V_Vq) B.pre
  have hts : ∀ w ∈ V_Vq, w.before ([.ref M.o_Vt, .int p0, .int p1, .int p2] : List Value).toArray s = true := fun w h => hts0 w (List.mem_cons_of_mem _ h)
  have hown : s.vm.findClass R_Vt = some m.cls := findClass_of_methodNamed B.named
  subst hsz
  have hD := hD0.self (sz := s.heap.size)
  generalize hAe : va_A (wV M Y G S) s.heap.size = A at hD hE ⊢
  have hA : ∀ q : Nat, s.heap.size ≤ q → A q := fun q h => by rw [← hAe]; exact Or.inr h
  have hS : va_S A s.heap s.heap [] := va_S.rf
  have hP : va_P (dC, dI) classes (wV M Y G S) s.heap := hP
  have hK : va_K (dC, dI) classes (tV M) s := hK
  have hEw : ∀ (H : Heap) (locs : List Loc), va_S A s.heap H locs → ∀ U : State, U.heap = H → s.WarmedH U.vm → E A U := fun H locs hS U hU hW => X.kept A s U H locs hE hS hU hW
  have hl := lv_entry ([.ref M.o_Vt, .int p0, .int p1, .int p2]) (n := 4) (Nat.le_of_ble_eq_true rfl)
  rw [lg_entry_eq]
  generalize (lg_sl ([.ref M.o_Vt, .int p0, .int p1, .int p2]) ++ List.replicate (4 - (lg_sl ([.ref M.o_Vt, .int p0, .int p1, .int p2])).length) Slot.unset).toArray = ls at hl ⊢
  have hl : lv_has ls 4 [(0, .ref M.o_Vt), (1, .int p0), (2, .int p1), (3, .int p2)] := hl
  refine qabs (fun Q hQ => ?_)
  have hB_30 : ∀ (S : CS) (H : Heap) (locs : List Loc) (ls : Array Slot), f_Vt_poke_30 K G S = some (r, S') → va_P (dC, dI) classes (wV M Y G S) H → va_D A (wV M Y G S) → va_S A s.heap H locs → lv_has ls 4 [] → W p l e ({ frames := 1, cells := 0, slots := 0, locals := 22 }) s m ([.ref M.o_Vt, .int p0, .int p1, .int p2] : List Value).toArray below meth c H locs 0 0 Q (F0 m 30 ls []) := by
    intro S H locs ls h hP hD hS hl
    rw [f_Vt_poke_30] at h
    refine lv_iconst (v := 0) hx hb d_Vt_poke_30 (by decide) ?_
    rw [hQ]
    have e1 : (0 : Int32) = r := congrArg Prod.fst (Option.some.inj h)
    have e2 : S = S' := congrArg Prod.snd (Option.some.inj h)
    have hP := ly_newP e2.symm hP
    have hD := ly_newD e2.symm hD
    exact W.zret (v := 0) hx hb hr rfl (fun t ht hW => ⟨⟨0, (), rfl, e1, by rw [ht]; exact hP, va_K.moved hW.alike hK, hD⟩, hS.F ht⟩) hS.2.2 d_Vt_poke_31
  rw [f_Vt_poke] at h
  refine lv_aload_n hx hb d_Vt_poke_0 rfl (lv_at hl 0 rfl) ?_
  refine va_get (D := (dC, dI)) (ci := 11) (v := .int S.v_Vt_hasRun) (C := R_Vt) (T := F_Vt) (N := 16) hx hb hts (fun w h => u_Vq_Vt w (i_Vt w h)) hown hK hP 0 rfl rfl 15 (by decide) (hts _ (u_Vq_Vt _ k_Vt_44)) (fun _ h9 => h9) rfl d_Vt_poke_1 ?_
  refine lv_if_ne (tgt := 30) hx hb d_Vt_poke_4 (by decide) (fun c_1 => ?_) (fun c_1 => ?_)
  · have h := lf_f h c_1
    exact hB_30 S _ _ _ h hP hD hS (lv_sub hl [] rfl)
  · have h := lf_t h c_1
    refine lv_aload_n hx hb d_Vt_poke_7 rfl (lv_at hl 0 rfl) ?_
    refine va_get (D := (dC, dI)) (ci := 11) (v := .ref M.o_Dk) (C := R_Vt) (T := F_Vt) (N := 16) hx hb hts (fun w h => u_Vq_Vt w (i_Vt w h)) hown hK hP 0 rfl rfl 0 (by decide) (hts _ (u_Vq_Vt _ k_Vt_29)) (fun _ h9 => h9) rfl d_Vt_poke_8 ?_
    refine lv_iload_n hx hb d_Vt_poke_11 rfl (lv_at hl 1 rfl) ?_
    refine lv_iload_n hx hb d_Vt_poke_12 rfl (lv_at hl 2 rfl) ?_
    obtain ⟨r_2, S_2, hc_2, h⟩ := lf_cE h
    have hFc := lx_free hD hS hA
    refine va_calli (va_runV (As := [.int p0, .int p1]) (rest := []) ⟨hx, hb, hml, hown, hts⟩ (l_Dk_has l dC dI X _ hc_2) (cwV 2 hts (gwV good_Vq (u_Vq_Vt _ k_Vt_60) (u_Vq_Dk _ k_Dk_8) (u_Vq_Dk _ k_Dk_9) (u_Vq_Dk _ k_Dk_0) (wcs (u_Vq_Dk _ k_Dk_10) (fun _ h => h))) rfl rfl rfl (by decide +kernel) ⟨Nat.le_of_ble_eq_true rfl, Nat.le_of_ble_eq_true rfl⟩) (pv_ofE (X.same _) (fun U z1 z2 => X.mono _ _ U hFc (hEw _ _ hS U z1 z2)) hP hK hD (va_recv hK hP (ci := 0) (q0 := 1) rfl rfl)) rfl rfl hl.1 rfl (lv_room (Nat.le_of_ble_eq_true rfl)) d_Vt_poke_13 ⟨by decide, by decide⟩) hS (fun q _ h => hFc q h) hFc (fun r_ u t H locs ht hvm hw hB hz1 hk1 hS => ?_)
    rw [hw]
    obtain ⟨hP, -, hD⟩ := hB
    rw [ht] at hP
    have hD := lx_dj hD hFc
    refine lv_if_eq (tgt := 30) hx hb d_Vt_poke_16 (by decide) (fun c_3 => ?_) (fun c_3 => ?_)
    · have h := lf_t h c_3
      exact hB_30 S_2 _ _ _ h hP hD hS (lv_sub hl [] rfl)
    · have h := lf_f h c_3
      refine lv_iload_n hx hb d_Vt_poke_19 rfl (lv_at hl 1 rfl) ?_
      refine lv_iconst (v := 2) hx hb d_Vt_poke_20 (by decide) ?_
      refine lv_icmp_eq (tgt := 30) hx hb d_Vt_poke_21 (by decide) (fun c_4 => ?_) (fun c_4 => ?_)
      · have h := lf_t h c_4
        exact hB_30 S_2 _ _ _ h hP hD hS (lv_sub hl [] rfl)
      · have h := lf_f h c_4
        refine lv_iload_n hx hb d_Vt_poke_24 rfl (lv_at hl 1 rfl) ?_
        refine lv_bipush (v := 7) hx hb d_Vt_poke_25 (by decide) ?_
        refine lv_icmp_ne (tgt := 32) hx hb d_Vt_poke_27 (by decide) (fun c_5 => ?_) (fun c_5 => ?_)
        · have h := lf_f h c_5
          refine lv_aload_n hx hb d_Vt_poke_32 rfl (lv_at hl 0 rfl) ?_
          refine va_get (D := (dC, dI)) (ci := 11) (v := .ref M.o_Dk) (C := R_Vt) (T := F_Vt) (N := 16) hx hb hts (fun w h => u_Vq_Vt w (i_Vt w h)) hown hK hP 0 rfl rfl 0 (by decide) (hts _ (u_Vq_Vt _ k_Vt_29)) (fun _ h9 => h9) rfl d_Vt_poke_33 ?_
          refine lv_iload_n hx hb d_Vt_poke_36 rfl (lv_at hl 1 rfl) ?_
          refine lv_sipush (v := 512) hx hb d_Vt_poke_37 (by decide) ?_
          refine lv_imul hx hb d_Vt_poke_40 ?_
          refine lv_iload_n hx hb d_Vt_poke_41 rfl (lv_at hl 2 rfl) ?_
          refine lv_iadd hx hb d_Vt_poke_42 ?_
          refine lv_iload_n hx hb d_Vt_poke_43 rfl (lv_at hl 3 rfl) ?_
          obtain ⟨S_6, hc_6, h⟩ := lf_bE h
          have hFc := lx_free hD hS hA
          refine va_callv (va_runV (As := [.int ((p0 * 512) + p1), .int p2]) (rest := []) ⟨hx, hb, hml, hown, hts⟩ (l_Dk_putOne l dC dI X _ hc_6) (cwV 2 hts (gwV good_Vq (u_Vq_Vt _ k_Vt_61) (u_Vq_Dk _ k_Dk_11) (u_Vq_Dk _ k_Dk_12) (u_Vq_Dk _ k_Dk_0) (wcs (u_Vq_Dk _ k_Dk_13) (fun _ h => h))) rfl rfl rfl (by decide +kernel) ⟨Nat.le_of_ble_eq_true rfl, Nat.le_of_ble_eq_true rfl⟩) (pv_ofE (X.same _) (fun U z1 z2 => X.mono _ _ U hFc (hEw _ _ hS U z1 z2)) hP hK hD (va_recv hK hP (ci := 0) (q0 := 1) rfl rfl)) rfl rfl hl.1 rfl (lv_room (Nat.le_of_ble_eq_true rfl)) d_Vt_poke_44 ⟨by decide, by decide⟩) hS (fun q _ h => hFc q h) hFc (fun u t H locs ht hvm hw hB hz1 hk1 hS => ?_)
          obtain ⟨hP, -, hD⟩ := hB
          rw [ht] at hP
          have hD := lx_dj hD hFc
          refine lv_aload_n hx hb d_Vt_poke_47 rfl (lv_at hl 0 rfl) ?_
          obtain ⟨S_7, hc_7, h⟩ := lf_bE h
          have hFc := lx_free hD hS hA
          refine va_callv (va_runV (As := []) (rest := []) ⟨hx, hb, hml, hown, hts⟩ (l_Vt_changed l dC dI X _ hc_7) (cwV 0 hts (gwV good_Vq (u_Vq_Vt _ k_Vt_62) (u_Vq_Vt _ k_Vt_63) (u_Vq_Vt _ k_Vt_213) (u_Vq_Vt _ k_Vt_0) (wcs (u_Vq_Vt _ k_Vt_64) (fun _ h => h))) rfl rfl rfl (by decide +kernel) ⟨Nat.le_of_ble_eq_true rfl, Nat.le_of_ble_eq_true rfl⟩) (pv_ofE (X.same _) (fun U z1 z2 => X.mono _ _ U hFc (hEw _ _ hS U z1 z2)) hP hK hD (va_recv hK hP (ci := 11) (q0 := 0) rfl rfl)) rfl rfl hl.1 rfl (lv_room (Nat.le_of_ble_eq_true rfl)) d_Vt_poke_48 ⟨by decide, by decide⟩) hS (fun q _ h => hFc q h) hFc (fun u t H locs ht hvm hw hB hz1 hk1 hS => ?_)
          obtain ⟨hP, -, hD⟩ := hB
          rw [ht] at hP
          have hD := lx_dj hD hFc
          refine lv_aload_n hx hb d_Vt_poke_51 rfl (lv_at hl 0 rfl) ?_
          refine lv_iconst (v := 0) hx hb d_Vt_poke_52 (by decide) ?_
          refine va_put (D := (dC, dI)) (ci := 11) (v := .int 0) (ty := .int) (C := R_Vt) (T := F_Vt) (N := 16) hx hb hts (fun w h => u_Vq_Vt w (i_Vt w h)) t_Vt t_Vt_ok n_Vt hown hK hP hD hS 0 rfl rfl 12 (by decide) (hts _ (u_Vq_Vt _ k_Vt_41)) (fun _ h9 => h9) rfl (by decide +kernel) rfl rfl (Nat.le_of_ble_eq_true rfl) d_Vt_poke_53 (fun H locs hP hD hS => ?_)
          obtain ⟨S_8, eS_8, h⟩ := lf_lX h
          have hP := ly_newP eS_8 hP
          have hD := ly_newD eS_8 hD
          refine lv_iconst (v := 1) hx hb d_Vt_poke_56 (by decide) ?_
          rw [hQ]
          have e1 : (1 : Int32) = r := congrArg Prod.fst (Option.some.inj h)
          have e2 : S_8 = S' := congrArg Prod.snd (Option.some.inj h)
          have hP := ly_newP e2.symm hP
          have hD := ly_newD e2.symm hD
          exact W.zret (v := 1) hx hb hr rfl (fun t ht hW => ⟨⟨1, (), rfl, e1, by rw [ht]; exact hP, va_K.moved hW.alike hK, hD⟩, hS.F ht⟩) hS.2.2 d_Vt_poke_57
        · have h := lf_t h c_5
          exact hB_30 S_2 _ _ _ h hP hD hS (lv_sub hl [] rfl)
set_option maxHeartbeats 4000000 in
set_option maxRecDepth 100000 in
theorem l_Vt_fail (l : Launch) (dC : Nat → ClassId) (dI : Nat → Nat → Nat) {K : Nat} {M : CA} {E : (Nat → Prop) → State → Prop} (X : ly_X l dC dI K M E) (sz : Nat) {Y : CT} {G : CG} {S S' : CS} {p0 : Int32} {p1 : Int32} {r : Int32} (h : f_Vt_fail K G S p0 p1 = some (r, S')) : Met l y_Vt_fail (.code y_Vt_fail cb_Vt_fail 3 (some .boolean) :: V_Vq) ({ frames := 0, cells := 0, slots := 0, locals := 0 }) (va_Pc [.ref M.o_Vt, .int p0, .int p1] (fun U => U.heap.size = sz ∧ at_ (dC, dI) (fun _ => True) (wV M Y G S) (tV M) U ∧ E (va_A (wV M Y G S) sz) U)) (va_Qi (fun (r_ : Int32) (u : Unit) => r_ = r) (fun (u : Unit) t => at_ (dC, dI) (va_A (wV M Y G S) sz) (wV M Y G S') (tV M) t) (va_A (wV M Y G S) sz)) 0 0 (va_A (wV M Y G S) sz) := by
  refine Met.ofW (cc := cb_Vt_fail) (maxL := 3) (ret := (some .boolean)) (by decide) rfl ?_
  intro p e s m args below meth c s₁ B hml hv
  obtain ⟨rfl, hsz, ⟨hP, hK, hD0⟩, hE⟩ := hv
  have hx := B.exec
  have hb := B.bytes
  have hr := B.returns
  have hts0 := atoms_spec (ws := .code y_Vt_fail cb_Vt_fail 3 (some .boolean) :: V_Vq) B.pre
  have hts : ∀ w ∈ V_Vq, w.before ([.ref M.o_Vt, .int p0, .int p1] : List Value).toArray s = true := fun w h => hts0 w (List.mem_cons_of_mem _ h)
  have hown : s.vm.findClass R_Vt = some m.cls := findClass_of_methodNamed B.named
  subst hsz
  have hD := hD0.self (sz := s.heap.size)
  generalize hAe : va_A (wV M Y G S) s.heap.size = A at hD hE ⊢
  have hA : ∀ q : Nat, s.heap.size ≤ q → A q := fun q h => by rw [← hAe]; exact Or.inr h
  have hS : va_S A s.heap s.heap [] := va_S.rf
  have hP : va_P (dC, dI) classes (wV M Y G S) s.heap := hP
  have hK : va_K (dC, dI) classes (tV M) s := hK
  have hEw : ∀ (H : Heap) (locs : List Loc), va_S A s.heap H locs → ∀ U : State, U.heap = H → s.WarmedH U.vm → E A U := fun H locs hS U hU hW => X.kept A s U H locs hE hS hU hW
  have hl := lv_entry ([.ref M.o_Vt, .int p0, .int p1]) (n := 3) (Nat.le_of_ble_eq_true rfl)
  rw [lg_entry_eq]
  generalize (lg_sl ([.ref M.o_Vt, .int p0, .int p1]) ++ List.replicate (3 - (lg_sl ([.ref M.o_Vt, .int p0, .int p1])).length) Slot.unset).toArray = ls at hl ⊢
  have hl : lv_has ls 3 [(0, .ref M.o_Vt), (1, .int p0), (2, .int p1)] := hl
  refine qabs (fun Q hQ => ?_)
  have hB_22 : ∀ (S : CS) (H : Heap) (locs : List Loc) (ls : Array Slot), f_Vt_fail_22 K G S = some (r, S') → va_P (dC, dI) classes (wV M Y G S) H → va_D A (wV M Y G S) → va_S A s.heap H locs → lv_has ls 3 [] → W p l e ({ frames := 0, cells := 0, slots := 0, locals := 0 }) s m ([.ref M.o_Vt, .int p0, .int p1] : List Value).toArray below meth c H locs 0 0 Q (F0 m 22 ls []) := by
    intro S H locs ls h hP hD hS hl
    rw [f_Vt_fail_22] at h
    refine lv_iconst (v := 0) hx hb d_Vt_fail_22 (by decide) ?_
    rw [hQ]
    have e1 : (0 : Int32) = r := congrArg Prod.fst (Option.some.inj h)
    have e2 : S = S' := congrArg Prod.snd (Option.some.inj h)
    have hP := ly_newP e2.symm hP
    have hD := ly_newD e2.symm hD
    exact W.zret (v := 0) hx hb hr rfl (fun t ht hW => ⟨⟨0, (), rfl, e1, by rw [ht]; exact hP, va_K.moved hW.alike hK, hD⟩, hS.F ht⟩) hS.2.2 d_Vt_fail_23
  have hB_9 : ∀ (y_1 : Int32) (y_2 : Int32) (S : CS) (H : Heap) (locs : List Loc) (ls : Array Slot), f_Vt_fail_9 K G y_1 y_2 S = some (r, S') → va_P (dC, dI) classes (wV M Y G S) H → va_D A (wV M Y G S) → va_S A s.heap H locs → lv_has ls 3 [(0, .ref M.o_Vt), (1, .int y_1), (2, .int y_2)] → W p l e ({ frames := 0, cells := 0, slots := 0, locals := 0 }) s m ([.ref M.o_Vt, .int p0, .int p1] : List Value).toArray below meth c H locs 0 0 Q (F0 m 9 ls []) := by
    intro y_1 y_2 S H locs ls h hP hD hS hl
    rw [f_Vt_fail_9] at h
    refine lv_iload_n hx hb d_Vt_fail_9 rfl (lv_at hl 2 rfl) ?_
    refine lv_if_lt (tgt := 22) hx hb d_Vt_fail_10 (by decide) (fun c_3 => ?_) (fun c_3 => ?_)
    · have h := lf_t h c_3
      exact hB_22 S _ _ _ h hP hD hS (lv_sub hl [] rfl)
    · have h := lf_f h c_3
      refine lv_aload_n hx hb d_Vt_fail_13 rfl (lv_at hl 0 rfl) ?_
      refine va_get (D := (dC, dI)) (ci := 11) (v := .int S.v_Vt_fails) (C := R_Vt) (T := F_Vt) (N := 16) hx hb hts (fun w h => u_Vq_Vt w (i_Vt w h)) hown hK hP 0 rfl rfl 11 (by decide) (hts _ (u_Vq_Vt _ k_Vt_40)) (fun _ h9 => h9) rfl d_Vt_fail_14 ?_
      refine lv_bipush (v := 16) hx hb d_Vt_fail_17 (by decide) ?_
      refine lv_icmp_lt (tgt := 24) hx hb d_Vt_fail_19 (by decide) (fun c_4 => ?_) (fun c_4 => ?_)
      · have h := lf_t h c_4
        refine lv_aload_n hx hb d_Vt_fail_24 rfl (lv_at hl 0 rfl) ?_
        refine va_get (D := (dC, dI)) (ci := 11) (v := .ref M.a_Vt_failAsks) (C := R_Vt) (T := F_Vt) (N := 16) hx hb hts (fun w h => u_Vq_Vt w (i_Vt w h)) hown hK hP 0 rfl rfl 9 (by decide) (hts _ (u_Vq_Vt _ k_Vt_38)) (fun _ h9 => h9) rfl d_Vt_fail_25 ?_
        refine lv_aload_n hx hb d_Vt_fail_28 rfl (lv_at hl 0 rfl) ?_
        refine va_get (D := (dC, dI)) (ci := 11) (v := .int S.v_Vt_fails) (C := R_Vt) (T := F_Vt) (N := 16) hx hb hts (fun w h => u_Vq_Vt w (i_Vt w h)) hown hK hP 0 rfl rfl 11 (by decide) (hts _ (u_Vq_Vt _ k_Vt_40)) (fun _ h9 => h9) rfl d_Vt_fail_29 ?_
        refine lv_iload_n hx hb d_Vt_fail_32 rfl (lv_at hl 1 rfl) ?_
        obtain ⟨g_5, h⟩ := lf_gE h
        refine va_iast hx hb hK hP hD hS 10 2 rfl rfl g_5 d_Vt_fail_33 (fun H locs hP hD hS => ?_)
        obtain ⟨S_6, eS_6, h⟩ := lf_lX h
        have hP := ly_newP eS_6 hP
        have hD := ly_newD eS_6 hD
        refine lv_aload_n hx hb d_Vt_fail_34 rfl (lv_at hl 0 rfl) ?_
        refine va_get (D := (dC, dI)) (ci := 11) (v := .ref M.a_Vt_failWrites) (C := R_Vt) (T := F_Vt) (N := 16) hx hb hts (fun w h => u_Vq_Vt w (i_Vt w h)) hown hK hP 0 rfl rfl 10 (by decide) (hts _ (u_Vq_Vt _ k_Vt_39)) (fun _ h9 => h9) rfl d_Vt_fail_35 ?_
        refine lv_aload_n hx hb d_Vt_fail_38 rfl (lv_at hl 0 rfl) ?_
        refine va_get (D := (dC, dI)) (ci := 11) (v := .int S_6.v_Vt_fails) (C := R_Vt) (T := F_Vt) (N := 16) hx hb hts (fun w h => u_Vq_Vt w (i_Vt w h)) hown hK hP 0 rfl rfl 11 (by decide) (hts _ (u_Vq_Vt _ k_Vt_40)) (fun _ h9 => h9) rfl d_Vt_fail_39 ?_
        refine lv_iload_n hx hb d_Vt_fail_42 rfl (lv_at hl 2 rfl) ?_
        obtain ⟨g_7, h⟩ := lf_gE h
        refine va_iast hx hb hK hP hD hS 11 2 rfl rfl g_7 d_Vt_fail_43 (fun H locs hP hD hS => ?_)
        obtain ⟨S_8, eS_8, h⟩ := lf_lX h
        have hP := ly_newP eS_8 hP
        have hD := ly_newD eS_8 hD
        refine lv_aload_n hx hb d_Vt_fail_44 rfl (lv_at hl 0 rfl) ?_
        refine lv_dup hx hb d_Vt_fail_45 rfl ?_
        refine va_get (D := (dC, dI)) (ci := 11) (v := .int S_8.v_Vt_fails) (C := R_Vt) (T := F_Vt) (N := 16) hx hb hts (fun w h => u_Vq_Vt w (i_Vt w h)) hown hK hP 0 rfl rfl 11 (by decide) (hts _ (u_Vq_Vt _ k_Vt_40)) (fun _ h9 => h9) rfl d_Vt_fail_46 ?_
        refine lv_iconst (v := 1) hx hb d_Vt_fail_49 (by decide) ?_
        refine lv_iadd hx hb d_Vt_fail_50 ?_
        refine va_put (D := (dC, dI)) (ci := 11) (v := .int (S_8.v_Vt_fails + 1)) (ty := .int) (C := R_Vt) (T := F_Vt) (N := 16) hx hb hts (fun w h => u_Vq_Vt w (i_Vt w h)) t_Vt t_Vt_ok n_Vt hown hK hP hD hS 0 rfl rfl 11 (by decide) (hts _ (u_Vq_Vt _ k_Vt_40)) (fun _ h9 => h9) rfl (by decide +kernel) rfl rfl (Nat.le_of_ble_eq_true rfl) d_Vt_fail_51 (fun H locs hP hD hS => ?_)
        obtain ⟨S_9, eS_9, h⟩ := lf_lX h
        have hP := ly_newP eS_9 hP
        have hD := ly_newD eS_9 hD
        refine lv_iconst (v := 1) hx hb d_Vt_fail_54 (by decide) ?_
        rw [hQ]
        have e1 : (1 : Int32) = r := congrArg Prod.fst (Option.some.inj h)
        have e2 : S_9 = S' := congrArg Prod.snd (Option.some.inj h)
        have hP := ly_newP e2.symm hP
        have hD := ly_newD e2.symm hD
        exact W.zret (v := 1) hx hb hr rfl (fun t ht hW => ⟨⟨1, (), rfl, e1, by rw [ht]; exact hP, va_K.moved hW.alike hK, hD⟩, hS.F ht⟩) hS.2.2 d_Vt_fail_55
      · have h := lf_f h c_4
        exact hB_22 S _ _ _ h hP hD hS (lv_sub hl [] rfl)
  rw [f_Vt_fail] at h
  refine lv_iload_n hx hb d_Vt_fail_0 rfl (lv_at hl 1 rfl) ?_
  refine lv_if_eq (tgt := 9) hx hb d_Vt_fail_1 (by decide) (fun c_1 => ?_) (fun c_1 => ?_)
  · have h := lf_t h c_1
    exact hB_9 p0 p1 S _ _ _ h hP hD hS (lv_sub hl [0, 1, 2] rfl)
  · have h := lf_f h c_1
    refine lv_iload_n hx hb d_Vt_fail_4 rfl (lv_at hl 1 rfl) ?_
    refine lv_iconst (v := 1) hx hb d_Vt_fail_5 (by decide) ?_
    refine lv_icmp_ne (tgt := 22) hx hb d_Vt_fail_6 (by decide) (fun c_2 => ?_) (fun c_2 => ?_)
    · have h := lf_f h c_2
      exact hB_22 S _ _ _ h hP hD hS (lv_sub hl [] rfl)
    · have h := lf_t h c_2
      exact hB_9 p0 p1 S _ _ _ h hP hD hS (lv_sub hl [0, 1, 2] rfl)
set_option maxHeartbeats 4000000 in
set_option maxRecDepth 100000 in
theorem l_Vt_tellItem (l : Launch) (dC : Nat → ClassId) (dI : Nat → Nat → Nat) {K : Nat} {M : CA} {E : (Nat → Prop) → State → Prop} (X : ly_X l dC dI K M E) (sz : Nat) {Y : CT} {G : CG} {S S' : CS} {p0 : Int32} {p1 : Int32} {r : Int64} (h : f_Vt_tellItem K G S p0 p1 = some (r, S')) : Met l y_Vt_tellItem (.code y_Vt_tellItem cb_Vt_tellItem 3 (some .long) :: V_Vq) ({ frames := 2, cells := 0, slots := 0, locals := 49 }) (va_Pc [.ref M.o_Vt, .int p0, .int p1] (fun U => U.heap.size = sz ∧ at_ (dC, dI) (fun _ => True) (wV M Y G S) (tV M) U ∧ E (va_A (wV M Y G S) sz) U)) (va_Ql (fun (r_ : Int64) (u : Unit) => r_ = r) (fun (u : Unit) t => at_ (dC, dI) (va_A (wV M Y G S) sz) (wV M Y G S') (tV M) t) (va_A (wV M Y G S) sz)) 0 0 (va_A (wV M Y G S) sz) := by
  refine Met.ofW (cc := cb_Vt_tellItem) (maxL := 3) (ret := (some .long)) (by decide) rfl ?_
  intro p e s m args below meth c s₁ B hml hv
  obtain ⟨rfl, hsz, ⟨hP, hK, hD0⟩, hE⟩ := hv
  have hx := B.exec
  have hb := B.bytes
  have hr := B.returns
  have hts0 := atoms_spec (ws := .code y_Vt_tellItem cb_Vt_tellItem 3 (some .long) :: V_Vq) B.pre
  have hts : ∀ w ∈ V_Vq, w.before ([.ref M.o_Vt, .int p0, .int p1] : List Value).toArray s = true := fun w h => hts0 w (List.mem_cons_of_mem _ h)
  have hown : s.vm.findClass R_Vt = some m.cls := findClass_of_methodNamed B.named
  subst hsz
  have hD := hD0.self (sz := s.heap.size)
  generalize hAe : va_A (wV M Y G S) s.heap.size = A at hD hE ⊢
  have hA : ∀ q : Nat, s.heap.size ≤ q → A q := fun q h => by rw [← hAe]; exact Or.inr h
  have hS : va_S A s.heap s.heap [] := va_S.rf
  have hP : va_P (dC, dI) classes (wV M Y G S) s.heap := hP
  have hK : va_K (dC, dI) classes (tV M) s := hK
  have hEw : ∀ (H : Heap) (locs : List Loc), va_S A s.heap H locs → ∀ U : State, U.heap = H → s.WarmedH U.vm → E A U := fun H locs hS U hU hW => X.kept A s U H locs hE hS hU hW
  have hl := lv_entry ([.ref M.o_Vt, .int p0, .int p1]) (n := 3) (Nat.le_of_ble_eq_true rfl)
  rw [lg_entry_eq]
  generalize (lg_sl ([.ref M.o_Vt, .int p0, .int p1]) ++ List.replicate (3 - (lg_sl ([.ref M.o_Vt, .int p0, .int p1])).length) Slot.unset).toArray = ls at hl ⊢
  have hl : lv_has ls 3 [(0, .ref M.o_Vt), (1, .int p0), (2, .int p1)] := hl
  refine qabs (fun Q hQ => ?_)
  rw [f_Vt_tellItem] at h
  refine lv_iload_n hx hb d_Vt_tellItem_0 rfl (lv_at hl 2 rfl) ?_
  by_cases c_1 : p1 = 0
  · have h := lf_t h c_1
    refine lv_lookup (off := 35) (tgt := 36) hx hb d_Vt_tellItem_1 (by decide) (by rw [c_1]; (try rfl)) (by decide) ?_
    refine lv_aload_n hx hb d_Vt_tellItem_36 rfl (lv_at hl 0 rfl) ?_
    refine va_get (D := (dC, dI)) (ci := 11) (v := .ref M.o_Tr) (C := R_Vt) (T := F_Vt) (N := 16) hx hb hts (fun w h => u_Vq_Vt w (i_Vt w h)) hown hK hP 0 rfl rfl 3 (by decide) (hts _ (u_Vq_Vt _ k_Vt_32)) (fun _ h9 => h9) rfl d_Vt_tellItem_37 ?_
    refine lv_iload_n hx hb d_Vt_tellItem_40 rfl (lv_at hl 1 rfl) ?_
    obtain ⟨r_2, S_2, hc_2, h⟩ := lf_cE h
    have hFc := lx_free hD hS hA
    refine va_calli (va_runV (As := [.int p0]) (rest := []) ⟨hx, hb, hml, hown, hts⟩ (l_Tr_isDirectory l dC dI X _ hc_2) (cwV 1 hts (gwV good_Vq (u_Vq_Vt _ k_Vt_142) (u_Vq_Tr _ k_Tr_42) (u_Vq_Tr _ k_Tr_43) (u_Vq_Tr _ k_Tr_0) (wcs (u_Vq_Tr _ k_Tr_44) (fun _ h => h))) rfl rfl rfl (by decide +kernel) ⟨Nat.le_of_ble_eq_true rfl, Nat.le_of_ble_eq_true rfl⟩) (pv_ofE (X.same _) (fun U z1 z2 => X.mono _ _ U hFc (hEw _ _ hS U z1 z2)) hP hK hD (va_recv hK hP (ci := 5) (q0 := 4) rfl rfl)) rfl rfl hl.1 rfl (lv_room (Nat.le_of_ble_eq_true rfl)) d_Vt_tellItem_41 ⟨by decide, by decide⟩) hS (fun q _ h => hFc q h) hFc (fun r_ u t H locs ht hvm hw hB hz1 hk1 hS => ?_)
    rw [hw]
    obtain ⟨hP, -, hD⟩ := hB
    rw [ht] at hP
    have hD := lx_dj hD hFc
    refine lv_if_eq (tgt := 51) hx hb d_Vt_tellItem_44 (by decide) (fun c_3 => ?_) (fun c_3 => ?_)
    · have h := lf_t h c_3
      refine lv_lconst (v := 0) hx hb d_Vt_tellItem_51 (by decide) ?_
      rw [hQ]
      have e1 : (0 : Int64) = r := congrArg Prod.fst (Option.some.inj h)
      have e2 : S_2 = S' := congrArg Prod.snd (Option.some.inj h)
      have hP := ly_newP e2.symm hP
      have hD := ly_newD e2.symm hD
      exact W.lret (v := 0) hx hb hr (fun t ht hW => ⟨⟨0, (), rfl, e1, by rw [ht]; exact hP, va_K.moved hW.alike hK, hD⟩, hS.F ht⟩) hS.2.2 d_Vt_tellItem_52
    · have h := lf_f h c_3
      refine lv_lconst (v := 1) hx hb d_Vt_tellItem_47 (by decide) ?_
      refine lv_goto (tgt := 52) hx hb d_Vt_tellItem_48 (by decide) ?_
      rw [hQ]
      have e1 : (1 : Int64) = r := congrArg Prod.fst (Option.some.inj h)
      have e2 : S_2 = S' := congrArg Prod.snd (Option.some.inj h)
      have hP := ly_newP e2.symm hP
      have hD := ly_newD e2.symm hD
      exact W.lret (v := 1) hx hb hr (fun t ht hW => ⟨⟨1, (), rfl, e1, by rw [ht]; exact hP, va_K.moved hW.alike hK, hD⟩, hS.F ht⟩) hS.2.2 d_Vt_tellItem_52
  · have h := lf_f h c_1
    by_cases c_4 : p1 = 1
    · have h := lf_t h c_4
      refine lv_lookup (off := 52) (tgt := 53) hx hb d_Vt_tellItem_1 (by decide) (by rw [c_4]; (try rfl)) (by decide) ?_
      refine lv_aload_n hx hb d_Vt_tellItem_53 rfl (lv_at hl 0 rfl) ?_
      refine va_get (D := (dC, dI)) (ci := 11) (v := .ref M.o_Tr) (C := R_Vt) (T := F_Vt) (N := 16) hx hb hts (fun w h => u_Vq_Vt w (i_Vt w h)) hown hK hP 0 rfl rfl 3 (by decide) (hts _ (u_Vq_Vt _ k_Vt_32)) (fun _ h9 => h9) rfl d_Vt_tellItem_54 ?_
      refine lv_iload_n hx hb d_Vt_tellItem_57 rfl (lv_at hl 1 rfl) ?_
      obtain ⟨r_5, S_5, hc_5, h⟩ := lf_cE h
      have hFc := lx_free hD hS hA
      refine va_calli (va_runV (As := [.int p0]) (rest := []) ⟨hx, hb, hml, hown, hts⟩ (l_Tr_isReadOnly l dC dI X _ hc_5) (cwV 1 hts (gwV good_Vq (u_Vq_Vt _ k_Vt_143) (u_Vq_Tr _ k_Tr_101) (u_Vq_Tr _ k_Tr_102) (u_Vq_Tr _ k_Tr_0) (wcs (u_Vq_Tr _ k_Tr_103) (fun _ h => h))) rfl rfl rfl (by decide +kernel) ⟨Nat.le_of_ble_eq_true rfl, Nat.le_of_ble_eq_true rfl⟩) (pv_ofE (X.same _) (fun U z1 z2 => X.mono _ _ U hFc (hEw _ _ hS U z1 z2)) hP hK hD (va_recv hK hP (ci := 5) (q0 := 4) rfl rfl)) rfl rfl hl.1 rfl (lv_room (Nat.le_of_ble_eq_true rfl)) d_Vt_tellItem_58 ⟨by decide, by decide⟩) hS (fun q _ h => hFc q h) hFc (fun r_ u t H locs ht hvm hw hB hz1 hk1 hS => ?_)
      rw [hw]
      obtain ⟨hP, -, hD⟩ := hB
      rw [ht] at hP
      have hD := lx_dj hD hFc
      refine lv_if_eq (tgt := 68) hx hb d_Vt_tellItem_61 (by decide) (fun c_6 => ?_) (fun c_6 => ?_)
      · have h := lf_t h c_6
        refine lv_lconst (v := 0) hx hb d_Vt_tellItem_68 (by decide) ?_
        rw [hQ]
        have e1 : (0 : Int64) = r := congrArg Prod.fst (Option.some.inj h)
        have e2 : S_5 = S' := congrArg Prod.snd (Option.some.inj h)
        have hP := ly_newP e2.symm hP
        have hD := ly_newD e2.symm hD
        exact W.lret (v := 0) hx hb hr (fun t ht hW => ⟨⟨0, (), rfl, e1, by rw [ht]; exact hP, va_K.moved hW.alike hK, hD⟩, hS.F ht⟩) hS.2.2 d_Vt_tellItem_69
      · have h := lf_f h c_6
        refine lv_lconst (v := 1) hx hb d_Vt_tellItem_64 (by decide) ?_
        refine lv_goto (tgt := 69) hx hb d_Vt_tellItem_65 (by decide) ?_
        rw [hQ]
        have e1 : (1 : Int64) = r := congrArg Prod.fst (Option.some.inj h)
        have e2 : S_5 = S' := congrArg Prod.snd (Option.some.inj h)
        have hP := ly_newP e2.symm hP
        have hD := ly_newD e2.symm hD
        exact W.lret (v := 1) hx hb hr (fun t ht hW => ⟨⟨1, (), rfl, e1, by rw [ht]; exact hP, va_K.moved hW.alike hK, hD⟩, hS.F ht⟩) hS.2.2 d_Vt_tellItem_69
    · have h := lf_f h c_4
      by_cases c_7 : p1 = 5
      · have h := lf_t h c_7
        refine lv_lookup (off := 69) (tgt := 70) hx hb d_Vt_tellItem_1 (by decide) (by rw [c_7]; (try rfl)) (by decide) ?_
        refine lv_aload_n hx hb d_Vt_tellItem_70 rfl (lv_at hl 0 rfl) ?_
        refine va_get (D := (dC, dI)) (ci := 11) (v := .ref M.o_Tr) (C := R_Vt) (T := F_Vt) (N := 16) hx hb hts (fun w h => u_Vq_Vt w (i_Vt w h)) hown hK hP 0 rfl rfl 3 (by decide) (hts _ (u_Vq_Vt _ k_Vt_32)) (fun _ h9 => h9) rfl d_Vt_tellItem_71 ?_
        refine lv_iload_n hx hb d_Vt_tellItem_74 rfl (lv_at hl 1 rfl) ?_
        obtain ⟨r_8, S_8, hc_8, h⟩ := lf_cE h
        have hFc := lx_free hD hS hA
        refine va_calli (va_runV (As := [.int p0]) (rest := []) ⟨hx, hb, hml, hown, hts⟩ (l_Tr_sizeOf l dC dI X _ hc_8) (cwV 1 hts (gwV good_Vq (u_Vq_Vt _ k_Vt_144) (u_Vq_Tr _ k_Tr_88) (u_Vq_Tr _ k_Tr_89) (u_Vq_Tr _ k_Tr_0) (wcs (u_Vq_Tr _ k_Tr_90) (fun _ h => h))) rfl rfl rfl (by decide +kernel) ⟨Nat.le_of_ble_eq_true rfl, Nat.le_of_ble_eq_true rfl⟩) (pv_ofE (X.same _) (fun U z1 z2 => X.mono _ _ U hFc (hEw _ _ hS U z1 z2)) hP hK hD (va_recv hK hP (ci := 5) (q0 := 4) rfl rfl)) rfl rfl hl.1 rfl (lv_room (Nat.le_of_ble_eq_true rfl)) d_Vt_tellItem_75 ⟨by decide, by decide⟩) hS (fun q _ h => hFc q h) hFc (fun r_ u t H locs ht hvm hw hB hz1 hk1 hS => ?_)
        rw [hw]
        obtain ⟨hP, -, hD⟩ := hB
        rw [ht] at hP
        have hD := lx_dj hD hFc
        refine lv_i2l hx hb d_Vt_tellItem_78 rfl ?_
        rw [hQ]
        have e1 : (r_8.toInt64 : Int64) = r := congrArg Prod.fst (Option.some.inj h)
        have e2 : S_8 = S' := congrArg Prod.snd (Option.some.inj h)
        have hP := ly_newP e2.symm hP
        have hD := ly_newD e2.symm hD
        exact W.lret (v := r_8.toInt64) hx hb hr (fun t ht hW => ⟨⟨r_8.toInt64, (), rfl, e1, by rw [ht]; exact hP, va_K.moved hW.alike hK, hD⟩, hS.F ht⟩) hS.2.2 d_Vt_tellItem_79
      · have h := lf_f h c_7
        refine lv_lookup (off := 79) (tgt := 80) hx hb d_Vt_tellItem_1 (by decide) (by show Op.lookupswitch.offset [(0, 35), (1, 52), (5, 69)] 79 _ = _; rw [lv_osw c_1 (by decide), lv_osw c_4 (by decide), lv_osw c_7 (by decide)]; (try rfl)) (by decide) ?_
        refine lv_aload_n hx hb d_Vt_tellItem_80 rfl (lv_at hl 0 rfl) ?_
        refine va_get (D := (dC, dI)) (ci := 11) (v := .ref M.o_Dk) (C := R_Vt) (T := F_Vt) (N := 16) hx hb hts (fun w h => u_Vq_Vt w (i_Vt w h)) hown hK hP 0 rfl rfl 0 (by decide) (hts _ (u_Vq_Vt _ k_Vt_29)) (fun _ h9 => h9) rfl d_Vt_tellItem_81 ?_
        refine lv_aload_n hx hb d_Vt_tellItem_84 rfl (lv_at hl 0 rfl) ?_
        refine va_get (D := (dC, dI)) (ci := 11) (v := .ref M.o_Tr) (C := R_Vt) (T := F_Vt) (N := 16) hx hb hts (fun w h => u_Vq_Vt w (i_Vt w h)) hown hK hP 0 rfl rfl 3 (by decide) (hts _ (u_Vq_Vt _ k_Vt_32)) (fun _ h9 => h9) rfl d_Vt_tellItem_85 ?_
        refine lv_iload_n hx hb d_Vt_tellItem_88 rfl (lv_at hl 1 rfl) ?_
        obtain ⟨r_9, S_9, hc_9, h⟩ := lf_cE h
        have hFc := lx_free hD hS hA
        refine va_calli (va_runV (As := [.int p0]) (rest := [.ref M.o_Dk]) ⟨hx, hb, hml, hown, hts⟩ (l_Tr_spotOf l dC dI X _ hc_9) (cwV 1 hts (gwV good_Vq (u_Vq_Vt _ k_Vt_145) (u_Vq_Tr _ k_Tr_57) (u_Vq_Tr _ k_Tr_58) (u_Vq_Tr _ k_Tr_0) (wcs (u_Vq_Tr _ k_Tr_59) (fun _ h => h))) rfl rfl rfl (by decide +kernel) ⟨Nat.le_of_ble_eq_true rfl, Nat.le_of_ble_eq_true rfl⟩) (pv_ofE (X.same _) (fun U z1 z2 => X.mono _ _ U hFc (hEw _ _ hS U z1 z2)) hP hK hD (va_recv hK hP (ci := 5) (q0 := 4) rfl rfl)) rfl rfl hl.1 rfl (lv_room (Nat.le_of_ble_eq_true rfl)) d_Vt_tellItem_89 ⟨by decide, by decide⟩) hS (fun q _ h => hFc q h) hFc (fun r_ u t H locs ht hvm hw hB hz1 hk1 hS => ?_)
        rw [hw]
        obtain ⟨hP, -, hD⟩ := hB
        rw [ht] at hP
        have hD := lx_dj hD hFc
        refine lv_iload_n hx hb d_Vt_tellItem_92 rfl (lv_at hl 2 rfl) ?_
        obtain ⟨r_10, S_10, hc_10, h⟩ := lf_cE h
        have hFc := lx_free hD hS hA
        refine va_calll (va_runS (As := [.ref M.o_Dk, .int r_9, .int p1]) (rest := []) ⟨hx, hb, hml, hown, hts⟩ (l_Da_seconds l dC dI X _ hc_10) (va_cwS 3 hts (gwS good_Vq (u_Vq_Vt _ k_Vt_146) (u_Vq_Da _ k_Da_19) (u_Vq_Da _ k_Da_0) (wcs (u_Vq_Da _ k_Da_20) (fun _ h => h))) rfl rfl rfl (by decide +kernel) ⟨Nat.le_of_ble_eq_true rfl, Nat.le_of_ble_eq_true rfl⟩) (ps_ofE2 (X.same _) (fun U z1 z2 => X.mono _ _ U hFc (hEw _ _ hS U z1 z2)) hP hK hD) rfl rfl hl.1 rfl (lv_room (Nat.le_of_ble_eq_true rfl)) d_Vt_tellItem_93 ⟨by decide, by decide⟩) hS (fun q _ h => hFc q h) hFc (fun r_ u t H locs ht hvm hw hB hz1 hk1 hS => ?_)
        rw [hw]
        obtain ⟨hP, -, hD⟩ := hB
        rw [ht] at hP
        have hD := lx_dj hD hFc
        refine lv_ldc2 (v := 4294967295) hx hb hown (hts _ (u_Vq_Vt _ k_Vt_147)) d_Vt_tellItem_96 ?_
        refine lv_land hx hb d_Vt_tellItem_99 ?_
        rw [hQ]
        have e1 : (r_10 &&& 4294967295 : Int64) = r := congrArg Prod.fst (Option.some.inj h)
        have e2 : S_10 = S' := congrArg Prod.snd (Option.some.inj h)
        have hP := ly_newP e2.symm hP
        have hD := ly_newD e2.symm hD
        exact W.lret (v := (r_10 &&& 4294967295)) hx hb hr (fun t ht hW => ⟨⟨(r_10 &&& 4294967295), (), rfl, e1, by rw [ht]; exact hP, va_K.moved hW.alike hK, hD⟩, hS.F ht⟩) hS.2.2 d_Vt_tellItem_100
