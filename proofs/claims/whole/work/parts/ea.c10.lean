set_option maxHeartbeats 4000000 in
set_option maxRecDepth 100000 in
theorem l_Tu_putPointers (l : Launch) (dC : Nat → ClassId) (dI : Nat → Nat → Nat) {K : Nat} {M : CA} {E : (Nat → Prop) → State → Prop} (X : ly_X l dC dI K M E) (sz : Nat) {Y : CT} {G : CG} {S S' : CS} {p0 : Int32} (h : f_Tu_putPointers K G S p0 = some S') : Met l y_Tu_putPointers (.code y_Tu_putPointers cb_Tu_putPointers 3 none :: V_Vq) ({ frames := 2, cells := 0, slots := 0, locals := 43 }) (va_Pc [.ref M.o_Tu, .int p0] (fun U => U.heap.size = sz ∧ at_ (dC, dI) (fun _ => True) (wV M Y G S) (tV M) U ∧ E (va_A (wV M Y G S) sz) U)) (va_Qv (fun (u : Unit) => True) (fun (u : Unit) t => at_ (dC, dI) (va_A (wV M Y G S) sz) (wV M Y G S') (tV M) t) (va_A (wV M Y G S) sz)) 0 0 (va_A (wV M Y G S) sz) := by
  refine Met.ofW (cc := cb_Tu_putPointers) (maxL := 3) (ret := none) (by decide) rfl ?_
  intro p e s m args below meth c s₁ B hml hv
  obtain ⟨rfl, hsz, ⟨hP, hK, hD0⟩, hE⟩ := hv
  have hx := B.exec
  have hb := B.bytes
  have hr := B.returns
  have hts0 := atoms_spec (ws := .code y_Tu_putPointers cb_Tu_putPointers 3 none :: V_Vq) B.pre
  have hts : ∀ w ∈ V_Vq, w.before ([.ref M.o_Tu, .int p0] : List Value).toArray s = true := fun w h => hts0 w (List.mem_cons_of_mem _ h)
  have hown : s.vm.findClass R_Tu = some m.cls := findClass_of_methodNamed B.named
  subst hsz
  have hD := hD0.self (sz := s.heap.size)
  generalize hAe : va_A (wV M Y G S) s.heap.size = A at hD hE ⊢
  have hA : ∀ q : Nat, s.heap.size ≤ q → A q := fun q h => by rw [← hAe]; exact Or.inr h
  have hS : va_S A s.heap s.heap [] := va_S.rf
  have hP : va_P (dC, dI) classes (wV M Y G S) s.heap := hP
  have hK : va_K (dC, dI) classes (tV M) s := hK
  have hEw : ∀ (H : Heap) (locs : List Loc), va_S A s.heap H locs → ∀ U : State, U.heap = H → s.WarmedH U.vm → E A U := fun H locs hS U hU hW => X.kept A s U H locs hE hS hU hW
  have hl := lv_entry ([.ref M.o_Tu, .int p0]) (n := 3) (Nat.le_of_ble_eq_true rfl)
  rw [lg_entry_eq]
  generalize (lg_sl ([.ref M.o_Tu, .int p0]) ++ List.replicate (3 - (lg_sl ([.ref M.o_Tu, .int p0])).length) Slot.unset).toArray = ls at hl ⊢
  have hl : lv_has ls 3 [(0, .ref M.o_Tu), (1, .int p0)] := hl
  refine qabs (fun Q hQ => ?_)
  have hB_6 : ∀ (k : Nat), ∀ (y_1 : Int32) (y_2 : Int32) (S : CS) (H : Heap) (locs : List Loc) (ls : Array Slot), f_Tu_putPointers_6 K G k y_1 y_2 S = some S' → va_P (dC, dI) classes (wV M Y G S) H → va_D A (wV M Y G S) → va_S A s.heap H locs → lv_has ls 3 [(0, .ref M.o_Tu), (1, .int y_1), (2, .int y_2)] → W p l e ({ frames := 2, cells := 0, slots := 0, locals := 43 }) s m ([.ref M.o_Tu, .int p0] : List Value).toArray below meth c H locs 0 0 Q (F0 m 6 ls []) := by
    intro k
    induction k with
    | zero => intro y_1 y_2 S H locs ls h; exact lf_no h
    | succ k hr_6 =>
      intro y_1 y_2 S H locs ls h hP hD hS hl
      rw [f_Tu_putPointers_6] at h
      refine lv_iload_n hx hb d_Tu_putPointers_6 rfl (lv_at hl 2 rfl) ?_
      refine lv_sipush (v := 256) hx hb d_Tu_putPointers_7 (by decide) ?_
      refine lv_icmp_ge (tgt := 50) hx hb d_Tu_putPointers_10 (by decide) (fun c_2 => ?_) (fun c_2 => ?_)
      · have h := lf_t h c_2
        rw [hQ]
        have e2 : S = S' := Option.some.inj h
        have hP := ly_newP e2.symm hP
        have hD := ly_newD e2.symm hD
        exact W.vret hx hb hr (fun t ht hW => ⟨⟨(), rfl, trivial, by rw [ht]; exact hP, va_K.moved hW.alike hK, hD⟩, hS.F ht⟩) hS.2.2 d_Tu_putPointers_50
      · have h := lf_f h c_2
        refine lv_iload_n hx hb d_Tu_putPointers_13 rfl (lv_at hl 1 rfl) ?_
        refine lv_iload_n hx hb d_Tu_putPointers_14 rfl (lv_at hl 2 rfl) ?_
        refine lv_iadd hx hb d_Tu_putPointers_15 ?_
        refine lv_aload_n hx hb d_Tu_putPointers_16 rfl (lv_at hl 0 rfl) ?_
        refine va_get (D := (dC, dI)) (ci := 10) (v := .ref M.o_Pl) (C := R_Tu) (T := F_Tu) (N := 7) hx hb hts (fun w h => u_Vq_Tu w (i_Tu w h)) hown hK hP 8 rfl rfl 4 (by decide) (hts _ (u_Vq_Tu _ k_Tu_21)) (fun _ h9 => h9) rfl d_Tu_putPointers_17 ?_
        refine va_get (D := (dC, dI)) (ci := 9) (v := .int S.v_Pl_listed) (C := R_Pl) (T := F_Pl) (N := 17) hx hb hts (fun w h => u_Vq_Pl w (i_Pl w h)) hown hK hP 7 rfl rfl 10 (by decide) (hts _ (u_Vq_Tu _ k_Tu_8)) (fun _ h9 => h9) rfl d_Tu_putPointers_20 ?_
        refine lv_icmp_ge (tgt := 50) hx hb d_Tu_putPointers_23 (by decide) (fun c_3 => ?_) (fun c_3 => ?_)
        · have h := lf_t h c_3
          rw [hQ]
          have e2 : S = S' := Option.some.inj h
          have hP := ly_newP e2.symm hP
          have hD := ly_newD e2.symm hD
          exact W.vret hx hb hr (fun t ht hW => ⟨⟨(), rfl, trivial, by rw [ht]; exact hP, va_K.moved hW.alike hK, hD⟩, hS.F ht⟩) hS.2.2 d_Tu_putPointers_50
        · have h := lf_f h c_3
          refine lv_aload_n hx hb d_Tu_putPointers_26 rfl (lv_at hl 0 rfl) ?_
          refine lv_iconst (v := 4) hx hb d_Tu_putPointers_27 (by decide) ?_
          refine lv_iload_n hx hb d_Tu_putPointers_28 rfl (lv_at hl 2 rfl) ?_
          refine lv_imul hx hb d_Tu_putPointers_29 ?_
          refine lv_aload_n hx hb d_Tu_putPointers_30 rfl (lv_at hl 0 rfl) ?_
          refine va_get (D := (dC, dI)) (ci := 10) (v := .ref M.o_Pl) (C := R_Tu) (T := F_Tu) (N := 7) hx hb hts (fun w h => u_Vq_Tu w (i_Tu w h)) hown hK hP 8 rfl rfl 4 (by decide) (hts _ (u_Vq_Tu _ k_Tu_21)) (fun _ h9 => h9) rfl d_Tu_putPointers_31 ?_
          refine va_get (D := (dC, dI)) (ci := 9) (v := .ref M.a_Pl_list) (C := R_Pl) (T := F_Pl) (N := 17) hx hb hts (fun w h => u_Vq_Pl w (i_Pl w h)) hown hK hP 7 rfl rfl 9 (by decide) (hts _ (u_Vq_Tu _ k_Tu_7)) (fun _ h9 => h9) rfl d_Tu_putPointers_34 ?_
          refine lv_iload_n hx hb d_Tu_putPointers_37 rfl (lv_at hl 1 rfl) ?_
          refine lv_iload_n hx hb d_Tu_putPointers_38 rfl (lv_at hl 2 rfl) ?_
          refine lv_iadd hx hb d_Tu_putPointers_39 ?_
          obtain ⟨g_4, h⟩ := lf_gE h
          refine va_iald hx hb hK hP 43 2 rfl rfl g_4 d_Tu_putPointers_40 ?_
          obtain ⟨S_5, hc_5, h⟩ := lf_bE h
          have hFc := lx_free hD hS hA
          refine va_callv (va_runV (As := [.int (4 * y_2), .int (S.w_Pl_list (y_1 + y_2).toNatClampNeg)]) (rest := []) ⟨hx, hb, hml, hown, hts⟩ (l_Tu_putFour l dC dI X _ hc_5) (cwV 2 hts (gwV good_Vq (u_Vq_Tu _ k_Tu_84) (u_Vq_Tu _ k_Tu_85) (u_Vq_Tu _ k_Tu_168) (u_Vq_Tu _ k_Tu_0) (wcs (u_Vq_Tu _ k_Tu_86) (fun _ h => h))) rfl rfl rfl (by decide +kernel) ⟨Nat.le_of_ble_eq_true rfl, Nat.le_of_ble_eq_true rfl⟩) (pv_ofE (X.same _) (fun U z1 z2 => X.mono _ _ U hFc (hEw _ _ hS U z1 z2)) hP hK hD (va_recv hK hP (ci := 10) (q0 := 8) rfl rfl)) rfl rfl hl.1 rfl (lv_room (Nat.le_of_ble_eq_true rfl)) d_Tu_putPointers_41 ⟨by decide, by decide⟩) hS (fun q _ h => hFc q h) hFc (fun u t H locs ht hvm hw hB hz1 hk1 hS => ?_)
          obtain ⟨hP, -, hD⟩ := hB
          rw [ht] at hP
          have hD := lx_dj hD hFc
          obtain ⟨x_6, ex_6, h⟩ := lf_lX h
          refine lv_iinc (v := x_6) (lv' := [(2, .int x_6), (0, .ref M.o_Tu), (1, .int y_1)]) hx hb d_Tu_putPointers_44 hl (k := 2) rfl (by rw [ex_6]; rfl) (by decide) rfl (fun ls hl => ?_)
          refine lv_goto (tgt := 6) hx hb d_Tu_putPointers_47 (by decide) ?_
          exact hr_6 y_1 x_6 S_5 _ _ _ h hP hD hS (lv_sub hl [1, 2, 0] rfl)
  rw [f_Tu_putPointers] at h
  refine lv_aload_n hx hb d_Tu_putPointers_0 rfl (lv_at hl 0 rfl) ?_
  obtain ⟨S_1, hc_1, h⟩ := lf_bE h
  have hFc := lx_free hD hS hA
  refine va_callv (va_runV (As := []) (rest := []) ⟨hx, hb, hml, hown, hts⟩ (l_Tu_empty l dC dI X _ hc_1) (cwV 0 hts (gwV good_Vq (u_Vq_Tu _ k_Tu_57) (u_Vq_Tu _ k_Tu_58) (u_Vq_Tu _ k_Tu_164) (u_Vq_Tu _ k_Tu_0) (wcs (u_Vq_Tu _ k_Tu_59) (fun _ h => h))) rfl rfl rfl (by decide +kernel) ⟨Nat.le_of_ble_eq_true rfl, Nat.le_of_ble_eq_true rfl⟩) (pv_ofE (X.same _) (fun U z1 z2 => X.mono _ _ U hFc (hEw _ _ hS U z1 z2)) hP hK hD (va_recv hK hP (ci := 10) (q0 := 8) rfl rfl)) rfl rfl hl.1 rfl (lv_room (Nat.le_of_ble_eq_true rfl)) d_Tu_putPointers_1 ⟨by decide, by decide⟩) hS (fun q _ h => hFc q h) hFc (fun u t H locs ht hvm hw hB hz1 hk1 hS => ?_)
  obtain ⟨hP, -, hD⟩ := hB
  rw [ht] at hP
  have hD := lx_dj hD hFc
  refine lv_iconst (v := 0) hx hb d_Tu_putPointers_4 (by decide) ?_
  refine lv_istore_n (lv' := [(2, .int 0), (0, .ref M.o_Tu), (1, .int p0)]) hx hb d_Tu_putPointers_5 rfl hl (by decide) rfl (fun ls hl => ?_)
  exact hB_6 K p0 0 S_1 _ _ _ h hP hD hS (lv_sub hl [1, 2, 0] rfl)
set_option maxHeartbeats 4000000 in
set_option maxRecDepth 100000 in
theorem l_Tu_buildIndirects (l : Launch) (dC : Nat → ClassId) (dI : Nat → Nat → Nat) {K : Nat} {M : CA} {E : (Nat → Prop) → State → Prop} (X : ly_X l dC dI K M E) (sz : Nat) {Y : CT} {G : CG} {S S' : CS} {p0 : Int32} (h : f_Tu_buildIndirects K G S p0 = some S') : Met l y_Tu_buildIndirects (.code y_Tu_buildIndirects cb_Tu_buildIndirects 5 none :: V_Vq) ({ frames := 3, cells := 0, slots := 0, locals := 104 }) (va_Pc [.ref M.o_Tu, .int p0] (fun U => U.heap.size = sz ∧ at_ (dC, dI) (fun _ => True) (wV M Y G S) (tV M) U ∧ E (va_A (wV M Y G S) sz) U)) (va_Qv (fun (u : Unit) => True) (fun (u : Unit) t => at_ (dC, dI) (va_A (wV M Y G S) sz) (wV M Y G S') (tV M) t) (va_A (wV M Y G S) sz)) 0 0 (va_A (wV M Y G S) sz) := by
  refine Met.ofW (cc := cb_Tu_buildIndirects) (maxL := 5) (ret := none) (by decide) rfl ?_
  intro p e s m args below meth c s₁ B hml hv
  obtain ⟨rfl, hsz, ⟨hP, hK, hD0⟩, hE⟩ := hv
  have hx := B.exec
  have hb := B.bytes
  have hr := B.returns
  have hts0 := atoms_spec (ws := .code y_Tu_buildIndirects cb_Tu_buildIndirects 5 none :: V_Vq) B.pre
  have hts : ∀ w ∈ V_Vq, w.before ([.ref M.o_Tu, .int p0] : List Value).toArray s = true := fun w h => hts0 w (List.mem_cons_of_mem _ h)
  have hown : s.vm.findClass R_Tu = some m.cls := findClass_of_methodNamed B.named
  subst hsz
  have hD := hD0.self (sz := s.heap.size)
  generalize hAe : va_A (wV M Y G S) s.heap.size = A at hD hE ⊢
  have hA : ∀ q : Nat, s.heap.size ≤ q → A q := fun q h => by rw [← hAe]; exact Or.inr h
  have hS : va_S A s.heap s.heap [] := va_S.rf
  have hP : va_P (dC, dI) classes (wV M Y G S) s.heap := hP
  have hK : va_K (dC, dI) classes (tV M) s := hK
  have hEw : ∀ (H : Heap) (locs : List Loc), va_S A s.heap H locs → ∀ U : State, U.heap = H → s.WarmedH U.vm → E A U := fun H locs hS U hU hW => X.kept A s U H locs hE hS hU hW
  have hl := lv_entry ([.ref M.o_Tu, .int p0]) (n := 5) (Nat.le_of_ble_eq_true rfl)
  rw [lg_entry_eq]
  generalize (lg_sl ([.ref M.o_Tu, .int p0]) ++ List.replicate (5 - (lg_sl ([.ref M.o_Tu, .int p0])).length) Slot.unset).toArray = ls at hl ⊢
  have hl : lv_has ls 5 [(0, .ref M.o_Tu), (1, .int p0)] := hl
  refine qabs (fun Q hQ => ?_)
  have hB_112 : ∀ (k : Nat), ∀ (y_2 : Int32) (y_3 : Int32) (y_4 : Int32) (S : CS) (H : Heap) (locs : List Loc) (ls : Array Slot), f_Tu_buildIndirects_112 K G k y_2 y_3 y_4 S = some S' → va_P (dC, dI) classes (wV M Y G S) H → va_D A (wV M Y G S) → va_S A s.heap H locs → lv_has ls 5 [(0, .ref M.o_Tu), (2, .int y_2), (3, .int y_3), (4, .int y_4)] → W p l e ({ frames := 3, cells := 0, slots := 0, locals := 104 }) s m ([.ref M.o_Tu, .int p0] : List Value).toArray below meth c H locs 0 0 Q (F0 m 112 ls []) := by
    intro k
    induction k with
    | zero => intro y_2 y_3 y_4 S H locs ls h; exact lf_no h
    | succ k hr_112 =>
      intro y_2 y_3 y_4 S H locs ls h hP hD hS hl
      rw [f_Tu_buildIndirects_112] at h
      refine lv_iload hx hb d_Tu_buildIndirects_112 (lv_at hl 3 rfl) ?_
      refine lv_iload_n hx hb d_Tu_buildIndirects_114 rfl (lv_at hl 2 rfl) ?_
      refine lv_icmp_ge (tgt := 154) hx hb d_Tu_buildIndirects_115 (by decide) (fun c_16 => ?_) (fun c_16 => ?_)
      · have h := lf_t h c_16
        rw [hQ]
        have e2 : S = S' := Option.some.inj h
        have hP := ly_newP e2.symm hP
        have hD := ly_newD e2.symm hD
        exact W.vret hx hb hr (fun t ht hW => ⟨⟨(), rfl, trivial, by rw [ht]; exact hP, va_K.moved hW.alike hK, hD⟩, hS.F ht⟩) hS.2.2 d_Tu_buildIndirects_154
      · have h := lf_f h c_16
        refine lv_aload_n hx hb d_Tu_buildIndirects_118 rfl (lv_at hl 0 rfl) ?_
        refine lv_bipush (v := 12) hx hb d_Tu_buildIndirects_119 (by decide) ?_
        refine lv_iload hx hb d_Tu_buildIndirects_121 (lv_at hl 3 rfl) ?_
        refine lv_iconst (v := 1) hx hb d_Tu_buildIndirects_123 (by decide) ?_
        refine lv_isub hx hb d_Tu_buildIndirects_124 ?_
        refine lv_sipush (v := 256) hx hb d_Tu_buildIndirects_125 (by decide) ?_
        refine lv_imul hx hb d_Tu_buildIndirects_128 ?_
        refine lv_iadd hx hb d_Tu_buildIndirects_129 ?_
        obtain ⟨S_17, hc_17, h⟩ := lf_bE h
        have hFc := lx_free hD hS hA
        refine va_callv (va_runV (As := [.int (12 + ((y_4 - 1) * 256))]) (rest := []) ⟨hx, hb, hml, hown, hts⟩ (l_Tu_putPointers l dC dI X _ hc_17) (cwV 1 hts (gwV good_Vq (u_Vq_Tu _ k_Tu_99) (u_Vq_Tu _ k_Tu_100) (u_Vq_Tu _ k_Tu_172) (u_Vq_Tu _ k_Tu_0) (wcs (u_Vq_Tu _ k_Tu_101) (fun _ h => h))) rfl rfl rfl (by decide +kernel) ⟨Nat.le_of_ble_eq_true rfl, Nat.le_of_ble_eq_true rfl⟩) (pv_ofE (X.same _) (fun U z1 z2 => X.mono _ _ U hFc (hEw _ _ hS U z1 z2)) hP hK hD (va_recv hK hP (ci := 10) (q0 := 8) rfl rfl)) rfl rfl hl.1 rfl (lv_room (Nat.le_of_ble_eq_true rfl)) d_Tu_buildIndirects_130 ⟨by decide, by decide⟩) hS (fun q _ h => hFc q h) hFc (fun u t H locs ht hvm hw hB hz1 hk1 hS => ?_)
        obtain ⟨hP, -, hD⟩ := hB
        rw [ht] at hP
        have hD := lx_dj hD hFc
        refine lv_aload_n hx hb d_Tu_buildIndirects_133 rfl (lv_at hl 0 rfl) ?_
        refine lv_aload_n hx hb d_Tu_buildIndirects_134 rfl (lv_at hl 0 rfl) ?_
        refine va_get (D := (dC, dI)) (ci := 10) (v := .ref M.o_Pl) (C := R_Tu) (T := F_Tu) (N := 7) hx hb hts (fun w h => u_Vq_Tu w (i_Tu w h)) hown hK hP 8 rfl rfl 4 (by decide) (hts _ (u_Vq_Tu _ k_Tu_21)) (fun _ h9 => h9) rfl d_Tu_buildIndirects_135 ?_
        refine lv_iload_n hx hb d_Tu_buildIndirects_138 rfl (lv_at hl 1 rfl) ?_
        refine lv_iload hx hb d_Tu_buildIndirects_139 (lv_at hl 3 rfl) ?_
        refine lv_iadd hx hb d_Tu_buildIndirects_141 ?_
        obtain ⟨r_18, S_18, hc_18, h⟩ := lf_cE h
        have hFc := lx_free hD hS hA
        refine va_calli (va_runV (As := [.int (y_2 + y_4)]) (rest := [.ref M.o_Tu]) ⟨hx, hb, hml, hown, hts⟩ (l_Pl_room l dC dI X _ hc_18) (cwV 1 hts (gwV good_Vq (u_Vq_Tu _ k_Tu_37) (u_Vq_Pl _ k_Pl_96) (u_Vq_Pl _ k_Pl_97) (u_Vq_Pl _ k_Pl_0) (wcs (u_Vq_Pl _ k_Pl_98) (fun _ h => h))) rfl rfl rfl (by decide +kernel) ⟨Nat.le_of_ble_eq_true rfl, Nat.le_of_ble_eq_true rfl⟩) (pv_ofE (X.same _) (fun U z1 z2 => X.mono _ _ U hFc (hEw _ _ hS U z1 z2)) hP hK hD (va_recv hK hP (ci := 9) (q0 := 7) rfl rfl)) rfl rfl hl.1 rfl (lv_room (Nat.le_of_ble_eq_true rfl)) d_Tu_buildIndirects_142 ⟨by decide, by decide⟩) hS (fun q _ h => hFc q h) hFc (fun r_ u t H locs ht hvm hw hB hz1 hk1 hS => ?_)
        rw [hw]
        obtain ⟨hP, -, hD⟩ := hB
        rw [ht] at hP
        have hD := lx_dj hD hFc
        obtain ⟨S_19, hc_19, h⟩ := lf_bE h
        have hFc := lx_free hD hS hA
        refine va_callv (va_runV (As := [.int r_18]) (rest := []) ⟨hx, hb, hml, hown, hts⟩ (l_Tu_storeBlock l dC dI X _ hc_19) (cwV 1 hts (gwV good_Vq (u_Vq_Tu _ k_Tu_72) (u_Vq_Tu _ k_Tu_73) (u_Vq_Tu _ k_Tu_165) (u_Vq_Tu _ k_Tu_0) (wcs (u_Vq_Tu _ k_Tu_74) (fun _ h => h))) rfl rfl rfl (by decide +kernel) ⟨Nat.le_of_ble_eq_true rfl, Nat.le_of_ble_eq_true rfl⟩) (pv_ofE (X.same _) (fun U z1 z2 => X.mono _ _ U hFc (hEw _ _ hS U z1 z2)) hP hK hD (va_recv hK hP (ci := 10) (q0 := 8) rfl rfl)) rfl rfl hl.1 rfl (lv_room (Nat.le_of_ble_eq_true rfl)) d_Tu_buildIndirects_145 ⟨by decide, by decide⟩) hS (fun q _ h => hFc q h) hFc (fun u t H locs ht hvm hw hB hz1 hk1 hS => ?_)
        obtain ⟨hP, -, hD⟩ := hB
        rw [ht] at hP
        have hD := lx_dj hD hFc
        obtain ⟨x_20, ex_20, h⟩ := lf_lX h
        refine lv_iinc (v := x_20) (lv' := [(4, .int x_20), (0, .ref M.o_Tu), (2, .int y_2), (3, .int y_3)]) hx hb d_Tu_buildIndirects_148 hl (k := 3) rfl (by rw [ex_20]; rfl) (by decide) rfl (fun ls hl => ?_)
        refine lv_goto (tgt := 112) hx hb d_Tu_buildIndirects_151 (by decide) ?_
        exact hr_112 y_2 y_3 x_20 S_19 _ _ _ h hP hD hS (lv_sub hl [1, 2, 3, 0] rfl)
  have hB_109 : ∀ (y_2 : Int32) (y_3 : Int32) (S : CS) (H : Heap) (locs : List Loc) (ls : Array Slot), f_Tu_buildIndirects_109 K G y_2 y_3 S = some S' → va_P (dC, dI) classes (wV M Y G S) H → va_D A (wV M Y G S) → va_S A s.heap H locs → lv_has ls 5 [(0, .ref M.o_Tu), (2, .int y_2), (3, .int y_3)] → W p l e ({ frames := 3, cells := 0, slots := 0, locals := 104 }) s m ([.ref M.o_Tu, .int p0] : List Value).toArray below meth c H locs 0 0 Q (F0 m 109 ls []) := by
    intro y_2 y_3 S H locs ls h hP hD hS hl
    rw [f_Tu_buildIndirects_109] at h
    refine lv_iconst (v := 2) hx hb d_Tu_buildIndirects_109 (by decide) ?_
    refine lv_istore (lv' := [(4, .int 2), (0, .ref M.o_Tu), (2, .int y_2), (3, .int y_3)]) hx hb d_Tu_buildIndirects_110 hl (by decide) rfl (fun ls hl => ?_)
    exact hB_112 K y_2 y_3 2 S _ _ _ h hP hD hS (lv_sub hl [1, 2, 3, 0] rfl)
  have hB_62 : ∀ (k : Nat), ∀ (y_2 : Int32) (y_3 : Int32) (y_4 : Int32) (S : CS) (H : Heap) (locs : List Loc) (ls : Array Slot), f_Tu_buildIndirects_62 K G k y_2 y_3 y_4 S = some S' → va_P (dC, dI) classes (wV M Y G S) H → va_D A (wV M Y G S) → va_S A s.heap H locs → lv_has ls 5 [(0, .ref M.o_Tu), (2, .int y_2), (3, .int y_3), (4, .int y_4)] → W p l e ({ frames := 3, cells := 0, slots := 0, locals := 104 }) s m ([.ref M.o_Tu, .int p0] : List Value).toArray below meth c H locs 0 0 Q (F0 m 62 ls []) := by
    intro k
    induction k with
    | zero => intro y_2 y_3 y_4 S H locs ls h; exact lf_no h
    | succ k hr_62 =>
      intro y_2 y_3 y_4 S H locs ls h hP hD hS hl
      rw [f_Tu_buildIndirects_62] at h
      refine lv_iload hx hb d_Tu_buildIndirects_62 (lv_at hl 3 rfl) ?_
      refine lv_iload_n hx hb d_Tu_buildIndirects_64 rfl (lv_at hl 2 rfl) ?_
      refine lv_icmp_ge (tgt := 95) hx hb d_Tu_buildIndirects_65 (by decide) (fun c_10 => ?_) (fun c_10 => ?_)
      · have h := lf_t h c_10
        refine lv_aload_n hx hb d_Tu_buildIndirects_95 rfl (lv_at hl 0 rfl) ?_
        refine lv_aload_n hx hb d_Tu_buildIndirects_96 rfl (lv_at hl 0 rfl) ?_
        refine va_get (D := (dC, dI)) (ci := 10) (v := .ref M.o_Pl) (C := R_Tu) (T := F_Tu) (N := 7) hx hb hts (fun w h => u_Vq_Tu w (i_Tu w h)) hown hK hP 8 rfl rfl 4 (by decide) (hts _ (u_Vq_Tu _ k_Tu_21)) (fun _ h9 => h9) rfl d_Tu_buildIndirects_97 ?_
        refine lv_iload_n hx hb d_Tu_buildIndirects_100 rfl (lv_at hl 1 rfl) ?_
        refine lv_iconst (v := 1) hx hb d_Tu_buildIndirects_101 (by decide) ?_
        refine lv_iadd hx hb d_Tu_buildIndirects_102 ?_
        obtain ⟨r_11, S_11, hc_11, h⟩ := lf_cE h
        have hFc := lx_free hD hS hA
        refine va_calli (va_runV (As := [.int (y_2 + 1)]) (rest := [.ref M.o_Tu]) ⟨hx, hb, hml, hown, hts⟩ (l_Pl_room l dC dI X _ hc_11) (cwV 1 hts (gwV good_Vq (u_Vq_Tu _ k_Tu_37) (u_Vq_Pl _ k_Pl_96) (u_Vq_Pl _ k_Pl_97) (u_Vq_Pl _ k_Pl_0) (wcs (u_Vq_Pl _ k_Pl_98) (fun _ h => h))) rfl rfl rfl (by decide +kernel) ⟨Nat.le_of_ble_eq_true rfl, Nat.le_of_ble_eq_true rfl⟩) (pv_ofE (X.same _) (fun U z1 z2 => X.mono _ _ U hFc (hEw _ _ hS U z1 z2)) hP hK hD (va_recv hK hP (ci := 9) (q0 := 7) rfl rfl)) rfl rfl hl.1 rfl (lv_room (Nat.le_of_ble_eq_true rfl)) d_Tu_buildIndirects_103 ⟨by decide, by decide⟩) hS (fun q _ h => hFc q h) hFc (fun r_ u t H locs ht hvm hw hB hz1 hk1 hS => ?_)
        rw [hw]
        obtain ⟨hP, -, hD⟩ := hB
        rw [ht] at hP
        have hD := lx_dj hD hFc
        obtain ⟨S_12, hc_12, h⟩ := lf_bE h
        have hFc := lx_free hD hS hA
        refine va_callv (va_runV (As := [.int r_11]) (rest := []) ⟨hx, hb, hml, hown, hts⟩ (l_Tu_storeBlock l dC dI X _ hc_12) (cwV 1 hts (gwV good_Vq (u_Vq_Tu _ k_Tu_72) (u_Vq_Tu _ k_Tu_73) (u_Vq_Tu _ k_Tu_165) (u_Vq_Tu _ k_Tu_0) (wcs (u_Vq_Tu _ k_Tu_74) (fun _ h => h))) rfl rfl rfl (by decide +kernel) ⟨Nat.le_of_ble_eq_true rfl, Nat.le_of_ble_eq_true rfl⟩) (pv_ofE (X.same _) (fun U z1 z2 => X.mono _ _ U hFc (hEw _ _ hS U z1 z2)) hP hK hD (va_recv hK hP (ci := 10) (q0 := 8) rfl rfl)) rfl rfl hl.1 rfl (lv_room (Nat.le_of_ble_eq_true rfl)) d_Tu_buildIndirects_106 ⟨by decide, by decide⟩) hS (fun q _ h => hFc q h) hFc (fun u t H locs ht hvm hw hB hz1 hk1 hS => ?_)
        obtain ⟨hP, -, hD⟩ := hB
        rw [ht] at hP
        have hD := lx_dj hD hFc
        exact hB_109 y_2 y_3 S_12 _ _ _ h hP hD hS (lv_sub hl [0, 1, 2] rfl)
      · have h := lf_f h c_10
        refine lv_aload_n hx hb d_Tu_buildIndirects_68 rfl (lv_at hl 0 rfl) ?_
        refine lv_iconst (v := 4) hx hb d_Tu_buildIndirects_69 (by decide) ?_
        refine lv_iload hx hb d_Tu_buildIndirects_70 (lv_at hl 3 rfl) ?_
        refine lv_iconst (v := 2) hx hb d_Tu_buildIndirects_72 (by decide) ?_
        refine lv_isub hx hb d_Tu_buildIndirects_73 ?_
        refine lv_imul hx hb d_Tu_buildIndirects_74 ?_
        refine lv_aload_n hx hb d_Tu_buildIndirects_75 rfl (lv_at hl 0 rfl) ?_
        refine va_get (D := (dC, dI)) (ci := 10) (v := .ref M.o_Pl) (C := R_Tu) (T := F_Tu) (N := 7) hx hb hts (fun w h => u_Vq_Tu w (i_Tu w h)) hown hK hP 8 rfl rfl 4 (by decide) (hts _ (u_Vq_Tu _ k_Tu_21)) (fun _ h9 => h9) rfl d_Tu_buildIndirects_76 ?_
        refine lv_iload_n hx hb d_Tu_buildIndirects_79 rfl (lv_at hl 1 rfl) ?_
        refine lv_iload hx hb d_Tu_buildIndirects_80 (lv_at hl 3 rfl) ?_
        refine lv_iadd hx hb d_Tu_buildIndirects_82 ?_
        obtain ⟨r_13, S_13, hc_13, h⟩ := lf_cE h
        have hFc := lx_free hD hS hA
        refine va_calli (va_runV (As := [.int (y_2 + y_4)]) (rest := [.int (4 * (y_4 - 2)), .ref M.o_Tu]) ⟨hx, hb, hml, hown, hts⟩ (l_Pl_room l dC dI X _ hc_13) (cwV 1 hts (gwV good_Vq (u_Vq_Tu _ k_Tu_37) (u_Vq_Pl _ k_Pl_96) (u_Vq_Pl _ k_Pl_97) (u_Vq_Pl _ k_Pl_0) (wcs (u_Vq_Pl _ k_Pl_98) (fun _ h => h))) rfl rfl rfl (by decide +kernel) ⟨Nat.le_of_ble_eq_true rfl, Nat.le_of_ble_eq_true rfl⟩) (pv_ofE (X.same _) (fun U z1 z2 => X.mono _ _ U hFc (hEw _ _ hS U z1 z2)) hP hK hD (va_recv hK hP (ci := 9) (q0 := 7) rfl rfl)) rfl rfl hl.1 rfl (lv_room (Nat.le_of_ble_eq_true rfl)) d_Tu_buildIndirects_83 ⟨by decide, by decide⟩) hS (fun q _ h => hFc q h) hFc (fun r_ u t H locs ht hvm hw hB hz1 hk1 hS => ?_)
        rw [hw]
        obtain ⟨hP, -, hD⟩ := hB
        rw [ht] at hP
        have hD := lx_dj hD hFc
        obtain ⟨S_14, hc_14, h⟩ := lf_bE h
        have hFc := lx_free hD hS hA
        refine va_callv (va_runV (As := [.int (4 * (y_4 - 2)), .int r_13]) (rest := []) ⟨hx, hb, hml, hown, hts⟩ (l_Tu_putFour l dC dI X _ hc_14) (cwV 2 hts (gwV good_Vq (u_Vq_Tu _ k_Tu_84) (u_Vq_Tu _ k_Tu_85) (u_Vq_Tu _ k_Tu_168) (u_Vq_Tu _ k_Tu_0) (wcs (u_Vq_Tu _ k_Tu_86) (fun _ h => h))) rfl rfl rfl (by decide +kernel) ⟨Nat.le_of_ble_eq_true rfl, Nat.le_of_ble_eq_true rfl⟩) (pv_ofE (X.same _) (fun U z1 z2 => X.mono _ _ U hFc (hEw _ _ hS U z1 z2)) hP hK hD (va_recv hK hP (ci := 10) (q0 := 8) rfl rfl)) rfl rfl hl.1 rfl (lv_room (Nat.le_of_ble_eq_true rfl)) d_Tu_buildIndirects_86 ⟨by decide, by decide⟩) hS (fun q _ h => hFc q h) hFc (fun u t H locs ht hvm hw hB hz1 hk1 hS => ?_)
        obtain ⟨hP, -, hD⟩ := hB
        rw [ht] at hP
        have hD := lx_dj hD hFc
        obtain ⟨x_15, ex_15, h⟩ := lf_lX h
        refine lv_iinc (v := x_15) (lv' := [(4, .int x_15), (0, .ref M.o_Tu), (2, .int y_2), (3, .int y_3)]) hx hb d_Tu_buildIndirects_89 hl (k := 3) rfl (by rw [ex_15]; rfl) (by decide) rfl (fun ls hl => ?_)
        refine lv_goto (tgt := 62) hx hb d_Tu_buildIndirects_92 (by decide) ?_
        exact hr_62 y_2 y_3 x_15 S_14 _ _ _ h hP hD hS (lv_sub hl [1, 2, 3, 0] rfl)
  have hB_50 : ∀ (y_2 : Int32) (y_3 : Int32) (S : CS) (H : Heap) (locs : List Loc) (ls : Array Slot), f_Tu_buildIndirects_50 K G y_2 y_3 S = some S' → va_P (dC, dI) classes (wV M Y G S) H → va_D A (wV M Y G S) → va_S A s.heap H locs → lv_has ls 5 [(0, .ref M.o_Tu), (2, .int y_2), (3, .int y_3)] → W p l e ({ frames := 3, cells := 0, slots := 0, locals := 104 }) s m ([.ref M.o_Tu, .int p0] : List Value).toArray below meth c H locs 0 0 Q (F0 m 50 ls []) := by
    intro y_2 y_3 S H locs ls h hP hD hS hl
    rw [f_Tu_buildIndirects_50] at h
    refine lv_iload_n hx hb d_Tu_buildIndirects_50 rfl (lv_at hl 2 rfl) ?_
    refine lv_iconst (v := 1) hx hb d_Tu_buildIndirects_51 (by decide) ?_
    refine lv_icmp_le (tgt := 109) hx hb d_Tu_buildIndirects_52 (by decide) (fun c_8 => ?_) (fun c_8 => ?_)
    · have h := lf_t h c_8
      exact hB_109 y_2 y_3 S _ _ _ h hP hD hS (lv_sub hl [0, 1, 2] rfl)
    · have h := lf_f h c_8
      refine lv_aload_n hx hb d_Tu_buildIndirects_55 rfl (lv_at hl 0 rfl) ?_
      obtain ⟨S_9, hc_9, h⟩ := lf_bE h
      have hFc := lx_free hD hS hA
      refine va_callv (va_runV (As := []) (rest := []) ⟨hx, hb, hml, hown, hts⟩ (l_Tu_empty l dC dI X _ hc_9) (cwV 0 hts (gwV good_Vq (u_Vq_Tu _ k_Tu_57) (u_Vq_Tu _ k_Tu_58) (u_Vq_Tu _ k_Tu_164) (u_Vq_Tu _ k_Tu_0) (wcs (u_Vq_Tu _ k_Tu_59) (fun _ h => h))) rfl rfl rfl (by decide +kernel) ⟨Nat.le_of_ble_eq_true rfl, Nat.le_of_ble_eq_true rfl⟩) (pv_ofE (X.same _) (fun U z1 z2 => X.mono _ _ U hFc (hEw _ _ hS U z1 z2)) hP hK hD (va_recv hK hP (ci := 10) (q0 := 8) rfl rfl)) rfl rfl hl.1 rfl (lv_room (Nat.le_of_ble_eq_true rfl)) d_Tu_buildIndirects_56 ⟨by decide, by decide⟩) hS (fun q _ h => hFc q h) hFc (fun u t H locs ht hvm hw hB hz1 hk1 hS => ?_)
      obtain ⟨hP, -, hD⟩ := hB
      rw [ht] at hP
      have hD := lx_dj hD hFc
      refine lv_iconst (v := 2) hx hb d_Tu_buildIndirects_59 (by decide) ?_
      refine lv_istore (lv' := [(4, .int 2), (0, .ref M.o_Tu), (2, .int y_2), (3, .int y_3)]) hx hb d_Tu_buildIndirects_60 hl (by decide) rfl (fun ls hl => ?_)
      exact hB_62 K y_2 y_3 2 S_9 _ _ _ h hP hD hS (lv_sub hl [1, 2, 3, 0] rfl)
  rw [f_Tu_buildIndirects] at h
  refine lv_aload_n hx hb d_Tu_buildIndirects_0 rfl (lv_at hl 0 rfl) ?_
  refine va_get (D := (dC, dI)) (ci := 10) (v := .ref M.o_Pl) (C := R_Tu) (T := F_Tu) (N := 7) hx hb hts (fun w h => u_Vq_Tu w (i_Tu w h)) hown hK hP 8 rfl rfl 4 (by decide) (hts _ (u_Vq_Tu _ k_Tu_21)) (fun _ h9 => h9) rfl d_Tu_buildIndirects_1 ?_
  refine lv_iload_n hx hb d_Tu_buildIndirects_4 rfl (lv_at hl 1 rfl) ?_
  obtain ⟨S_1, hc_1, h⟩ := lf_bE h
  have hFc := lx_free hD hS hA
  refine va_callv (va_runV (As := [.int p0]) (rest := []) ⟨hx, hb, hml, hown, hts⟩ (l_Pl_gather l dC dI X _ hc_1) (cwV 1 hts (gwV good_Vq (u_Vq_Tu _ k_Tu_96) (u_Vq_Pl _ k_Pl_90) (u_Vq_Pl _ k_Pl_91) (u_Vq_Pl _ k_Pl_0) (wcs (u_Vq_Pl _ k_Pl_92) (fun _ h => h))) rfl rfl rfl (by decide +kernel) ⟨Nat.le_of_ble_eq_true rfl, Nat.le_of_ble_eq_true rfl⟩) (pv_ofE (X.same _) (fun U z1 z2 => X.mono _ _ U hFc (hEw _ _ hS U z1 z2)) hP hK hD (va_recv hK hP (ci := 9) (q0 := 7) rfl rfl)) rfl rfl hl.1 rfl (lv_room (Nat.le_of_ble_eq_true rfl)) d_Tu_buildIndirects_5 ⟨by decide, by decide⟩) hS (fun q _ h => hFc q h) hFc (fun u t H locs ht hvm hw hB hz1 hk1 hS => ?_)
  obtain ⟨hP, -, hD⟩ := hB
  rw [ht] at hP
  have hD := lx_dj hD hFc
  refine lv_aload_n hx hb d_Tu_buildIndirects_8 rfl (lv_at hl 0 rfl) ?_
  refine va_get (D := (dC, dI)) (ci := 10) (v := .ref M.o_Pl) (C := R_Tu) (T := F_Tu) (N := 7) hx hb hts (fun w h => u_Vq_Tu w (i_Tu w h)) hown hK hP 8 rfl rfl 4 (by decide) (hts _ (u_Vq_Tu _ k_Tu_21)) (fun _ h9 => h9) rfl d_Tu_buildIndirects_9 ?_
  refine lv_iload_n hx hb d_Tu_buildIndirects_12 rfl (lv_at hl 1 rfl) ?_
  obtain ⟨r_2, S_2, hc_2, h⟩ := lf_cE h
  have hFc := lx_free hD hS hA
  refine va_calli (va_runV (As := [.int p0]) (rest := []) ⟨hx, hb, hml, hown, hts⟩ (l_Pl_firstIndirect l dC dI X _ hc_2) (cwV 1 hts (gwV good_Vq (u_Vq_Tu _ k_Tu_97) (u_Vq_Pl _ k_Pl_139) (u_Vq_Pl _ k_Pl_140) (u_Vq_Pl _ k_Pl_0) (wcs (u_Vq_Pl _ k_Pl_141) (fun _ h => h))) rfl rfl rfl (by decide +kernel) ⟨Nat.le_of_ble_eq_true rfl, Nat.le_of_ble_eq_true rfl⟩) (pv_ofE (X.same _) (fun U z1 z2 => X.mono _ _ U hFc (hEw _ _ hS U z1 z2)) hP hK hD (va_recv hK hP (ci := 9) (q0 := 7) rfl rfl)) rfl rfl hl.1 rfl (lv_room (Nat.le_of_ble_eq_true rfl)) d_Tu_buildIndirects_13 ⟨by decide, by decide⟩) hS (fun q _ h => hFc q h) hFc (fun r_ u t H locs ht hvm hw hB hz1 hk1 hS => ?_)
  rw [hw]
  obtain ⟨hP, -, hD⟩ := hB
  rw [ht] at hP
  have hD := lx_dj hD hFc
  refine lv_istore_n (lv' := [(2, .int r_2), (0, .ref M.o_Tu), (1, .int p0)]) hx hb d_Tu_buildIndirects_16 rfl hl (by decide) rfl (fun ls hl => ?_)
  refine lv_aload_n hx hb d_Tu_buildIndirects_17 rfl (lv_at hl 1 rfl) ?_
  refine va_get (D := (dC, dI)) (ci := 10) (v := .ref M.o_Pl) (C := R_Tu) (T := F_Tu) (N := 7) hx hb hts (fun w h => u_Vq_Tu w (i_Tu w h)) hown hK hP 8 rfl rfl 4 (by decide) (hts _ (u_Vq_Tu _ k_Tu_21)) (fun _ h9 => h9) rfl d_Tu_buildIndirects_18 ?_
  refine va_get (D := (dC, dI)) (ci := 9) (v := .int S_2.v_Pl_listed) (C := R_Pl) (T := F_Pl) (N := 17) hx hb hts (fun w h => u_Vq_Pl w (i_Pl w h)) hown hK hP 7 rfl rfl 10 (by decide) (hts _ (u_Vq_Tu _ k_Tu_8)) (fun _ h9 => h9) rfl d_Tu_buildIndirects_21 ?_
  obtain ⟨r_3, hc_3, h⟩ := lf_bE h
  have hFc := lx_free0 hS hA
  refine va_calli (va_runS (As := [.int S_2.v_Pl_listed]) (rest := []) ⟨hx, hb, hml, hown, hts⟩ (l_Pl_indirects l dC dI  _ hc_3) (va_cwS 1 hts (gwS good_Vq (u_Vq_Tu _ k_Tu_98) (u_Vq_Pl _ k_Pl_111) (u_Vq_Pl _ k_Pl_0) (wcs (u_Vq_Pl _ k_Pl_112) (fun _ h => h))) rfl rfl rfl (by decide +kernel) ⟨Nat.le_of_ble_eq_true rfl, Nat.le_of_ble_eq_true rfl⟩) (ps_of (W := []) (tys := []) (hP.sub (ws' := []) [] rfl) (hK.sub [] rfl) (hD.sub (ws' := []) [] (by decide) rfl)) rfl rfl hl.1 rfl (lv_room (Nat.le_of_ble_eq_true rfl)) d_Tu_buildIndirects_24 ⟨by decide, by decide⟩) hS (fun q _ h => hFc q h) hFc (fun r_ u t H locs ht hvm hw hB hz1 hk1 hS => ?_)
  rw [hw]
  have hP := lx_stat (A := A) hP hk1
  refine lv_istore_n (lv' := [(3, .int r_3), (2, .int r_2), (0, .ref M.o_Tu), (1, .int p0)]) hx hb d_Tu_buildIndirects_27 rfl hl (by decide) rfl (fun ls hl => ?_)
  refine lv_iload_n hx hb d_Tu_buildIndirects_28 rfl (lv_at hl 0 rfl) ?_
  refine lv_if_le (tgt := 50) hx hb d_Tu_buildIndirects_29 (by decide) (fun c_4 => ?_) (fun c_4 => ?_)
  · have h := lf_t h c_4
    exact hB_50 r_2 r_3 S_2 _ _ _ h hP hD hS (lv_sub hl [2, 1, 0] rfl)
  · have h := lf_f h c_4
    refine lv_aload_n hx hb d_Tu_buildIndirects_32 rfl (lv_at hl 2 rfl) ?_
    refine lv_bipush (v := 12) hx hb d_Tu_buildIndirects_33 (by decide) ?_
    obtain ⟨S_5, hc_5, h⟩ := lf_bE h
    have hFc := lx_free hD hS hA
    refine va_callv (va_runV (As := [.int 12]) (rest := []) ⟨hx, hb, hml, hown, hts⟩ (l_Tu_putPointers l dC dI X _ hc_5) (cwV 1 hts (gwV good_Vq (u_Vq_Tu _ k_Tu_99) (u_Vq_Tu _ k_Tu_100) (u_Vq_Tu _ k_Tu_172) (u_Vq_Tu _ k_Tu_0) (wcs (u_Vq_Tu _ k_Tu_101) (fun _ h => h))) rfl rfl rfl (by decide +kernel) ⟨Nat.le_of_ble_eq_true rfl, Nat.le_of_ble_eq_true rfl⟩) (pv_ofE (X.same _) (fun U z1 z2 => X.mono _ _ U hFc (hEw _ _ hS U z1 z2)) hP hK hD (va_recv hK hP (ci := 10) (q0 := 8) rfl rfl)) rfl rfl hl.1 rfl (lv_room (Nat.le_of_ble_eq_true rfl)) d_Tu_buildIndirects_35 ⟨by decide, by decide⟩) hS (fun q _ h => hFc q h) hFc (fun u t H locs ht hvm hw hB hz1 hk1 hS => ?_)
    obtain ⟨hP, -, hD⟩ := hB
    rw [ht] at hP
    have hD := lx_dj hD hFc
    refine lv_aload_n hx hb d_Tu_buildIndirects_38 rfl (lv_at hl 2 rfl) ?_
    refine lv_aload_n hx hb d_Tu_buildIndirects_39 rfl (lv_at hl 2 rfl) ?_
    refine va_get (D := (dC, dI)) (ci := 10) (v := .ref M.o_Pl) (C := R_Tu) (T := F_Tu) (N := 7) hx hb hts (fun w h => u_Vq_Tu w (i_Tu w h)) hown hK hP 8 rfl rfl 4 (by decide) (hts _ (u_Vq_Tu _ k_Tu_21)) (fun _ h9 => h9) rfl d_Tu_buildIndirects_40 ?_
    refine lv_iload_n hx hb d_Tu_buildIndirects_43 rfl (lv_at hl 1 rfl) ?_
    obtain ⟨r_6, S_6, hc_6, h⟩ := lf_cE h
    have hFc := lx_free hD hS hA
    refine va_calli (va_runV (As := [.int r_2]) (rest := [.ref M.o_Tu]) ⟨hx, hb, hml, hown, hts⟩ (l_Pl_room l dC dI X _ hc_6) (cwV 1 hts (gwV good_Vq (u_Vq_Tu _ k_Tu_37) (u_Vq_Pl _ k_Pl_96) (u_Vq_Pl _ k_Pl_97) (u_Vq_Pl _ k_Pl_0) (wcs (u_Vq_Pl _ k_Pl_98) (fun _ h => h))) rfl rfl rfl (by decide +kernel) ⟨Nat.le_of_ble_eq_true rfl, Nat.le_of_ble_eq_true rfl⟩) (pv_ofE (X.same _) (fun U z1 z2 => X.mono _ _ U hFc (hEw _ _ hS U z1 z2)) hP hK hD (va_recv hK hP (ci := 9) (q0 := 7) rfl rfl)) rfl rfl hl.1 rfl (lv_room (Nat.le_of_ble_eq_true rfl)) d_Tu_buildIndirects_44 ⟨by decide, by decide⟩) hS (fun q _ h => hFc q h) hFc (fun r_ u t H locs ht hvm hw hB hz1 hk1 hS => ?_)
    rw [hw]
    obtain ⟨hP, -, hD⟩ := hB
    rw [ht] at hP
    have hD := lx_dj hD hFc
    obtain ⟨S_7, hc_7, h⟩ := lf_bE h
    have hFc := lx_free hD hS hA
    refine va_callv (va_runV (As := [.int r_6]) (rest := []) ⟨hx, hb, hml, hown, hts⟩ (l_Tu_storeBlock l dC dI X _ hc_7) (cwV 1 hts (gwV good_Vq (u_Vq_Tu _ k_Tu_72) (u_Vq_Tu _ k_Tu_73) (u_Vq_Tu _ k_Tu_165) (u_Vq_Tu _ k_Tu_0) (wcs (u_Vq_Tu _ k_Tu_74) (fun _ h => h))) rfl rfl rfl (by decide +kernel) ⟨Nat.le_of_ble_eq_true rfl, Nat.le_of_ble_eq_true rfl⟩) (pv_ofE (X.same _) (fun U z1 z2 => X.mono _ _ U hFc (hEw _ _ hS U z1 z2)) hP hK hD (va_recv hK hP (ci := 10) (q0 := 8) rfl rfl)) rfl rfl hl.1 rfl (lv_room (Nat.le_of_ble_eq_true rfl)) d_Tu_buildIndirects_47 ⟨by decide, by decide⟩) hS (fun q _ h => hFc q h) hFc (fun u t H locs ht hvm hw hB hz1 hk1 hS => ?_)
    obtain ⟨hP, -, hD⟩ := hB
    rw [ht] at hP
    have hD := lx_dj hD hFc
    exact hB_50 r_2 r_3 S_7 _ _ _ h hP hD hS (lv_sub hl [2, 1, 0] rfl)
set_option maxHeartbeats 4000000 in
set_option maxRecDepth 100000 in
theorem l_Tu_prepare (l : Launch) (dC : Nat → ClassId) (dI : Nat → Nat → Nat) {K : Nat} {M : CA} {E : (Nat → Prop) → State → Prop} (X : ly_X l dC dI K M E) (sz : Nat) {Y : CT} {G : CG} {S S' : CS} (h : f_Tu_prepare K G S = some S') : Met l y_Tu_prepare (.code y_Tu_prepare cb_Tu_prepare 2 none :: V_Vq) ({ frames := 10, cells := 0, slots := 0, locals := 296 }) (va_Pc [.ref M.o_Tu] (fun U => U.heap.size = sz ∧ at_ (dC, dI) (fun _ => True) (wV M Y G S) (tV M) U ∧ E (va_A (wV M Y G S) sz) U)) (va_Qv (fun (u : Unit) => True) (fun (u : Unit) t => at_ (dC, dI) (va_A (wV M Y G S) sz) (wV M Y G S') (tV M) t) (va_A (wV M Y G S) sz)) 0 0 (va_A (wV M Y G S) sz) := by
  refine Met.ofW (cc := cb_Tu_prepare) (maxL := 2) (ret := none) (by decide) rfl ?_
  intro p e s m args below meth c s₁ B hml hv
  obtain ⟨rfl, hsz, ⟨hP, hK, hD0⟩, hE⟩ := hv
  have hx := B.exec
  have hb := B.bytes
  have hr := B.returns
  have hts0 := atoms_spec (ws := .code y_Tu_prepare cb_Tu_prepare 2 none :: V_Vq) B.pre
  have hts : ∀ w ∈ V_Vq, w.before ([.ref M.o_Tu] : List Value).toArray s = true := fun w h => hts0 w (List.mem_cons_of_mem _ h)
  have hown : s.vm.findClass R_Tu = some m.cls := findClass_of_methodNamed B.named
  subst hsz
  have hD := hD0.self (sz := s.heap.size)
  generalize hAe : va_A (wV M Y G S) s.heap.size = A at hD hE ⊢
  have hA : ∀ q : Nat, s.heap.size ≤ q → A q := fun q h => by rw [← hAe]; exact Or.inr h
  have hS : va_S A s.heap s.heap [] := va_S.rf
  have hP : va_P (dC, dI) classes (wV M Y G S) s.heap := hP
  have hK : va_K (dC, dI) classes (tV M) s := hK
  have hEw : ∀ (H : Heap) (locs : List Loc), va_S A s.heap H locs → ∀ U : State, U.heap = H → s.WarmedH U.vm → E A U := fun H locs hS U hU hW => X.kept A s U H locs hE hS hU hW
  have hl := lv_entry ([.ref M.o_Tu]) (n := 2) (Nat.le_of_ble_eq_true rfl)
  rw [lg_entry_eq]
  generalize (lg_sl ([.ref M.o_Tu]) ++ List.replicate (2 - (lg_sl ([.ref M.o_Tu])).length) Slot.unset).toArray = ls at hl ⊢
  have hl : lv_has ls 2 [(0, .ref M.o_Tu)] := hl
  refine qabs (fun Q hQ => ?_)
  have hB_49 : ∀ (rec_2 : Int32 → CS → Option (CS)) (hr_2 : ∀ (y_1 : Int32) (S : CS) (H : Heap) (locs : List Loc) (ls : Array Slot), rec_2 y_1 S = some S' → va_P (dC, dI) classes (wV M Y G S) H → va_D A (wV M Y G S) → va_S A s.heap H locs → lv_has ls 2 [(0, .ref M.o_Tu), (1, .int y_1)] → W p l e ({ frames := 10, cells := 0, slots := 0, locals := 296 }) s m ([.ref M.o_Tu] : List Value).toArray below meth c H locs 0 0 Q (F0 m 2 ls [])), ∀ (y_1 : Int32) (S : CS) (H : Heap) (locs : List Loc) (ls : Array Slot), f_Tu_prepare_49 K G rec_2 y_1 S = some S' → va_P (dC, dI) classes (wV M Y G S) H → va_D A (wV M Y G S) → va_S A s.heap H locs → lv_has ls 2 [(0, .ref M.o_Tu), (1, .int y_1)] → W p l e ({ frames := 10, cells := 0, slots := 0, locals := 296 }) s m ([.ref M.o_Tu] : List Value).toArray below meth c H locs 0 0 Q (F0 m 49 ls []) := by
    intro rec_2 hr_2 y_1 S H locs ls h hP hD hS hl
    rw [f_Tu_prepare_49] at h
    obtain ⟨x_9, ex_9, h⟩ := lf_lX h
    refine lv_iinc (v := x_9) (lv' := [(1, .int x_9), (0, .ref M.o_Tu)]) hx hb d_Tu_prepare_49 hl (k := 1) rfl (by rw [ex_9]; rfl) (by decide) rfl (fun ls hl => ?_)
    refine lv_goto (tgt := 2) hx hb d_Tu_prepare_52 (by decide) ?_
    exact hr_2 x_9 S _ _ _ h hP hD hS (lv_sub hl [1, 0] rfl)
  have hB_98 : ∀ (rec_61 : Int32 → CS → Option (CS)) (hr_61 : ∀ (y_1 : Int32) (S : CS) (H : Heap) (locs : List Loc) (ls : Array Slot), rec_61 y_1 S = some S' → va_P (dC, dI) classes (wV M Y G S) H → va_D A (wV M Y G S) → va_S A s.heap H locs → lv_has ls 2 [(0, .ref M.o_Tu), (1, .int y_1)] → W p l e ({ frames := 10, cells := 0, slots := 0, locals := 296 }) s m ([.ref M.o_Tu] : List Value).toArray below meth c H locs 0 0 Q (F0 m 61 ls [])), ∀ (y_1 : Int32) (S : CS) (H : Heap) (locs : List Loc) (ls : Array Slot), f_Tu_prepare_98 K G rec_61 y_1 S = some S' → va_P (dC, dI) classes (wV M Y G S) H → va_D A (wV M Y G S) → va_S A s.heap H locs → lv_has ls 2 [(0, .ref M.o_Tu), (1, .int y_1)] → W p l e ({ frames := 10, cells := 0, slots := 0, locals := 296 }) s m ([.ref M.o_Tu] : List Value).toArray below meth c H locs 0 0 Q (F0 m 98 ls []) := by
    intro rec_61 hr_61 y_1 S H locs ls h hP hD hS hl
    rw [f_Tu_prepare_98] at h
    refine lv_aload_n hx hb d_Tu_prepare_98 rfl (lv_at hl 0 rfl) ?_
    refine lv_iload_n hx hb d_Tu_prepare_99 rfl (lv_at hl 1 rfl) ?_
    obtain ⟨S_21, hc_21, h⟩ := lf_bE h
    have hFc := lx_free hD hS hA
    refine va_callv (va_runV (As := [.int y_1]) (rest := []) ⟨hx, hb, hml, hown, hts⟩ (l_Tu_buildIndirects l dC dI X _ hc_21) (cwV 1 hts (gwV good_Vq (u_Vq_Tu _ k_Tu_93) (u_Vq_Tu _ k_Tu_94) (u_Vq_Tu _ k_Tu_171) (u_Vq_Tu _ k_Tu_0) (wcs (u_Vq_Tu _ k_Tu_95) (fun _ h => h))) rfl rfl rfl (by decide +kernel) ⟨Nat.le_of_ble_eq_true rfl, Nat.le_of_ble_eq_true rfl⟩) (pv_ofE (X.same _) (fun U z1 z2 => X.mono _ _ U hFc (hEw _ _ hS U z1 z2)) hP hK hD (va_recv hK hP (ci := 10) (q0 := 8) rfl rfl)) rfl rfl hl.1 rfl (lv_room (Nat.le_of_ble_eq_true rfl)) d_Tu_prepare_100 ⟨by decide, by decide⟩) hS (fun q _ h => hFc q h) hFc (fun u t H locs ht hvm hw hB hz1 hk1 hS => ?_)
    obtain ⟨hP, -, hD⟩ := hB
    rw [ht] at hP
    have hD := lx_dj hD hFc
    obtain ⟨x_22, ex_22, h⟩ := lf_lX h
    refine lv_iinc (v := x_22) (lv' := [(1, .int x_22), (0, .ref M.o_Tu)]) hx hb d_Tu_prepare_103 hl (k := 1) rfl (by rw [ex_22]; rfl) (by decide) rfl (fun ls hl => ?_)
    refine lv_goto (tgt := 61) hx hb d_Tu_prepare_106 (by decide) ?_
    exact hr_61 x_22 S_21 _ _ _ h hP hD hS (lv_sub hl [1, 0] rfl)
  have hB_109 : ∀ (S : CS) (H : Heap) (locs : List Loc) (ls : Array Slot), f_Tu_prepare_109 K G S = some S' → va_P (dC, dI) classes (wV M Y G S) H → va_D A (wV M Y G S) → va_S A s.heap H locs → lv_has ls 2 [(0, .ref M.o_Tu)] → W p l e ({ frames := 10, cells := 0, slots := 0, locals := 296 }) s m ([.ref M.o_Tu] : List Value).toArray below meth c H locs 0 0 Q (F0 m 109 ls []) := by
    intro S H locs ls h hP hD hS hl
    rw [f_Tu_prepare_109] at h
    refine lv_aload_n hx hb d_Tu_prepare_109 rfl (lv_at hl 0 rfl) ?_
    obtain ⟨S_16, hc_16, h⟩ := lf_bE h
    have hFc := lx_free hD hS hA
    refine va_callv (va_runV (As := []) (rest := []) ⟨hx, hb, hml, hown, hts⟩ (l_Tu_empty l dC dI X _ hc_16) (cwV 0 hts (gwV good_Vq (u_Vq_Tu _ k_Tu_57) (u_Vq_Tu _ k_Tu_58) (u_Vq_Tu _ k_Tu_164) (u_Vq_Tu _ k_Tu_0) (wcs (u_Vq_Tu _ k_Tu_59) (fun _ h => h))) rfl rfl rfl (by decide +kernel) ⟨Nat.le_of_ble_eq_true rfl, Nat.le_of_ble_eq_true rfl⟩) (pv_ofE (X.same _) (fun U z1 z2 => X.mono _ _ U hFc (hEw _ _ hS U z1 z2)) hP hK hD (va_recv hK hP (ci := 10) (q0 := 8) rfl rfl)) rfl rfl hl.1 rfl (lv_room (Nat.le_of_ble_eq_true rfl)) d_Tu_prepare_110 ⟨by decide, by decide⟩) hS (fun q _ h => hFc q h) hFc (fun u t H locs ht hvm hw hB hz1 hk1 hS => ?_)
    obtain ⟨hP, -, hD⟩ := hB
    rw [ht] at hP
    have hD := lx_dj hD hFc
    refine lv_aload_n hx hb d_Tu_prepare_113 rfl (lv_at hl 0 rfl) ?_
    refine lv_iconst (v := 0) hx hb d_Tu_prepare_114 (by decide) ?_
    refine lv_ldc (v := 1314018644) hx hb hown (hts _ (u_Vq_Tu _ k_Tu_102)) d_Tu_prepare_115 ?_
    obtain ⟨S_17, hc_17, h⟩ := lf_bE h
    have hFc := lx_free hD hS hA
    refine va_callv (va_runV (As := [.int 0, .int 1314018644]) (rest := []) ⟨hx, hb, hml, hown, hts⟩ (l_Tu_putFour l dC dI X _ hc_17) (cwV 2 hts (gwV good_Vq (u_Vq_Tu _ k_Tu_84) (u_Vq_Tu _ k_Tu_85) (u_Vq_Tu _ k_Tu_168) (u_Vq_Tu _ k_Tu_0) (wcs (u_Vq_Tu _ k_Tu_86) (fun _ h => h))) rfl rfl rfl (by decide +kernel) ⟨Nat.le_of_ble_eq_true rfl, Nat.le_of_ble_eq_true rfl⟩) (pv_ofE (X.same _) (fun U z1 z2 => X.mono _ _ U hFc (hEw _ _ hS U z1 z2)) hP hK hD (va_recv hK hP (ci := 10) (q0 := 8) rfl rfl)) rfl rfl hl.1 rfl (lv_room (Nat.le_of_ble_eq_true rfl)) d_Tu_prepare_117 ⟨by decide, by decide⟩) hS (fun q _ h => hFc q h) hFc (fun u t H locs ht hvm hw hB hz1 hk1 hS => ?_)
    obtain ⟨hP, -, hD⟩ := hB
    rw [ht] at hP
    have hD := lx_dj hD hFc
    refine lv_aload_n hx hb d_Tu_prepare_120 rfl (lv_at hl 0 rfl) ?_
    refine lv_iconst (v := 4) hx hb d_Tu_prepare_121 (by decide) ?_
    refine lv_aload_n hx hb d_Tu_prepare_122 rfl (lv_at hl 0 rfl) ?_
    refine va_get (D := (dC, dI)) (ci := 10) (v := .ref M.o_Pl) (C := R_Tu) (T := F_Tu) (N := 7) hx hb hts (fun w h => u_Vq_Tu w (i_Tu w h)) hown hK hP 8 rfl rfl 4 (by decide) (hts _ (u_Vq_Tu _ k_Tu_21)) (fun _ h9 => h9) rfl d_Tu_prepare_123 ?_
    refine va_get (D := (dC, dI)) (ci := 9) (v := .int S_17.v_Pl_size) (C := R_Pl) (T := F_Pl) (N := 17) hx hb hts (fun w h => u_Vq_Pl w (i_Pl w h)) hown hK hP 7 rfl rfl 11 (by decide) (hts _ (u_Vq_Tu _ k_Tu_9)) (fun _ h9 => h9) rfl d_Tu_prepare_126 ?_
    obtain ⟨S_18, hc_18, h⟩ := lf_bE h
    have hFc := lx_free hD hS hA
    refine va_callv (va_runV (As := [.int 4, .int S_17.v_Pl_size]) (rest := []) ⟨hx, hb, hml, hown, hts⟩ (l_Tu_putFour l dC dI X _ hc_18) (cwV 2 hts (gwV good_Vq (u_Vq_Tu _ k_Tu_84) (u_Vq_Tu _ k_Tu_85) (u_Vq_Tu _ k_Tu_168) (u_Vq_Tu _ k_Tu_0) (wcs (u_Vq_Tu _ k_Tu_86) (fun _ h => h))) rfl rfl rfl (by decide +kernel) ⟨Nat.le_of_ble_eq_true rfl, Nat.le_of_ble_eq_true rfl⟩) (pv_ofE (X.same _) (fun U z1 z2 => X.mono _ _ U hFc (hEw _ _ hS U z1 z2)) hP hK hD (va_recv hK hP (ci := 10) (q0 := 8) rfl rfl)) rfl rfl hl.1 rfl (lv_room (Nat.le_of_ble_eq_true rfl)) d_Tu_prepare_129 ⟨by decide, by decide⟩) hS (fun q _ h => hFc q h) hFc (fun u t H locs ht hvm hw hB hz1 hk1 hS => ?_)
    obtain ⟨hP, -, hD⟩ := hB
    rw [ht] at hP
    have hD := lx_dj hD hFc
    refine lv_aload_n hx hb d_Tu_prepare_132 rfl (lv_at hl 0 rfl) ?_
    refine lv_bipush (v := 8) hx hb d_Tu_prepare_133 (by decide) ?_
    refine lv_aload_n hx hb d_Tu_prepare_135 rfl (lv_at hl 0 rfl) ?_
    refine va_get (D := (dC, dI)) (ci := 10) (v := .ref M.o_Pl) (C := R_Tu) (T := F_Tu) (N := 7) hx hb hts (fun w h => u_Vq_Tu w (i_Tu w h)) hown hK hP 8 rfl rfl 4 (by decide) (hts _ (u_Vq_Tu _ k_Tu_21)) (fun _ h9 => h9) rfl d_Tu_prepare_136 ?_
    refine va_get (D := (dC, dI)) (ci := 9) (v := .int S_18.v_Pl_inodes) (C := R_Pl) (T := F_Pl) (N := 17) hx hb hts (fun w h => u_Vq_Pl w (i_Pl w h)) hown hK hP 7 rfl rfl 13 (by decide) (hts _ (u_Vq_Tu _ k_Tu_11)) (fun _ h9 => h9) rfl d_Tu_prepare_139 ?_
    obtain ⟨S_19, hc_19, h⟩ := lf_bE h
    have hFc := lx_free hD hS hA
    refine va_callv (va_runV (As := [.int 8, .int S_18.v_Pl_inodes]) (rest := []) ⟨hx, hb, hml, hown, hts⟩ (l_Tu_putFour l dC dI X _ hc_19) (cwV 2 hts (gwV good_Vq (u_Vq_Tu _ k_Tu_84) (u_Vq_Tu _ k_Tu_85) (u_Vq_Tu _ k_Tu_168) (u_Vq_Tu _ k_Tu_0) (wcs (u_Vq_Tu _ k_Tu_86) (fun _ h => h))) rfl rfl rfl (by decide +kernel) ⟨Nat.le_of_ble_eq_true rfl, Nat.le_of_ble_eq_true rfl⟩) (pv_ofE (X.same _) (fun U z1 z2 => X.mono _ _ U hFc (hEw _ _ hS U z1 z2)) hP hK hD (va_recv hK hP (ci := 10) (q0 := 8) rfl rfl)) rfl rfl hl.1 rfl (lv_room (Nat.le_of_ble_eq_true rfl)) d_Tu_prepare_142 ⟨by decide, by decide⟩) hS (fun q _ h => hFc q h) hFc (fun u t H locs ht hvm hw hB hz1 hk1 hS => ?_)
    obtain ⟨hP, -, hD⟩ := hB
    rw [ht] at hP
    have hD := lx_dj hD hFc
    refine lv_aload_n hx hb d_Tu_prepare_145 rfl (lv_at hl 0 rfl) ?_
    refine va_get (D := (dC, dI)) (ci := 10) (v := .ref M.o_Dk) (C := R_Tu) (T := F_Tu) (N := 7) hx hb hts (fun w h => u_Vq_Tu w (i_Tu w h)) hown hK hP 8 rfl rfl 0 (by decide) (hts _ (u_Vq_Tu _ k_Tu_17)) (fun _ h9 => h9) rfl d_Tu_prepare_146 ?_
    refine lv_bipush (v := 7) hx hb d_Tu_prepare_149 (by decide) ?_
    refine lv_aload_n hx hb d_Tu_prepare_151 rfl (lv_at hl 0 rfl) ?_
    refine va_get (D := (dC, dI)) (ci := 10) (v := .ref M.a_Tu_block) (C := R_Tu) (T := F_Tu) (N := 7) hx hb hts (fun w h => u_Vq_Tu w (i_Tu w h)) hown hK hP 8 rfl rfl 6 (by decide) (hts _ (u_Vq_Tu _ k_Tu_23)) (fun _ h9 => h9) rfl d_Tu_prepare_152 ?_
    refine lv_iconst (v := 0) hx hb d_Tu_prepare_155 (by decide) ?_
    obtain ⟨S_20, hc_20, h⟩ := lf_bE h
    have hFc := lx_free hD hS hA
    refine va_callv (va_runV (As := [.int 7, .ref M.a_Tu_block, .int 0]) (rest := []) ⟨hx, hb, hml, hown, hts⟩ (l_Dk_store_Tublock l dC dI X _ hc_20) (cwV 3 hts (gwV good_Vq (u_Vq_Tu _ k_Tu_42) (u_Vq_Dk _ k_Dk_41) (u_Vq_Dk _ k_Dk_42) (u_Vq_Dk _ k_Dk_0) (wcs (u_Vq_Dk _ k_Dk_43) (fun _ h => h))) rfl rfl rfl (by decide +kernel) ⟨Nat.le_of_ble_eq_true rfl, Nat.le_of_ble_eq_true rfl⟩) (pv_ofE (X.same _) (fun U z1 z2 => X.mono _ _ U hFc (hEw _ _ hS U z1 z2)) hP hK hD (va_recv hK hP (ci := 0) (q0 := 1) rfl rfl)) rfl rfl hl.1 rfl (lv_room (Nat.le_of_ble_eq_true rfl)) d_Tu_prepare_156 ⟨by decide, by decide⟩) hS (fun q _ h => hFc q h) hFc (fun u t H locs ht hvm hw hB hz1 hk1 hS => ?_)
    obtain ⟨hP, -, hD⟩ := hB
    rw [ht] at hP
    have hD := lx_dj hD hFc
    rw [hQ]
    have e2 : S_20 = S' := Option.some.inj h
    have hP := ly_newP e2.symm hP
    have hD := ly_newD e2.symm hD
    exact W.vret hx hb hr (fun t ht hW => ⟨⟨(), rfl, trivial, by rw [ht]; exact hP, va_K.moved hW.alike hK, hD⟩, hS.F ht⟩) hS.2.2 d_Tu_prepare_159
  have hB_61 : ∀ (k : Nat), ∀ (y_1 : Int32) (S : CS) (H : Heap) (locs : List Loc) (ls : Array Slot), f_Tu_prepare_61 K G k y_1 S = some S' → va_P (dC, dI) classes (wV M Y G S) H → va_D A (wV M Y G S) → va_S A s.heap H locs → lv_has ls 2 [(0, .ref M.o_Tu), (1, .int y_1)] → W p l e ({ frames := 10, cells := 0, slots := 0, locals := 296 }) s m ([.ref M.o_Tu] : List Value).toArray below meth c H locs 0 0 Q (F0 m 61 ls []) := by
    intro k
    induction k with
    | zero => intro y_1 S H locs ls h; exact lf_no h
    | succ k hr_61 =>
      intro y_1 S H locs ls h hP hD hS hl
      rw [f_Tu_prepare_61] at h
      refine lv_iload_n hx hb d_Tu_prepare_61 rfl (lv_at hl 1 rfl) ?_
      refine lv_aload_n hx hb d_Tu_prepare_62 rfl (lv_at hl 0 rfl) ?_
      refine va_get (D := (dC, dI)) (ci := 10) (v := .ref M.o_Tr) (C := R_Tu) (T := F_Tu) (N := 7) hx hb hts (fun w h => u_Vq_Tu w (i_Tu w h)) hown hK hP 8 rfl rfl 2 (by decide) (hts _ (u_Vq_Tu _ k_Tu_19)) (fun _ h9 => h9) rfl d_Tu_prepare_63 ?_
      refine va_get (D := (dC, dI)) (ci := 5) (v := .int S.v_Tr_count) (C := R_Tr) (T := F_Tr) (N := 18) hx hb hts (fun w h => u_Vq_Tr w (i_Tr w h)) hown hK hP 4 rfl rfl 0 (by decide) (hts _ (u_Vq_Tu _ k_Tu_4)) (fun _ h9 => h9) rfl d_Tu_prepare_66 ?_
      refine lv_icmp_ge (tgt := 109) hx hb d_Tu_prepare_69 (by decide) (fun c_10 => ?_) (fun c_10 => ?_)
      · have h := lf_t h c_10
        exact hB_109 S _ _ _ h hP hD hS (lv_sub hl [0] rfl)
      · have h := lf_f h c_10
        refine lv_aload_n hx hb d_Tu_prepare_72 rfl (lv_at hl 0 rfl) ?_
        refine va_get (D := (dC, dI)) (ci := 10) (v := .ref M.o_Dk) (C := R_Tu) (T := F_Tu) (N := 7) hx hb hts (fun w h => u_Vq_Tu w (i_Tu w h)) hown hK hP 8 rfl rfl 0 (by decide) (hts _ (u_Vq_Tu _ k_Tu_17)) (fun _ h9 => h9) rfl d_Tu_prepare_73 ?_
        obtain ⟨r_11, S_11, hc_11, h⟩ := lf_cE h
        have hFc := lx_free hD hS hA
        refine va_calli (va_runV (As := []) (rest := []) ⟨hx, hb, hml, hown, hts⟩ (l_Dk_isOn l dC dI X _ hc_11) (cwV 0 hts (gwV good_Vq (u_Vq_Tu _ k_Tu_43) (u_Vq_Dk _ k_Dk_44) (u_Vq_Dk _ k_Dk_45) (u_Vq_Dk _ k_Dk_0) (wcs (u_Vq_Dk _ k_Dk_46) (fun _ h => h))) rfl rfl rfl (by decide +kernel) ⟨Nat.le_of_ble_eq_true rfl, Nat.le_of_ble_eq_true rfl⟩) (pv_ofE (X.same _) (fun U z1 z2 => X.mono _ _ U hFc (hEw _ _ hS U z1 z2)) hP hK hD (va_recv hK hP (ci := 0) (q0 := 1) rfl rfl)) rfl rfl hl.1 rfl (lv_room (Nat.le_of_ble_eq_true rfl)) d_Tu_prepare_76 ⟨by decide, by decide⟩) hS (fun q _ h => hFc q h) hFc (fun r_ u t H locs ht hvm hw hB hz1 hk1 hS => ?_)
        rw [hw]
        obtain ⟨hP, -, hD⟩ := hB
        rw [ht] at hP
        have hD := lx_dj hD hFc
        refine lv_if_eq (tgt := 109) hx hb d_Tu_prepare_79 (by decide) (fun c_12 => ?_) (fun c_12 => ?_)
        · have h := lf_t h c_12
          exact hB_109 S_11 _ _ _ h hP hD hS (lv_sub hl [0] rfl)
        · have h := lf_f h c_12
          refine lv_aload_n hx hb d_Tu_prepare_82 rfl (lv_at hl 0 rfl) ?_
          refine va_get (D := (dC, dI)) (ci := 10) (v := .ref M.o_Tr) (C := R_Tu) (T := F_Tu) (N := 7) hx hb hts (fun w h => u_Vq_Tu w (i_Tu w h)) hown hK hP 8 rfl rfl 2 (by decide) (hts _ (u_Vq_Tu _ k_Tu_19)) (fun _ h9 => h9) rfl d_Tu_prepare_83 ?_
          refine lv_iload_n hx hb d_Tu_prepare_86 rfl (lv_at hl 1 rfl) ?_
          obtain ⟨r_13, S_13, hc_13, h⟩ := lf_cE h
          have hFc := lx_free hD hS hA
          refine va_calli (va_runV (As := [.int y_1]) (rest := []) ⟨hx, hb, hml, hown, hts⟩ (l_Tr_isDirectory l dC dI X _ hc_13) (cwV 1 hts (gwV good_Vq (u_Vq_Tu _ k_Tu_61) (u_Vq_Tr _ k_Tr_42) (u_Vq_Tr _ k_Tr_43) (u_Vq_Tr _ k_Tr_0) (wcs (u_Vq_Tr _ k_Tr_44) (fun _ h => h))) rfl rfl rfl (by decide +kernel) ⟨Nat.le_of_ble_eq_true rfl, Nat.le_of_ble_eq_true rfl⟩) (pv_ofE (X.same _) (fun U z1 z2 => X.mono _ _ U hFc (hEw _ _ hS U z1 z2)) hP hK hD (va_recv hK hP (ci := 5) (q0 := 4) rfl rfl)) rfl rfl hl.1 rfl (lv_room (Nat.le_of_ble_eq_true rfl)) d_Tu_prepare_87 ⟨by decide, by decide⟩) hS (fun q _ h => hFc q h) hFc (fun r_ u t H locs ht hvm hw hB hz1 hk1 hS => ?_)
          rw [hw]
          obtain ⟨hP, -, hD⟩ := hB
          rw [ht] at hP
          have hD := lx_dj hD hFc
          refine lv_if_eq (tgt := 98) hx hb d_Tu_prepare_90 (by decide) (fun c_14 => ?_) (fun c_14 => ?_)
          · have h := lf_t h c_14
            exact hB_98 _ hr_61 y_1 S_13 _ _ _ h hP hD hS (lv_sub hl [0, 1] rfl)
          · have h := lf_f h c_14
            refine lv_aload_n hx hb d_Tu_prepare_93 rfl (lv_at hl 0 rfl) ?_
            refine lv_iload_n hx hb d_Tu_prepare_94 rfl (lv_at hl 1 rfl) ?_
            obtain ⟨S_15, hc_15, h⟩ := lf_bE h
            have hFc := lx_free hD hS hA
            refine va_callv (va_runV (As := [.int y_1]) (rest := []) ⟨hx, hb, hml, hown, hts⟩ (l_Tu_buildDirectory l dC dI X _ hc_15) (cwV 1 hts (gwV good_Vq (u_Vq_Tu _ k_Tu_62) (u_Vq_Tu _ k_Tu_63) (u_Vq_Tu _ k_Tu_169) (u_Vq_Tu _ k_Tu_0) (wcs (u_Vq_Tu _ k_Tu_64) (fun _ h => h))) rfl rfl rfl (by decide +kernel) ⟨Nat.le_of_ble_eq_true rfl, Nat.le_of_ble_eq_true rfl⟩) (pv_ofE (X.same _) (fun U z1 z2 => X.mono _ _ U hFc (hEw _ _ hS U z1 z2)) hP hK hD (va_recv hK hP (ci := 10) (q0 := 8) rfl rfl)) rfl rfl hl.1 rfl (lv_room (Nat.le_of_ble_eq_true rfl)) d_Tu_prepare_95 ⟨by decide, by decide⟩) hS (fun q _ h => hFc q h) hFc (fun u t H locs ht hvm hw hB hz1 hk1 hS => ?_)
            obtain ⟨hP, -, hD⟩ := hB
            rw [ht] at hP
            have hD := lx_dj hD hFc
            exact hB_98 _ hr_61 y_1 S_15 _ _ _ h hP hD hS (lv_sub hl [0, 1] rfl)
  have hB_55 : ∀ (S : CS) (H : Heap) (locs : List Loc) (ls : Array Slot), f_Tu_prepare_55 K G S = some S' → va_P (dC, dI) classes (wV M Y G S) H → va_D A (wV M Y G S) → va_S A s.heap H locs → lv_has ls 2 [(0, .ref M.o_Tu)] → W p l e ({ frames := 10, cells := 0, slots := 0, locals := 296 }) s m ([.ref M.o_Tu] : List Value).toArray below meth c H locs 0 0 Q (F0 m 55 ls []) := by
    intro S H locs ls h hP hD hS hl
    rw [f_Tu_prepare_55] at h
    refine lv_aload_n hx hb d_Tu_prepare_55 rfl (lv_at hl 0 rfl) ?_
    obtain ⟨S_8, hc_8, h⟩ := lf_bE h
    have hFc := lx_free hD hS hA
    refine va_callv (va_runV (As := []) (rest := []) ⟨hx, hb, hml, hown, hts⟩ (l_Tu_keepSectors l dC dI X _ hc_8) (cwV 0 hts (gwV good_Vq (u_Vq_Tu _ k_Tu_54) (u_Vq_Tu _ k_Tu_55) (u_Vq_Tu _ k_Tu_163) (u_Vq_Tu _ k_Tu_0) (wcs (u_Vq_Tu _ k_Tu_56) (fun _ h => h))) rfl rfl rfl (by decide +kernel) ⟨Nat.le_of_ble_eq_true rfl, Nat.le_of_ble_eq_true rfl⟩) (pv_ofE (X.same _) (fun U z1 z2 => X.mono _ _ U hFc (hEw _ _ hS U z1 z2)) hP hK hD (va_recv hK hP (ci := 10) (q0 := 8) rfl rfl)) rfl rfl hl.1 rfl (lv_room (Nat.le_of_ble_eq_true rfl)) d_Tu_prepare_56 ⟨by decide, by decide⟩) hS (fun q _ h => hFc q h) hFc (fun u t H locs ht hvm hw hB hz1 hk1 hS => ?_)
    obtain ⟨hP, -, hD⟩ := hB
    rw [ht] at hP
    have hD := lx_dj hD hFc
    refine lv_iconst (v := (-1)) hx hb d_Tu_prepare_59 (by decide) ?_
    refine lv_istore_n (lv' := [(1, .int ((-1))), (0, .ref M.o_Tu)]) hx hb d_Tu_prepare_60 rfl hl (by decide) rfl (fun ls hl => ?_)
    exact hB_61 K ((-1)) S_8 _ _ _ h hP hD hS (lv_sub hl [1, 0] rfl)
  have hB_2 : ∀ (k : Nat), ∀ (y_1 : Int32) (S : CS) (H : Heap) (locs : List Loc) (ls : Array Slot), f_Tu_prepare_2 K G k y_1 S = some S' → va_P (dC, dI) classes (wV M Y G S) H → va_D A (wV M Y G S) → va_S A s.heap H locs → lv_has ls 2 [(0, .ref M.o_Tu), (1, .int y_1)] → W p l e ({ frames := 10, cells := 0, slots := 0, locals := 296 }) s m ([.ref M.o_Tu] : List Value).toArray below meth c H locs 0 0 Q (F0 m 2 ls []) := by
    intro k
    induction k with
    | zero => intro y_1 S H locs ls h; exact lf_no h
    | succ k hr_2 =>
      intro y_1 S H locs ls h hP hD hS hl
      rw [f_Tu_prepare_2] at h
      refine lv_iload_n hx hb d_Tu_prepare_2 rfl (lv_at hl 1 rfl) ?_
      refine lv_aload_n hx hb d_Tu_prepare_3 rfl (lv_at hl 0 rfl) ?_
      refine va_get (D := (dC, dI)) (ci := 10) (v := .ref M.o_Tb) (C := R_Tu) (T := F_Tu) (N := 7) hx hb hts (fun w h => u_Vq_Tu w (i_Tu w h)) hown hK hP 8 rfl rfl 1 (by decide) (hts _ (u_Vq_Tu _ k_Tu_18)) (fun _ h9 => h9) rfl d_Tu_prepare_4 ?_
      refine va_get (D := (dC, dI)) (ci := 4) (v := .int S.v_Tb_clusters) (C := R_Tb) (T := F_Tb) (N := 10) hx hb hts (fun w h => u_Vq_Tb w (i_Tb w h)) hown hK hP 3 rfl rfl 7 (by decide) (hts _ (u_Vq_Tu _ k_Tu_3)) (fun _ h9 => h9) rfl d_Tu_prepare_7 ?_
      refine lv_iconst (v := 2) hx hb d_Tu_prepare_10 (by decide) ?_
      refine lv_iadd hx hb d_Tu_prepare_11 ?_
      refine lv_icmp_ge (tgt := 55) hx hb d_Tu_prepare_12 (by decide) (fun c_1 => ?_) (fun c_1 => ?_)
      · have h := lf_t h c_1
        exact hB_55 S _ _ _ h hP hD hS (lv_sub hl [0] rfl)
      · have h := lf_f h c_1
        refine lv_aload_n hx hb d_Tu_prepare_15 rfl (lv_at hl 0 rfl) ?_
        refine va_get (D := (dC, dI)) (ci := 10) (v := .ref M.o_Dk) (C := R_Tu) (T := F_Tu) (N := 7) hx hb hts (fun w h => u_Vq_Tu w (i_Tu w h)) hown hK hP 8 rfl rfl 0 (by decide) (hts _ (u_Vq_Tu _ k_Tu_17)) (fun _ h9 => h9) rfl d_Tu_prepare_16 ?_
        obtain ⟨r_2, S_2, hc_2, h⟩ := lf_cE h
        have hFc := lx_free hD hS hA
        refine va_calli (va_runV (As := []) (rest := []) ⟨hx, hb, hml, hown, hts⟩ (l_Dk_isOn l dC dI X _ hc_2) (cwV 0 hts (gwV good_Vq (u_Vq_Tu _ k_Tu_43) (u_Vq_Dk _ k_Dk_44) (u_Vq_Dk _ k_Dk_45) (u_Vq_Dk _ k_Dk_0) (wcs (u_Vq_Dk _ k_Dk_46) (fun _ h => h))) rfl rfl rfl (by decide +kernel) ⟨Nat.le_of_ble_eq_true rfl, Nat.le_of_ble_eq_true rfl⟩) (pv_ofE (X.same _) (fun U z1 z2 => X.mono _ _ U hFc (hEw _ _ hS U z1 z2)) hP hK hD (va_recv hK hP (ci := 0) (q0 := 1) rfl rfl)) rfl rfl hl.1 rfl (lv_room (Nat.le_of_ble_eq_true rfl)) d_Tu_prepare_19 ⟨by decide, by decide⟩) hS (fun q _ h => hFc q h) hFc (fun r_ u t H locs ht hvm hw hB hz1 hk1 hS => ?_)
        rw [hw]
        obtain ⟨hP, -, hD⟩ := hB
        rw [ht] at hP
        have hD := lx_dj hD hFc
        refine lv_if_eq (tgt := 55) hx hb d_Tu_prepare_22 (by decide) (fun c_3 => ?_) (fun c_3 => ?_)
        · have h := lf_t h c_3
          exact hB_55 S_2 _ _ _ h hP hD hS (lv_sub hl [0] rfl)
        · have h := lf_f h c_3
          refine lv_aload_n hx hb d_Tu_prepare_25 rfl (lv_at hl 0 rfl) ?_
          refine va_get (D := (dC, dI)) (ci := 10) (v := .ref M.o_Tb) (C := R_Tu) (T := F_Tu) (N := 7) hx hb hts (fun w h => u_Vq_Tu w (i_Tu w h)) hown hK hP 8 rfl rfl 1 (by decide) (hts _ (u_Vq_Tu _ k_Tu_18)) (fun _ h9 => h9) rfl d_Tu_prepare_26 ?_
          refine lv_iload_n hx hb d_Tu_prepare_29 rfl (lv_at hl 1 rfl) ?_
          obtain ⟨r_4, S_4, hc_4, h⟩ := lf_cE h
          have hFc := lx_free hD hS hA
          refine va_calli (va_runV (As := [.int y_1]) (rest := []) ⟨hx, hb, hml, hown, hts⟩ (l_Tb_goalOf l dC dI X _ hc_4) (cwV 1 hts (gwV good_Vq (u_Vq_Tu _ k_Tu_44) (u_Vq_Tb _ k_Tb_46) (u_Vq_Tb _ k_Tb_47) (u_Vq_Tb _ k_Tb_0) (wcs (u_Vq_Tb _ k_Tb_48) (fun _ h => h))) rfl rfl rfl (by decide +kernel) ⟨Nat.le_of_ble_eq_true rfl, Nat.le_of_ble_eq_true rfl⟩) (pv_ofE (X.same _) (fun U z1 z2 => X.mono _ _ U hFc (hEw _ _ hS U z1 z2)) hP hK hD (va_recv hK hP (ci := 4) (q0 := 3) rfl rfl)) rfl rfl hl.1 rfl (lv_room (Nat.le_of_ble_eq_true rfl)) d_Tu_prepare_30 ⟨by decide, by decide⟩) hS (fun q _ h => hFc q h) hFc (fun r_ u t H locs ht hvm hw hB hz1 hk1 hS => ?_)
          rw [hw]
          obtain ⟨hP, -, hD⟩ := hB
          rw [ht] at hP
          have hD := lx_dj hD hFc
          refine lv_if_eq (tgt := 49) hx hb d_Tu_prepare_33 (by decide) (fun c_5 => ?_) (fun c_5 => ?_)
          · have h := lf_t h c_5
            exact hB_49 _ hr_2 y_1 S_4 _ _ _ h hP hD hS (lv_sub hl [0, 1] rfl)
          · have h := lf_f h c_5
            refine lv_aload_n hx hb d_Tu_prepare_36 rfl (lv_at hl 0 rfl) ?_
            refine lv_iload_n hx hb d_Tu_prepare_37 rfl (lv_at hl 1 rfl) ?_
            refine lv_aload_n hx hb d_Tu_prepare_38 rfl (lv_at hl 0 rfl) ?_
            refine va_get (D := (dC, dI)) (ci := 10) (v := .ref M.o_Tb) (C := R_Tu) (T := F_Tu) (N := 7) hx hb hts (fun w h => u_Vq_Tu w (i_Tu w h)) hown hK hP 8 rfl rfl 1 (by decide) (hts _ (u_Vq_Tu _ k_Tu_18)) (fun _ h9 => h9) rfl d_Tu_prepare_39 ?_
            refine lv_iload_n hx hb d_Tu_prepare_42 rfl (lv_at hl 1 rfl) ?_
            obtain ⟨r_6, S_6, hc_6, h⟩ := lf_cE h
            have hFc := lx_free hD hS hA
            refine va_calli (va_runV (As := [.int y_1]) (rest := [.int y_1, .ref M.o_Tu]) ⟨hx, hb, hml, hown, hts⟩ (l_Tb_goalOf l dC dI X _ hc_6) (cwV 1 hts (gwV good_Vq (u_Vq_Tu _ k_Tu_44) (u_Vq_Tb _ k_Tb_46) (u_Vq_Tb _ k_Tb_47) (u_Vq_Tb _ k_Tb_0) (wcs (u_Vq_Tb _ k_Tb_48) (fun _ h => h))) rfl rfl rfl (by decide +kernel) ⟨Nat.le_of_ble_eq_true rfl, Nat.le_of_ble_eq_true rfl⟩) (pv_ofE (X.same _) (fun U z1 z2 => X.mono _ _ U hFc (hEw _ _ hS U z1 z2)) hP hK hD (va_recv hK hP (ci := 4) (q0 := 3) rfl rfl)) rfl rfl hl.1 rfl (lv_room (Nat.le_of_ble_eq_true rfl)) d_Tu_prepare_43 ⟨by decide, by decide⟩) hS (fun q _ h => hFc q h) hFc (fun r_ u t H locs ht hvm hw hB hz1 hk1 hS => ?_)
            rw [hw]
            obtain ⟨hP, -, hD⟩ := hB
            rw [ht] at hP
            have hD := lx_dj hD hFc
            obtain ⟨S_7, hc_7, h⟩ := lf_bE h
            have hFc := lx_free hD hS hA
            refine va_callv (va_runV (As := [.int y_1, .int r_6]) (rest := []) ⟨hx, hb, hml, hown, hts⟩ (l_Tu_copyCluster l dC dI X _ hc_7) (cwV 2 hts (gwV good_Vq (u_Vq_Tu _ k_Tu_45) (u_Vq_Tu _ k_Tu_46) (u_Vq_Tu _ k_Tu_161) (u_Vq_Tu _ k_Tu_0) (wcs (u_Vq_Tu _ k_Tu_47) (fun _ h => h))) rfl rfl rfl (by decide +kernel) ⟨Nat.le_of_ble_eq_true rfl, Nat.le_of_ble_eq_true rfl⟩) (pv_ofE (X.same _) (fun U z1 z2 => X.mono _ _ U hFc (hEw _ _ hS U z1 z2)) hP hK hD (va_recv hK hP (ci := 10) (q0 := 8) rfl rfl)) rfl rfl hl.1 rfl (lv_room (Nat.le_of_ble_eq_true rfl)) d_Tu_prepare_46 ⟨by decide, by decide⟩) hS (fun q _ h => hFc q h) hFc (fun u t H locs ht hvm hw hB hz1 hk1 hS => ?_)
            obtain ⟨hP, -, hD⟩ := hB
            rw [ht] at hP
            have hD := lx_dj hD hFc
            exact hB_49 _ hr_2 y_1 S_7 _ _ _ h hP hD hS (lv_sub hl [0, 1] rfl)
  rw [f_Tu_prepare] at h
  refine lv_iconst (v := 2) hx hb d_Tu_prepare_0 (by decide) ?_
  refine lv_istore_n (lv' := [(1, .int 2), (0, .ref M.o_Tu)]) hx hb d_Tu_prepare_1 rfl hl (by decide) rfl (fun ls hl => ?_)
  exact hB_2 K 2 S _ _ _ h hP hD hS (lv_sub hl [1, 0] rfl)
set_option maxHeartbeats 4000000 in
set_option maxRecDepth 100000 in
theorem l_Tu_putLabel (l : Launch) (dC : Nat → ClassId) (dI : Nat → Nat → Nat) {K : Nat} {M : CA} {E : (Nat → Prop) → State → Prop} (X : ly_X l dC dI K M E) (sz : Nat) {Y : CT} {G : CG} {S S' : CS} (h : f_Tu_putLabel K G S = some S') : Met l y_Tu_putLabel (.code y_Tu_putLabel cb_Tu_putLabel 3 none :: V_Vq) ({ frames := 1, cells := 0, slots := 0, locals := 22 }) (va_Pc [.ref M.o_Tu] (fun U => U.heap.size = sz ∧ at_ (dC, dI) (fun _ => True) (wV M Y G S) (tV M) U ∧ E (va_A (wV M Y G S) sz) U)) (va_Qv (fun (u : Unit) => True) (fun (u : Unit) t => at_ (dC, dI) (va_A (wV M Y G S) sz) (wV M Y G S') (tV M) t) (va_A (wV M Y G S) sz)) 0 0 (va_A (wV M Y G S) sz) := by
  refine Met.ofW (cc := cb_Tu_putLabel) (maxL := 3) (ret := none) (by decide) rfl ?_
  intro p e s m args below meth c s₁ B hml hv
  obtain ⟨rfl, hsz, ⟨hP, hK, hD0⟩, hE⟩ := hv
  have hx := B.exec
  have hb := B.bytes
  have hr := B.returns
  have hts0 := atoms_spec (ws := .code y_Tu_putLabel cb_Tu_putLabel 3 none :: V_Vq) B.pre
  have hts : ∀ w ∈ V_Vq, w.before ([.ref M.o_Tu] : List Value).toArray s = true := fun w h => hts0 w (List.mem_cons_of_mem _ h)
  have hown : s.vm.findClass R_Tu = some m.cls := findClass_of_methodNamed B.named
  subst hsz
  have hD := hD0.self (sz := s.heap.size)
  generalize hAe : va_A (wV M Y G S) s.heap.size = A at hD hE ⊢
  have hA : ∀ q : Nat, s.heap.size ≤ q → A q := fun q h => by rw [← hAe]; exact Or.inr h
  have hS : va_S A s.heap s.heap [] := va_S.rf
  have hP : va_P (dC, dI) classes (wV M Y G S) s.heap := hP
  have hK : va_K (dC, dI) classes (tV M) s := hK
  have hEw : ∀ (H : Heap) (locs : List Loc), va_S A s.heap H locs → ∀ U : State, U.heap = H → s.WarmedH U.vm → E A U := fun H locs hS U hU hW => X.kept A s U H locs hE hS hU hW
  have hl := lv_entry ([.ref M.o_Tu]) (n := 3) (Nat.le_of_ble_eq_true rfl)
  rw [lg_entry_eq]
  generalize (lg_sl ([.ref M.o_Tu]) ++ List.replicate (3 - (lg_sl ([.ref M.o_Tu])).length) Slot.unset).toArray = ls at hl ⊢
  have hl : lv_has ls 3 [(0, .ref M.o_Tu)] := hl
  refine qabs (fun Q hQ => ?_)
  have hB_38 : ∀ (k : Nat), ∀ (y_1 : Int32) (y_2 : Int32) (S : CS) (H : Heap) (locs : List Loc) (ls : Array Slot), f_Tu_putLabel_38 K G k y_1 y_2 S = some S' → va_P (dC, dI) classes (wV M Y G S) H → va_D A (wV M Y G S) → va_S A s.heap H locs → lv_has ls 3 [(0, .ref M.o_Tu), (1, .int y_1), (2, .int y_2)] → W p l e ({ frames := 1, cells := 0, slots := 0, locals := 22 }) s m ([.ref M.o_Tu] : List Value).toArray below meth c H locs 0 0 Q (F0 m 38 ls []) := by
    intro k
    induction k with
    | zero => intro y_1 y_2 S H locs ls h; exact lf_no h
    | succ k hr_38 =>
      intro y_1 y_2 S H locs ls h hP hD hS hl
      rw [f_Tu_putLabel_38] at h
      refine lv_iload_n hx hb d_Tu_putLabel_38 rfl (lv_at hl 2 rfl) ?_
      refine lv_iload_n hx hb d_Tu_putLabel_39 rfl (lv_at hl 1 rfl) ?_
      refine lv_icmp_ge (tgt := 73) hx hb d_Tu_putLabel_40 (by decide) (fun c_5 => ?_) (fun c_5 => ?_)
      · have h := lf_t h c_5
        rw [hQ]
        have e2 : S = S' := Option.some.inj h
        have hP := ly_newP e2.symm hP
        have hD := ly_newD e2.symm hD
        exact W.vret hx hb hr (fun t ht hW => ⟨⟨(), rfl, trivial, by rw [ht]; exact hP, va_K.moved hW.alike hK, hD⟩, hS.F ht⟩) hS.2.2 d_Tu_putLabel_73
      · have h := lf_f h c_5
        refine lv_aload_n hx hb d_Tu_putLabel_43 rfl (lv_at hl 0 rfl) ?_
        refine lv_bipush (v := 120) hx hb d_Tu_putLabel_44 (by decide) ?_
        refine lv_iload_n hx hb d_Tu_putLabel_46 rfl (lv_at hl 2 rfl) ?_
        refine lv_iadd hx hb d_Tu_putLabel_47 ?_
        refine lv_aload_n hx hb d_Tu_putLabel_48 rfl (lv_at hl 0 rfl) ?_
        refine va_get (D := (dC, dI)) (ci := 10) (v := .ref M.o_Dk) (C := R_Tu) (T := F_Tu) (N := 7) hx hb hts (fun w h => u_Vq_Tu w (i_Tu w h)) hown hK hP 8 rfl rfl 0 (by decide) (hts _ (u_Vq_Tu _ k_Tu_17)) (fun _ h9 => h9) rfl d_Tu_putLabel_49 ?_
        refine lv_aload_n hx hb d_Tu_putLabel_52 rfl (lv_at hl 0 rfl) ?_
        refine va_get (D := (dC, dI)) (ci := 10) (v := .ref M.o_Tr) (C := R_Tu) (T := F_Tu) (N := 7) hx hb hts (fun w h => u_Vq_Tu w (i_Tu w h)) hown hK hP 8 rfl rfl 2 (by decide) (hts _ (u_Vq_Tu _ k_Tu_19)) (fun _ h9 => h9) rfl d_Tu_putLabel_53 ?_
        refine va_get (D := (dC, dI)) (ci := 5) (v := .int S.v_Tr_label) (C := R_Tr) (T := F_Tr) (N := 18) hx hb hts (fun w h => u_Vq_Tr w (i_Tr w h)) hown hK hP 4 rfl rfl 1 (by decide) (hts _ (u_Vq_Tu _ k_Tu_5)) (fun _ h9 => h9) rfl d_Tu_putLabel_56 ?_
        refine lv_iload_n hx hb d_Tu_putLabel_59 rfl (lv_at hl 2 rfl) ?_
        refine lv_iadd hx hb d_Tu_putLabel_60 ?_
        obtain ⟨r_6, S_6, hc_6, h⟩ := lf_cE h
        have hFc := lx_free hD hS hA
        refine va_calli (va_runV (As := [.int (S.v_Tr_label + y_2)]) (rest := [.int (120 + y_2), .ref M.o_Tu]) ⟨hx, hb, hml, hown, hts⟩ (l_Dk_one l dC dI X _ hc_6) (cwV 1 hts (gwV good_Vq (u_Vq_Tu _ k_Tu_118) (u_Vq_Dk _ k_Dk_20) (u_Vq_Dk _ k_Dk_21) (u_Vq_Dk _ k_Dk_0) (wcs (u_Vq_Dk _ k_Dk_22) (fun _ h => h))) rfl rfl rfl (by decide +kernel) ⟨Nat.le_of_ble_eq_true rfl, Nat.le_of_ble_eq_true rfl⟩) (pv_ofE (X.same _) (fun U z1 z2 => X.mono _ _ U hFc (hEw _ _ hS U z1 z2)) hP hK hD (va_recv hK hP (ci := 0) (q0 := 1) rfl rfl)) rfl rfl hl.1 rfl (lv_room (Nat.le_of_ble_eq_true rfl)) d_Tu_putLabel_61 ⟨by decide, by decide⟩) hS (fun q _ h => hFc q h) hFc (fun r_ u t H locs ht hvm hw hB hz1 hk1 hS => ?_)
        rw [hw]
        obtain ⟨hP, -, hD⟩ := hB
        rw [ht] at hP
        have hD := lx_dj hD hFc
        obtain ⟨S_7, hc_7, h⟩ := lf_bE h
        have hFc := lx_free hD hS hA
        refine va_callv (va_runV (As := [.int (120 + y_2), .int r_6]) (rest := []) ⟨hx, hb, hml, hown, hts⟩ (l_Tu_putOne l dC dI X _ hc_7) (cwV 2 hts (gwV good_Vq (u_Vq_Tu _ k_Tu_87) (u_Vq_Tu _ k_Tu_88) (u_Vq_Tu _ k_Tu_166) (u_Vq_Tu _ k_Tu_0) (wcs (u_Vq_Tu _ k_Tu_89) (fun _ h => h))) rfl rfl rfl (by decide +kernel) ⟨Nat.le_of_ble_eq_true rfl, Nat.le_of_ble_eq_true rfl⟩) (pv_ofE (X.same _) (fun U z1 z2 => X.mono _ _ U hFc (hEw _ _ hS U z1 z2)) hP hK hD (va_recv hK hP (ci := 10) (q0 := 8) rfl rfl)) rfl rfl hl.1 rfl (lv_room (Nat.le_of_ble_eq_true rfl)) d_Tu_putLabel_64 ⟨by decide, by decide⟩) hS (fun q _ h => hFc q h) hFc (fun u t H locs ht hvm hw hB hz1 hk1 hS => ?_)
        obtain ⟨hP, -, hD⟩ := hB
        rw [ht] at hP
        have hD := lx_dj hD hFc
        obtain ⟨x_8, ex_8, h⟩ := lf_lX h
        refine lv_iinc (v := x_8) (lv' := [(2, .int x_8), (0, .ref M.o_Tu), (1, .int y_1)]) hx hb d_Tu_putLabel_67 hl (k := 2) rfl (by rw [ex_8]; rfl) (by decide) rfl (fun ls hl => ?_)
        refine lv_goto (tgt := 38) hx hb d_Tu_putLabel_70 (by decide) ?_
        exact hr_38 y_1 x_8 S_7 _ _ _ h hP hD hS (lv_sub hl [1, 2, 0] rfl)
  have hB_36 : ∀ (y_1 : Int32) (S : CS) (H : Heap) (locs : List Loc) (ls : Array Slot), f_Tu_putLabel_36 K G y_1 S = some S' → va_P (dC, dI) classes (wV M Y G S) H → va_D A (wV M Y G S) → va_S A s.heap H locs → lv_has ls 3 [(0, .ref M.o_Tu), (1, .int y_1)] → W p l e ({ frames := 1, cells := 0, slots := 0, locals := 22 }) s m ([.ref M.o_Tu] : List Value).toArray below meth c H locs 0 0 Q (F0 m 36 ls []) := by
    intro y_1 S H locs ls h hP hD hS hl
    rw [f_Tu_putLabel_36] at h
    refine lv_iconst (v := 0) hx hb d_Tu_putLabel_36 (by decide) ?_
    refine lv_istore_n (lv' := [(2, .int 0), (0, .ref M.o_Tu), (1, .int y_1)]) hx hb d_Tu_putLabel_37 rfl hl (by decide) rfl (fun ls hl => ?_)
    exact hB_38 K y_1 0 S _ _ _ h hP hD hS (lv_sub hl [1, 2, 0] rfl)
  have hB_3 : ∀ (k : Nat), ∀ (y_1 : Int32) (S : CS) (H : Heap) (locs : List Loc) (ls : Array Slot), f_Tu_putLabel_3 K G k y_1 S = some S' → va_P (dC, dI) classes (wV M Y G S) H → va_D A (wV M Y G S) → va_S A s.heap H locs → lv_has ls 3 [(0, .ref M.o_Tu), (1, .int y_1)] → W p l e ({ frames := 1, cells := 0, slots := 0, locals := 22 }) s m ([.ref M.o_Tu] : List Value).toArray below meth c H locs 0 0 Q (F0 m 3 ls []) := by
    intro k
    induction k with
    | zero => intro y_1 S H locs ls h; exact lf_no h
    | succ k hr_3 =>
      intro y_1 S H locs ls h hP hD hS hl
      rw [f_Tu_putLabel_3] at h
      refine lv_iload_n hx hb d_Tu_putLabel_3 rfl (lv_at hl 1 rfl) ?_
      refine lv_if_le (tgt := 36) hx hb d_Tu_putLabel_4 (by decide) (fun c_1 => ?_) (fun c_1 => ?_)
      · have h := lf_t h c_1
        exact hB_36 y_1 S _ _ _ h hP hD hS (lv_sub hl [0, 1] rfl)
      · have h := lf_f h c_1
        refine lv_aload_n hx hb d_Tu_putLabel_7 rfl (lv_at hl 0 rfl) ?_
        refine va_get (D := (dC, dI)) (ci := 10) (v := .ref M.o_Dk) (C := R_Tu) (T := F_Tu) (N := 7) hx hb hts (fun w h => u_Vq_Tu w (i_Tu w h)) hown hK hP 8 rfl rfl 0 (by decide) (hts _ (u_Vq_Tu _ k_Tu_17)) (fun _ h9 => h9) rfl d_Tu_putLabel_8 ?_
        refine lv_aload_n hx hb d_Tu_putLabel_11 rfl (lv_at hl 0 rfl) ?_
        refine va_get (D := (dC, dI)) (ci := 10) (v := .ref M.o_Tr) (C := R_Tu) (T := F_Tu) (N := 7) hx hb hts (fun w h => u_Vq_Tu w (i_Tu w h)) hown hK hP 8 rfl rfl 2 (by decide) (hts _ (u_Vq_Tu _ k_Tu_19)) (fun _ h9 => h9) rfl d_Tu_putLabel_12 ?_
        refine va_get (D := (dC, dI)) (ci := 5) (v := .int S.v_Tr_label) (C := R_Tr) (T := F_Tr) (N := 18) hx hb hts (fun w h => u_Vq_Tr w (i_Tr w h)) hown hK hP 4 rfl rfl 1 (by decide) (hts _ (u_Vq_Tu _ k_Tu_5)) (fun _ h9 => h9) rfl d_Tu_putLabel_15 ?_
        refine lv_iload_n hx hb d_Tu_putLabel_18 rfl (lv_at hl 1 rfl) ?_
        refine lv_iadd hx hb d_Tu_putLabel_19 ?_
        refine lv_iconst (v := 1) hx hb d_Tu_putLabel_20 (by decide) ?_
        refine lv_isub hx hb d_Tu_putLabel_21 ?_
        obtain ⟨r_2, S_2, hc_2, h⟩ := lf_cE h
        have hFc := lx_free hD hS hA
        refine va_calli (va_runV (As := [.int ((S.v_Tr_label + y_1) - 1)]) (rest := []) ⟨hx, hb, hml, hown, hts⟩ (l_Dk_one l dC dI X _ hc_2) (cwV 1 hts (gwV good_Vq (u_Vq_Tu _ k_Tu_118) (u_Vq_Dk _ k_Dk_20) (u_Vq_Dk _ k_Dk_21) (u_Vq_Dk _ k_Dk_0) (wcs (u_Vq_Dk _ k_Dk_22) (fun _ h => h))) rfl rfl rfl (by decide +kernel) ⟨Nat.le_of_ble_eq_true rfl, Nat.le_of_ble_eq_true rfl⟩) (pv_ofE (X.same _) (fun U z1 z2 => X.mono _ _ U hFc (hEw _ _ hS U z1 z2)) hP hK hD (va_recv hK hP (ci := 0) (q0 := 1) rfl rfl)) rfl rfl hl.1 rfl (lv_room (Nat.le_of_ble_eq_true rfl)) d_Tu_putLabel_22 ⟨by decide, by decide⟩) hS (fun q _ h => hFc q h) hFc (fun r_ u t H locs ht hvm hw hB hz1 hk1 hS => ?_)
        rw [hw]
        obtain ⟨hP, -, hD⟩ := hB
        rw [ht] at hP
        have hD := lx_dj hD hFc
        refine lv_bipush (v := 32) hx hb d_Tu_putLabel_25 (by decide) ?_
        refine lv_icmp_ne (tgt := 36) hx hb d_Tu_putLabel_27 (by decide) (fun c_3 => ?_) (fun c_3 => ?_)
        · have h := lf_f h c_3
          exact hB_36 y_1 S_2 _ _ _ h hP hD hS (lv_sub hl [0, 1] rfl)
        · have h := lf_t h c_3
          obtain ⟨x_4, ex_4, h⟩ := lf_lX h
          refine lv_iinc (v := x_4) (lv' := [(1, .int x_4), (0, .ref M.o_Tu)]) hx hb d_Tu_putLabel_30 hl (k := 1) rfl (by rw [ex_4]; rfl) (by decide) rfl (fun ls hl => ?_)
          refine lv_goto (tgt := 3) hx hb d_Tu_putLabel_33 (by decide) ?_
          exact hr_3 x_4 S_2 _ _ _ h hP hD hS (lv_sub hl [1, 0] rfl)
  rw [f_Tu_putLabel] at h
  refine lv_bipush (v := 11) hx hb d_Tu_putLabel_0 (by decide) ?_
  refine lv_istore_n (lv' := [(1, .int 11), (0, .ref M.o_Tu)]) hx hb d_Tu_putLabel_2 rfl hl (by decide) rfl (fun ls hl => ?_)
  exact hB_3 K 11 S _ _ _ h hP hD hS (lv_sub hl [1, 0] rfl)
set_option maxHeartbeats 4000000 in
set_option maxRecDepth 100000 in
theorem l_Tu_fillSuperblock (l : Launch) (dC : Nat → ClassId) (dI : Nat → Nat → Nat) {K : Nat} {M : CA} {E : (Nat → Prop) → State → Prop} (X : ly_X l dC dI K M E) (sz : Nat) {Y : CT} {G : CG} {S S' : CS} {p0 : Int32} (h : f_Tu_fillSuperblock K G S p0 = some S') : Met l y_Tu_fillSuperblock (.code y_Tu_fillSuperblock cb_Tu_fillSuperblock 2 none :: V_Vq) ({ frames := 2, cells := 0, slots := 0, locals := 44 }) (va_Pc [.ref M.o_Tu, .int p0] (fun U => U.heap.size = sz ∧ at_ (dC, dI) (fun _ => True) (wV M Y G S) (tV M) U ∧ E (va_A (wV M Y G S) sz) U)) (va_Qv (fun (u : Unit) => True) (fun (u : Unit) t => at_ (dC, dI) (va_A (wV M Y G S) sz) (wV M Y G S') (tV M) t) (va_A (wV M Y G S) sz)) 0 0 (va_A (wV M Y G S) sz) := by
  refine Met.ofW (cc := cb_Tu_fillSuperblock) (maxL := 2) (ret := none) (by decide) rfl ?_
  intro p e s m args below meth c s₁ B hml hv
  obtain ⟨rfl, hsz, ⟨hP, hK, hD0⟩, hE⟩ := hv
  have hx := B.exec
  have hb := B.bytes
  have hr := B.returns
  have hts0 := atoms_spec (ws := .code y_Tu_fillSuperblock cb_Tu_fillSuperblock 2 none :: V_Vq) B.pre
  have hts : ∀ w ∈ V_Vq, w.before ([.ref M.o_Tu, .int p0] : List Value).toArray s = true := fun w h => hts0 w (List.mem_cons_of_mem _ h)
  have hown : s.vm.findClass R_Tu = some m.cls := findClass_of_methodNamed B.named
  subst hsz
  have hD := hD0.self (sz := s.heap.size)
  generalize hAe : va_A (wV M Y G S) s.heap.size = A at hD hE ⊢
  have hA : ∀ q : Nat, s.heap.size ≤ q → A q := fun q h => by rw [← hAe]; exact Or.inr h
  have hS : va_S A s.heap s.heap [] := va_S.rf
  have hP : va_P (dC, dI) classes (wV M Y G S) s.heap := hP
  have hK : va_K (dC, dI) classes (tV M) s := hK
  have hEw : ∀ (H : Heap) (locs : List Loc), va_S A s.heap H locs → ∀ U : State, U.heap = H → s.WarmedH U.vm → E A U := fun H locs hS U hU hW => X.kept A s U H locs hE hS hU hW
  have hl := lv_entry ([.ref M.o_Tu, .int p0]) (n := 2) (Nat.le_of_ble_eq_true rfl)
  rw [lg_entry_eq]
  generalize (lg_sl ([.ref M.o_Tu, .int p0]) ++ List.replicate (2 - (lg_sl ([.ref M.o_Tu, .int p0])).length) Slot.unset).toArray = ls at hl ⊢
  have hl : lv_has ls 2 [(0, .ref M.o_Tu), (1, .int p0)] := hl
  refine qabs (fun Q hQ => ?_)
  rw [f_Tu_fillSuperblock] at h
  refine lv_aload_n hx hb d_Tu_fillSuperblock_0 rfl (lv_at hl 0 rfl) ?_
  obtain ⟨S_1, hc_1, h⟩ := lf_bE h
  have hFc := lx_free hD hS hA
  refine va_callv (va_runV (As := []) (rest := []) ⟨hx, hb, hml, hown, hts⟩ (l_Tu_empty l dC dI X _ hc_1) (cwV 0 hts (gwV good_Vq (u_Vq_Tu _ k_Tu_57) (u_Vq_Tu _ k_Tu_58) (u_Vq_Tu _ k_Tu_164) (u_Vq_Tu _ k_Tu_0) (wcs (u_Vq_Tu _ k_Tu_59) (fun _ h => h))) rfl rfl rfl (by decide +kernel) ⟨Nat.le_of_ble_eq_true rfl, Nat.le_of_ble_eq_true rfl⟩) (pv_ofE (X.same _) (fun U z1 z2 => X.mono _ _ U hFc (hEw _ _ hS U z1 z2)) hP hK hD (va_recv hK hP (ci := 10) (q0 := 8) rfl rfl)) rfl rfl hl.1 rfl (lv_room (Nat.le_of_ble_eq_true rfl)) d_Tu_fillSuperblock_1 ⟨by decide, by decide⟩) hS (fun q _ h => hFc q h) hFc (fun u t H locs ht hvm hw hB hz1 hk1 hS => ?_)
  obtain ⟨hP, -, hD⟩ := hB
  rw [ht] at hP
  have hD := lx_dj hD hFc
  refine lv_aload_n hx hb d_Tu_fillSuperblock_4 rfl (lv_at hl 0 rfl) ?_
  refine lv_iconst (v := 0) hx hb d_Tu_fillSuperblock_5 (by decide) ?_
  refine lv_aload_n hx hb d_Tu_fillSuperblock_6 rfl (lv_at hl 0 rfl) ?_
  refine va_get (D := (dC, dI)) (ci := 10) (v := .ref M.o_Pl) (C := R_Tu) (T := F_Tu) (N := 7) hx hb hts (fun w h => u_Vq_Tu w (i_Tu w h)) hown hK hP 8 rfl rfl 4 (by decide) (hts _ (u_Vq_Tu _ k_Tu_21)) (fun _ h9 => h9) rfl d_Tu_fillSuperblock_7 ?_
  refine va_get (D := (dC, dI)) (ci := 9) (v := .int S_1.v_Pl_groups) (C := R_Pl) (T := F_Pl) (N := 17) hx hb hts (fun w h => u_Vq_Pl w (i_Pl w h)) hown hK hP 7 rfl rfl 12 (by decide) (hts _ (u_Vq_Tu _ k_Tu_10)) (fun _ h9 => h9) rfl d_Tu_fillSuperblock_10 ?_
  refine lv_aload_n hx hb d_Tu_fillSuperblock_13 rfl (lv_at hl 0 rfl) ?_
  refine va_get (D := (dC, dI)) (ci := 10) (v := .ref M.o_Pl) (C := R_Tu) (T := F_Tu) (N := 7) hx hb hts (fun w h => u_Vq_Tu w (i_Tu w h)) hown hK hP 8 rfl rfl 4 (by decide) (hts _ (u_Vq_Tu _ k_Tu_21)) (fun _ h9 => h9) rfl d_Tu_fillSuperblock_14 ?_
  refine va_get (D := (dC, dI)) (ci := 9) (v := .int S_1.v_Pl_inodes) (C := R_Pl) (T := F_Pl) (N := 17) hx hb hts (fun w h => u_Vq_Pl w (i_Pl w h)) hown hK hP 7 rfl rfl 13 (by decide) (hts _ (u_Vq_Tu _ k_Tu_11)) (fun _ h9 => h9) rfl d_Tu_fillSuperblock_17 ?_
  refine lv_imul hx hb d_Tu_fillSuperblock_20 ?_
  obtain ⟨S_2, hc_2, h⟩ := lf_bE h
  have hFc := lx_free hD hS hA
  refine va_callv (va_runV (As := [.int 0, .int (S_1.v_Pl_groups * S_1.v_Pl_inodes)]) (rest := []) ⟨hx, hb, hml, hown, hts⟩ (l_Tu_putFour l dC dI X _ hc_2) (cwV 2 hts (gwV good_Vq (u_Vq_Tu _ k_Tu_84) (u_Vq_Tu _ k_Tu_85) (u_Vq_Tu _ k_Tu_168) (u_Vq_Tu _ k_Tu_0) (wcs (u_Vq_Tu _ k_Tu_86) (fun _ h => h))) rfl rfl rfl (by decide +kernel) ⟨Nat.le_of_ble_eq_true rfl, Nat.le_of_ble_eq_true rfl⟩) (pv_ofE (X.same _) (fun U z1 z2 => X.mono _ _ U hFc (hEw _ _ hS U z1 z2)) hP hK hD (va_recv hK hP (ci := 10) (q0 := 8) rfl rfl)) rfl rfl hl.1 rfl (lv_room (Nat.le_of_ble_eq_true rfl)) d_Tu_fillSuperblock_21 ⟨by decide, by decide⟩) hS (fun q _ h => hFc q h) hFc (fun u t H locs ht hvm hw hB hz1 hk1 hS => ?_)
  obtain ⟨hP, -, hD⟩ := hB
  rw [ht] at hP
  have hD := lx_dj hD hFc
  refine lv_aload_n hx hb d_Tu_fillSuperblock_24 rfl (lv_at hl 0 rfl) ?_
  refine lv_iconst (v := 4) hx hb d_Tu_fillSuperblock_25 (by decide) ?_
  refine lv_aload_n hx hb d_Tu_fillSuperblock_26 rfl (lv_at hl 0 rfl) ?_
  refine va_get (D := (dC, dI)) (ci := 10) (v := .ref M.o_Pl) (C := R_Tu) (T := F_Tu) (N := 7) hx hb hts (fun w h => u_Vq_Tu w (i_Tu w h)) hown hK hP 8 rfl rfl 4 (by decide) (hts _ (u_Vq_Tu _ k_Tu_21)) (fun _ h9 => h9) rfl d_Tu_fillSuperblock_27 ?_
  refine va_get (D := (dC, dI)) (ci := 9) (v := .int S_2.v_Pl_blocks) (C := R_Pl) (T := F_Pl) (N := 17) hx hb hts (fun w h => u_Vq_Pl w (i_Pl w h)) hown hK hP 7 rfl rfl 3 (by decide) (hts _ (u_Vq_Tu _ k_Tu_6)) (fun _ h9 => h9) rfl d_Tu_fillSuperblock_30 ?_
  obtain ⟨S_3, hc_3, h⟩ := lf_bE h
  have hFc := lx_free hD hS hA
  refine va_callv (va_runV (As := [.int 4, .int S_2.v_Pl_blocks]) (rest := []) ⟨hx, hb, hml, hown, hts⟩ (l_Tu_putFour l dC dI X _ hc_3) (cwV 2 hts (gwV good_Vq (u_Vq_Tu _ k_Tu_84) (u_Vq_Tu _ k_Tu_85) (u_Vq_Tu _ k_Tu_168) (u_Vq_Tu _ k_Tu_0) (wcs (u_Vq_Tu _ k_Tu_86) (fun _ h => h))) rfl rfl rfl (by decide +kernel) ⟨Nat.le_of_ble_eq_true rfl, Nat.le_of_ble_eq_true rfl⟩) (pv_ofE (X.same _) (fun U z1 z2 => X.mono _ _ U hFc (hEw _ _ hS U z1 z2)) hP hK hD (va_recv hK hP (ci := 10) (q0 := 8) rfl rfl)) rfl rfl hl.1 rfl (lv_room (Nat.le_of_ble_eq_true rfl)) d_Tu_fillSuperblock_33 ⟨by decide, by decide⟩) hS (fun q _ h => hFc q h) hFc (fun u t H locs ht hvm hw hB hz1 hk1 hS => ?_)
  obtain ⟨hP, -, hD⟩ := hB
  rw [ht] at hP
  have hD := lx_dj hD hFc
  refine lv_aload_n hx hb d_Tu_fillSuperblock_36 rfl (lv_at hl 0 rfl) ?_
  refine lv_bipush (v := 12) hx hb d_Tu_fillSuperblock_37 (by decide) ?_
  refine lv_aload_n hx hb d_Tu_fillSuperblock_39 rfl (lv_at hl 0 rfl) ?_
  refine va_get (D := (dC, dI)) (ci := 10) (v := .ref M.o_Pl) (C := R_Tu) (T := F_Tu) (N := 7) hx hb hts (fun w h => u_Vq_Tu w (i_Tu w h)) hown hK hP 8 rfl rfl 4 (by decide) (hts _ (u_Vq_Tu _ k_Tu_21)) (fun _ h9 => h9) rfl d_Tu_fillSuperblock_40 ?_
  refine va_get (D := (dC, dI)) (ci := 9) (v := .int S_3.v_Pl_free) (C := R_Pl) (T := F_Pl) (N := 17) hx hb hts (fun w h => u_Vq_Pl w (i_Pl w h)) hown hK hP 7 rfl rfl 16 (by decide) (hts _ (u_Vq_Tu _ k_Tu_12)) (fun _ h9 => h9) rfl d_Tu_fillSuperblock_43 ?_
  obtain ⟨S_4, hc_4, h⟩ := lf_bE h
  have hFc := lx_free hD hS hA
  refine va_callv (va_runV (As := [.int 12, .int S_3.v_Pl_free]) (rest := []) ⟨hx, hb, hml, hown, hts⟩ (l_Tu_putFour l dC dI X _ hc_4) (cwV 2 hts (gwV good_Vq (u_Vq_Tu _ k_Tu_84) (u_Vq_Tu _ k_Tu_85) (u_Vq_Tu _ k_Tu_168) (u_Vq_Tu _ k_Tu_0) (wcs (u_Vq_Tu _ k_Tu_86) (fun _ h => h))) rfl rfl rfl (by decide +kernel) ⟨Nat.le_of_ble_eq_true rfl, Nat.le_of_ble_eq_true rfl⟩) (pv_ofE (X.same _) (fun U z1 z2 => X.mono _ _ U hFc (hEw _ _ hS U z1 z2)) hP hK hD (va_recv hK hP (ci := 10) (q0 := 8) rfl rfl)) rfl rfl hl.1 rfl (lv_room (Nat.le_of_ble_eq_true rfl)) d_Tu_fillSuperblock_46 ⟨by decide, by decide⟩) hS (fun q _ h => hFc q h) hFc (fun u t H locs ht hvm hw hB hz1 hk1 hS => ?_)
  obtain ⟨hP, -, hD⟩ := hB
  rw [ht] at hP
  have hD := lx_dj hD hFc
  refine lv_aload_n hx hb d_Tu_fillSuperblock_49 rfl (lv_at hl 0 rfl) ?_
  refine lv_bipush (v := 16) hx hb d_Tu_fillSuperblock_50 (by decide) ?_
  refine lv_aload_n hx hb d_Tu_fillSuperblock_52 rfl (lv_at hl 0 rfl) ?_
  refine va_get (D := (dC, dI)) (ci := 10) (v := .ref M.o_Pl) (C := R_Tu) (T := F_Tu) (N := 7) hx hb hts (fun w h => u_Vq_Tu w (i_Tu w h)) hown hK hP 8 rfl rfl 4 (by decide) (hts _ (u_Vq_Tu _ k_Tu_21)) (fun _ h9 => h9) rfl d_Tu_fillSuperblock_53 ?_
  refine va_get (D := (dC, dI)) (ci := 9) (v := .int S_4.v_Pl_groups) (C := R_Pl) (T := F_Pl) (N := 17) hx hb hts (fun w h => u_Vq_Pl w (i_Pl w h)) hown hK hP 7 rfl rfl 12 (by decide) (hts _ (u_Vq_Tu _ k_Tu_10)) (fun _ h9 => h9) rfl d_Tu_fillSuperblock_56 ?_
  refine lv_aload_n hx hb d_Tu_fillSuperblock_59 rfl (lv_at hl 0 rfl) ?_
  refine va_get (D := (dC, dI)) (ci := 10) (v := .ref M.o_Pl) (C := R_Tu) (T := F_Tu) (N := 7) hx hb hts (fun w h => u_Vq_Tu w (i_Tu w h)) hown hK hP 8 rfl rfl 4 (by decide) (hts _ (u_Vq_Tu _ k_Tu_21)) (fun _ h9 => h9) rfl d_Tu_fillSuperblock_60 ?_
  refine va_get (D := (dC, dI)) (ci := 9) (v := .int S_4.v_Pl_inodes) (C := R_Pl) (T := F_Pl) (N := 17) hx hb hts (fun w h => u_Vq_Pl w (i_Pl w h)) hown hK hP 7 rfl rfl 13 (by decide) (hts _ (u_Vq_Tu _ k_Tu_11)) (fun _ h9 => h9) rfl d_Tu_fillSuperblock_63 ?_
  refine lv_imul hx hb d_Tu_fillSuperblock_66 ?_
  refine lv_aload_n hx hb d_Tu_fillSuperblock_67 rfl (lv_at hl 0 rfl) ?_
  refine va_get (D := (dC, dI)) (ci := 10) (v := .ref M.o_Pl) (C := R_Tu) (T := F_Tu) (N := 7) hx hb hts (fun w h => u_Vq_Tu w (i_Tu w h)) hown hK hP 8 rfl rfl 4 (by decide) (hts _ (u_Vq_Tu _ k_Tu_21)) (fun _ h9 => h9) rfl d_Tu_fillSuperblock_68 ?_
  obtain ⟨r_5, S_5, hc_5, h⟩ := lf_cE h
  have hFc := lx_free hD hS hA
  refine va_calli (va_runV (As := []) (rest := [.int (S_4.v_Pl_groups * S_4.v_Pl_inodes), .int 16, .ref M.o_Tu]) ⟨hx, hb, hml, hown, hts⟩ (l_Pl_usedInodes l dC dI X _ hc_5) (cwV 0 hts (gwV good_Vq (u_Vq_Tu _ k_Tu_111) (u_Vq_Pl _ k_Pl_157) (u_Vq_Pl _ k_Pl_158) (u_Vq_Pl _ k_Pl_0) (wcs (u_Vq_Pl _ k_Pl_159) (fun _ h => h))) rfl rfl rfl (by decide +kernel) ⟨Nat.le_of_ble_eq_true rfl, Nat.le_of_ble_eq_true rfl⟩) (pv_ofE (X.same _) (fun U z1 z2 => X.mono _ _ U hFc (hEw _ _ hS U z1 z2)) hP hK hD (va_recv hK hP (ci := 9) (q0 := 7) rfl rfl)) rfl rfl hl.1 rfl (lv_room (Nat.le_of_ble_eq_true rfl)) d_Tu_fillSuperblock_71 ⟨by decide, by decide⟩) hS (fun q _ h => hFc q h) hFc (fun r_ u t H locs ht hvm hw hB hz1 hk1 hS => ?_)
  rw [hw]
  obtain ⟨hP, -, hD⟩ := hB
  rw [ht] at hP
  have hD := lx_dj hD hFc
  refine lv_isub hx hb d_Tu_fillSuperblock_74 ?_
  obtain ⟨S_6, hc_6, h⟩ := lf_bE h
  have hFc := lx_free hD hS hA
  refine va_callv (va_runV (As := [.int 16, .int ((S_4.v_Pl_groups * S_4.v_Pl_inodes) - r_5)]) (rest := []) ⟨hx, hb, hml, hown, hts⟩ (l_Tu_putFour l dC dI X _ hc_6) (cwV 2 hts (gwV good_Vq (u_Vq_Tu _ k_Tu_84) (u_Vq_Tu _ k_Tu_85) (u_Vq_Tu _ k_Tu_168) (u_Vq_Tu _ k_Tu_0) (wcs (u_Vq_Tu _ k_Tu_86) (fun _ h => h))) rfl rfl rfl (by decide +kernel) ⟨Nat.le_of_ble_eq_true rfl, Nat.le_of_ble_eq_true rfl⟩) (pv_ofE (X.same _) (fun U z1 z2 => X.mono _ _ U hFc (hEw _ _ hS U z1 z2)) hP hK hD (va_recv hK hP (ci := 10) (q0 := 8) rfl rfl)) rfl rfl hl.1 rfl (lv_room (Nat.le_of_ble_eq_true rfl)) d_Tu_fillSuperblock_75 ⟨by decide, by decide⟩) hS (fun q _ h => hFc q h) hFc (fun u t H locs ht hvm hw hB hz1 hk1 hS => ?_)
  obtain ⟨hP, -, hD⟩ := hB
  rw [ht] at hP
  have hD := lx_dj hD hFc
  refine lv_aload_n hx hb d_Tu_fillSuperblock_78 rfl (lv_at hl 0 rfl) ?_
  refine lv_bipush (v := 20) hx hb d_Tu_fillSuperblock_79 (by decide) ?_
  refine lv_iconst (v := 1) hx hb d_Tu_fillSuperblock_81 (by decide) ?_
  obtain ⟨S_7, hc_7, h⟩ := lf_bE h
  have hFc := lx_free hD hS hA
  refine va_callv (va_runV (As := [.int 20, .int 1]) (rest := []) ⟨hx, hb, hml, hown, hts⟩ (l_Tu_putFour l dC dI X _ hc_7) (cwV 2 hts (gwV good_Vq (u_Vq_Tu _ k_Tu_84) (u_Vq_Tu _ k_Tu_85) (u_Vq_Tu _ k_Tu_168) (u_Vq_Tu _ k_Tu_0) (wcs (u_Vq_Tu _ k_Tu_86) (fun _ h => h))) rfl rfl rfl (by decide +kernel) ⟨Nat.le_of_ble_eq_true rfl, Nat.le_of_ble_eq_true rfl⟩) (pv_ofE (X.same _) (fun U z1 z2 => X.mono _ _ U hFc (hEw _ _ hS U z1 z2)) hP hK hD (va_recv hK hP (ci := 10) (q0 := 8) rfl rfl)) rfl rfl hl.1 rfl (lv_room (Nat.le_of_ble_eq_true rfl)) d_Tu_fillSuperblock_82 ⟨by decide, by decide⟩) hS (fun q _ h => hFc q h) hFc (fun u t H locs ht hvm hw hB hz1 hk1 hS => ?_)
  obtain ⟨hP, -, hD⟩ := hB
  rw [ht] at hP
  have hD := lx_dj hD hFc
  refine lv_aload_n hx hb d_Tu_fillSuperblock_85 rfl (lv_at hl 0 rfl) ?_
  refine lv_bipush (v := 32) hx hb d_Tu_fillSuperblock_86 (by decide) ?_
  refine lv_aload_n hx hb d_Tu_fillSuperblock_88 rfl (lv_at hl 0 rfl) ?_
  refine va_get (D := (dC, dI)) (ci := 10) (v := .ref M.o_Pl) (C := R_Tu) (T := F_Tu) (N := 7) hx hb hts (fun w h => u_Vq_Tu w (i_Tu w h)) hown hK hP 8 rfl rfl 4 (by decide) (hts _ (u_Vq_Tu _ k_Tu_21)) (fun _ h9 => h9) rfl d_Tu_fillSuperblock_89 ?_
  refine va_get (D := (dC, dI)) (ci := 9) (v := .int S_7.v_Pl_size) (C := R_Pl) (T := F_Pl) (N := 17) hx hb hts (fun w h => u_Vq_Pl w (i_Pl w h)) hown hK hP 7 rfl rfl 11 (by decide) (hts _ (u_Vq_Tu _ k_Tu_9)) (fun _ h9 => h9) rfl d_Tu_fillSuperblock_92 ?_
  obtain ⟨S_8, hc_8, h⟩ := lf_bE h
  have hFc := lx_free hD hS hA
  refine va_callv (va_runV (As := [.int 32, .int S_7.v_Pl_size]) (rest := []) ⟨hx, hb, hml, hown, hts⟩ (l_Tu_putFour l dC dI X _ hc_8) (cwV 2 hts (gwV good_Vq (u_Vq_Tu _ k_Tu_84) (u_Vq_Tu _ k_Tu_85) (u_Vq_Tu _ k_Tu_168) (u_Vq_Tu _ k_Tu_0) (wcs (u_Vq_Tu _ k_Tu_86) (fun _ h => h))) rfl rfl rfl (by decide +kernel) ⟨Nat.le_of_ble_eq_true rfl, Nat.le_of_ble_eq_true rfl⟩) (pv_ofE (X.same _) (fun U z1 z2 => X.mono _ _ U hFc (hEw _ _ hS U z1 z2)) hP hK hD (va_recv hK hP (ci := 10) (q0 := 8) rfl rfl)) rfl rfl hl.1 rfl (lv_room (Nat.le_of_ble_eq_true rfl)) d_Tu_fillSuperblock_95 ⟨by decide, by decide⟩) hS (fun q _ h => hFc q h) hFc (fun u t H locs ht hvm hw hB hz1 hk1 hS => ?_)
  obtain ⟨hP, -, hD⟩ := hB
  rw [ht] at hP
  have hD := lx_dj hD hFc
  refine lv_aload_n hx hb d_Tu_fillSuperblock_98 rfl (lv_at hl 0 rfl) ?_
  refine lv_bipush (v := 36) hx hb d_Tu_fillSuperblock_99 (by decide) ?_
  refine lv_aload_n hx hb d_Tu_fillSuperblock_101 rfl (lv_at hl 0 rfl) ?_
  refine va_get (D := (dC, dI)) (ci := 10) (v := .ref M.o_Pl) (C := R_Tu) (T := F_Tu) (N := 7) hx hb hts (fun w h => u_Vq_Tu w (i_Tu w h)) hown hK hP 8 rfl rfl 4 (by decide) (hts _ (u_Vq_Tu _ k_Tu_21)) (fun _ h9 => h9) rfl d_Tu_fillSuperblock_102 ?_
  refine va_get (D := (dC, dI)) (ci := 9) (v := .int S_8.v_Pl_size) (C := R_Pl) (T := F_Pl) (N := 17) hx hb hts (fun w h => u_Vq_Pl w (i_Pl w h)) hown hK hP 7 rfl rfl 11 (by decide) (hts _ (u_Vq_Tu _ k_Tu_9)) (fun _ h9 => h9) rfl d_Tu_fillSuperblock_105 ?_
  obtain ⟨S_9, hc_9, h⟩ := lf_bE h
  have hFc := lx_free hD hS hA
  refine va_callv (va_runV (As := [.int 36, .int S_8.v_Pl_size]) (rest := []) ⟨hx, hb, hml, hown, hts⟩ (l_Tu_putFour l dC dI X _ hc_9) (cwV 2 hts (gwV good_Vq (u_Vq_Tu _ k_Tu_84) (u_Vq_Tu _ k_Tu_85) (u_Vq_Tu _ k_Tu_168) (u_Vq_Tu _ k_Tu_0) (wcs (u_Vq_Tu _ k_Tu_86) (fun _ h => h))) rfl rfl rfl (by decide +kernel) ⟨Nat.le_of_ble_eq_true rfl, Nat.le_of_ble_eq_true rfl⟩) (pv_ofE (X.same _) (fun U z1 z2 => X.mono _ _ U hFc (hEw _ _ hS U z1 z2)) hP hK hD (va_recv hK hP (ci := 10) (q0 := 8) rfl rfl)) rfl rfl hl.1 rfl (lv_room (Nat.le_of_ble_eq_true rfl)) d_Tu_fillSuperblock_108 ⟨by decide, by decide⟩) hS (fun q _ h => hFc q h) hFc (fun u t H locs ht hvm hw hB hz1 hk1 hS => ?_)
  obtain ⟨hP, -, hD⟩ := hB
  rw [ht] at hP
  have hD := lx_dj hD hFc
  refine lv_aload_n hx hb d_Tu_fillSuperblock_111 rfl (lv_at hl 0 rfl) ?_
  refine lv_bipush (v := 40) hx hb d_Tu_fillSuperblock_112 (by decide) ?_
  refine lv_aload_n hx hb d_Tu_fillSuperblock_114 rfl (lv_at hl 0 rfl) ?_
  refine va_get (D := (dC, dI)) (ci := 10) (v := .ref M.o_Pl) (C := R_Tu) (T := F_Tu) (N := 7) hx hb hts (fun w h => u_Vq_Tu w (i_Tu w h)) hown hK hP 8 rfl rfl 4 (by decide) (hts _ (u_Vq_Tu _ k_Tu_21)) (fun _ h9 => h9) rfl d_Tu_fillSuperblock_115 ?_
  refine va_get (D := (dC, dI)) (ci := 9) (v := .int S_9.v_Pl_inodes) (C := R_Pl) (T := F_Pl) (N := 17) hx hb hts (fun w h => u_Vq_Pl w (i_Pl w h)) hown hK hP 7 rfl rfl 13 (by decide) (hts _ (u_Vq_Tu _ k_Tu_11)) (fun _ h9 => h9) rfl d_Tu_fillSuperblock_118 ?_
  obtain ⟨S_10, hc_10, h⟩ := lf_bE h
  have hFc := lx_free hD hS hA
  refine va_callv (va_runV (As := [.int 40, .int S_9.v_Pl_inodes]) (rest := []) ⟨hx, hb, hml, hown, hts⟩ (l_Tu_putFour l dC dI X _ hc_10) (cwV 2 hts (gwV good_Vq (u_Vq_Tu _ k_Tu_84) (u_Vq_Tu _ k_Tu_85) (u_Vq_Tu _ k_Tu_168) (u_Vq_Tu _ k_Tu_0) (wcs (u_Vq_Tu _ k_Tu_86) (fun _ h => h))) rfl rfl rfl (by decide +kernel) ⟨Nat.le_of_ble_eq_true rfl, Nat.le_of_ble_eq_true rfl⟩) (pv_ofE (X.same _) (fun U z1 z2 => X.mono _ _ U hFc (hEw _ _ hS U z1 z2)) hP hK hD (va_recv hK hP (ci := 10) (q0 := 8) rfl rfl)) rfl rfl hl.1 rfl (lv_room (Nat.le_of_ble_eq_true rfl)) d_Tu_fillSuperblock_121 ⟨by decide, by decide⟩) hS (fun q _ h => hFc q h) hFc (fun u t H locs ht hvm hw hB hz1 hk1 hS => ?_)
  obtain ⟨hP, -, hD⟩ := hB
  rw [ht] at hP
  have hD := lx_dj hD hFc
  refine lv_aload_n hx hb d_Tu_fillSuperblock_124 rfl (lv_at hl 0 rfl) ?_
  refine lv_bipush (v := 54) hx hb d_Tu_fillSuperblock_125 (by decide) ?_
  refine lv_ldcw (v := 65535) hx hb hown (hts _ (u_Vq_Tu _ k_Tu_112)) d_Tu_fillSuperblock_127 ?_
  obtain ⟨S_11, hc_11, h⟩ := lf_bE h
  have hFc := lx_free hD hS hA
  refine va_callv (va_runV (As := [.int 54, .int 65535]) (rest := []) ⟨hx, hb, hml, hown, hts⟩ (l_Tu_putTwo l dC dI X _ hc_11) (cwV 2 hts (gwV good_Vq (u_Vq_Tu _ k_Tu_69) (u_Vq_Tu _ k_Tu_70) (u_Vq_Tu _ k_Tu_167) (u_Vq_Tu _ k_Tu_0) (wcs (u_Vq_Tu _ k_Tu_71) (fun _ h => h))) rfl rfl rfl (by decide +kernel) ⟨Nat.le_of_ble_eq_true rfl, Nat.le_of_ble_eq_true rfl⟩) (pv_ofE (X.same _) (fun U z1 z2 => X.mono _ _ U hFc (hEw _ _ hS U z1 z2)) hP hK hD (va_recv hK hP (ci := 10) (q0 := 8) rfl rfl)) rfl rfl hl.1 rfl (lv_room (Nat.le_of_ble_eq_true rfl)) d_Tu_fillSuperblock_130 ⟨by decide, by decide⟩) hS (fun q _ h => hFc q h) hFc (fun u t H locs ht hvm hw hB hz1 hk1 hS => ?_)
  obtain ⟨hP, -, hD⟩ := hB
  rw [ht] at hP
  have hD := lx_dj hD hFc
  refine lv_aload_n hx hb d_Tu_fillSuperblock_133 rfl (lv_at hl 0 rfl) ?_
  refine lv_bipush (v := 56) hx hb d_Tu_fillSuperblock_134 (by decide) ?_
  refine lv_ldcw (v := 61267) hx hb hown (hts _ (u_Vq_Tu _ k_Tu_113)) d_Tu_fillSuperblock_136 ?_
  obtain ⟨S_12, hc_12, h⟩ := lf_bE h
  have hFc := lx_free hD hS hA
  refine va_callv (va_runV (As := [.int 56, .int 61267]) (rest := []) ⟨hx, hb, hml, hown, hts⟩ (l_Tu_putTwo l dC dI X _ hc_12) (cwV 2 hts (gwV good_Vq (u_Vq_Tu _ k_Tu_69) (u_Vq_Tu _ k_Tu_70) (u_Vq_Tu _ k_Tu_167) (u_Vq_Tu _ k_Tu_0) (wcs (u_Vq_Tu _ k_Tu_71) (fun _ h => h))) rfl rfl rfl (by decide +kernel) ⟨Nat.le_of_ble_eq_true rfl, Nat.le_of_ble_eq_true rfl⟩) (pv_ofE (X.same _) (fun U z1 z2 => X.mono _ _ U hFc (hEw _ _ hS U z1 z2)) hP hK hD (va_recv hK hP (ci := 10) (q0 := 8) rfl rfl)) rfl rfl hl.1 rfl (lv_room (Nat.le_of_ble_eq_true rfl)) d_Tu_fillSuperblock_139 ⟨by decide, by decide⟩) hS (fun q _ h => hFc q h) hFc (fun u t H locs ht hvm hw hB hz1 hk1 hS => ?_)
  obtain ⟨hP, -, hD⟩ := hB
  rw [ht] at hP
  have hD := lx_dj hD hFc
  refine lv_aload_n hx hb d_Tu_fillSuperblock_142 rfl (lv_at hl 0 rfl) ?_
  refine lv_bipush (v := 58) hx hb d_Tu_fillSuperblock_143 (by decide) ?_
  refine lv_iconst (v := 1) hx hb d_Tu_fillSuperblock_145 (by decide) ?_
  obtain ⟨S_13, hc_13, h⟩ := lf_bE h
  have hFc := lx_free hD hS hA
  refine va_callv (va_runV (As := [.int 58, .int 1]) (rest := []) ⟨hx, hb, hml, hown, hts⟩ (l_Tu_putTwo l dC dI X _ hc_13) (cwV 2 hts (gwV good_Vq (u_Vq_Tu _ k_Tu_69) (u_Vq_Tu _ k_Tu_70) (u_Vq_Tu _ k_Tu_167) (u_Vq_Tu _ k_Tu_0) (wcs (u_Vq_Tu _ k_Tu_71) (fun _ h => h))) rfl rfl rfl (by decide +kernel) ⟨Nat.le_of_ble_eq_true rfl, Nat.le_of_ble_eq_true rfl⟩) (pv_ofE (X.same _) (fun U z1 z2 => X.mono _ _ U hFc (hEw _ _ hS U z1 z2)) hP hK hD (va_recv hK hP (ci := 10) (q0 := 8) rfl rfl)) rfl rfl hl.1 rfl (lv_room (Nat.le_of_ble_eq_true rfl)) d_Tu_fillSuperblock_146 ⟨by decide, by decide⟩) hS (fun q _ h => hFc q h) hFc (fun u t H locs ht hvm hw hB hz1 hk1 hS => ?_)
  obtain ⟨hP, -, hD⟩ := hB
  rw [ht] at hP
  have hD := lx_dj hD hFc
  refine lv_aload_n hx hb d_Tu_fillSuperblock_149 rfl (lv_at hl 0 rfl) ?_
  refine lv_bipush (v := 60) hx hb d_Tu_fillSuperblock_150 (by decide) ?_
  refine lv_iconst (v := 1) hx hb d_Tu_fillSuperblock_152 (by decide) ?_
  obtain ⟨S_14, hc_14, h⟩ := lf_bE h
  have hFc := lx_free hD hS hA
  refine va_callv (va_runV (As := [.int 60, .int 1]) (rest := []) ⟨hx, hb, hml, hown, hts⟩ (l_Tu_putTwo l dC dI X _ hc_14) (cwV 2 hts (gwV good_Vq (u_Vq_Tu _ k_Tu_69) (u_Vq_Tu _ k_Tu_70) (u_Vq_Tu _ k_Tu_167) (u_Vq_Tu _ k_Tu_0) (wcs (u_Vq_Tu _ k_Tu_71) (fun _ h => h))) rfl rfl rfl (by decide +kernel) ⟨Nat.le_of_ble_eq_true rfl, Nat.le_of_ble_eq_true rfl⟩) (pv_ofE (X.same _) (fun U z1 z2 => X.mono _ _ U hFc (hEw _ _ hS U z1 z2)) hP hK hD (va_recv hK hP (ci := 10) (q0 := 8) rfl rfl)) rfl rfl hl.1 rfl (lv_room (Nat.le_of_ble_eq_true rfl)) d_Tu_fillSuperblock_153 ⟨by decide, by decide⟩) hS (fun q _ h => hFc q h) hFc (fun u t H locs ht hvm hw hB hz1 hk1 hS => ?_)
  obtain ⟨hP, -, hD⟩ := hB
  rw [ht] at hP
  have hD := lx_dj hD hFc
  refine lv_aload_n hx hb d_Tu_fillSuperblock_156 rfl (lv_at hl 0 rfl) ?_
  refine lv_bipush (v := 76) hx hb d_Tu_fillSuperblock_157 (by decide) ?_
  refine lv_iconst (v := 1) hx hb d_Tu_fillSuperblock_159 (by decide) ?_
  obtain ⟨S_15, hc_15, h⟩ := lf_bE h
  have hFc := lx_free hD hS hA
  refine va_callv (va_runV (As := [.int 76, .int 1]) (rest := []) ⟨hx, hb, hml, hown, hts⟩ (l_Tu_putFour l dC dI X _ hc_15) (cwV 2 hts (gwV good_Vq (u_Vq_Tu _ k_Tu_84) (u_Vq_Tu _ k_Tu_85) (u_Vq_Tu _ k_Tu_168) (u_Vq_Tu _ k_Tu_0) (wcs (u_Vq_Tu _ k_Tu_86) (fun _ h => h))) rfl rfl rfl (by decide +kernel) ⟨Nat.le_of_ble_eq_true rfl, Nat.le_of_ble_eq_true rfl⟩) (pv_ofE (X.same _) (fun U z1 z2 => X.mono _ _ U hFc (hEw _ _ hS U z1 z2)) hP hK hD (va_recv hK hP (ci := 10) (q0 := 8) rfl rfl)) rfl rfl hl.1 rfl (lv_room (Nat.le_of_ble_eq_true rfl)) d_Tu_fillSuperblock_160 ⟨by decide, by decide⟩) hS (fun q _ h => hFc q h) hFc (fun u t H locs ht hvm hw hB hz1 hk1 hS => ?_)
  obtain ⟨hP, -, hD⟩ := hB
  rw [ht] at hP
  have hD := lx_dj hD hFc
  refine lv_aload_n hx hb d_Tu_fillSuperblock_163 rfl (lv_at hl 0 rfl) ?_
  refine lv_bipush (v := 84) hx hb d_Tu_fillSuperblock_164 (by decide) ?_
  refine lv_bipush (v := 11) hx hb d_Tu_fillSuperblock_166 (by decide) ?_
  obtain ⟨S_16, hc_16, h⟩ := lf_bE h
  have hFc := lx_free hD hS hA
  refine va_callv (va_runV (As := [.int 84, .int 11]) (rest := []) ⟨hx, hb, hml, hown, hts⟩ (l_Tu_putFour l dC dI X _ hc_16) (cwV 2 hts (gwV good_Vq (u_Vq_Tu _ k_Tu_84) (u_Vq_Tu _ k_Tu_85) (u_Vq_Tu _ k_Tu_168) (u_Vq_Tu _ k_Tu_0) (wcs (u_Vq_Tu _ k_Tu_86) (fun _ h => h))) rfl rfl rfl (by decide +kernel) ⟨Nat.le_of_ble_eq_true rfl, Nat.le_of_ble_eq_true rfl⟩) (pv_ofE (X.same _) (fun U z1 z2 => X.mono _ _ U hFc (hEw _ _ hS U z1 z2)) hP hK hD (va_recv hK hP (ci := 10) (q0 := 8) rfl rfl)) rfl rfl hl.1 rfl (lv_room (Nat.le_of_ble_eq_true rfl)) d_Tu_fillSuperblock_168 ⟨by decide, by decide⟩) hS (fun q _ h => hFc q h) hFc (fun u t H locs ht hvm hw hB hz1 hk1 hS => ?_)
  obtain ⟨hP, -, hD⟩ := hB
  rw [ht] at hP
  have hD := lx_dj hD hFc
  refine lv_aload_n hx hb d_Tu_fillSuperblock_171 rfl (lv_at hl 0 rfl) ?_
  refine lv_bipush (v := 88) hx hb d_Tu_fillSuperblock_172 (by decide) ?_
  refine lv_sipush (v := 128) hx hb d_Tu_fillSuperblock_174 (by decide) ?_
  obtain ⟨S_17, hc_17, h⟩ := lf_bE h
  have hFc := lx_free hD hS hA
  refine va_callv (va_runV (As := [.int 88, .int 128]) (rest := []) ⟨hx, hb, hml, hown, hts⟩ (l_Tu_putTwo l dC dI X _ hc_17) (cwV 2 hts (gwV good_Vq (u_Vq_Tu _ k_Tu_69) (u_Vq_Tu _ k_Tu_70) (u_Vq_Tu _ k_Tu_167) (u_Vq_Tu _ k_Tu_0) (wcs (u_Vq_Tu _ k_Tu_71) (fun _ h => h))) rfl rfl rfl (by decide +kernel) ⟨Nat.le_of_ble_eq_true rfl, Nat.le_of_ble_eq_true rfl⟩) (pv_ofE (X.same _) (fun U z1 z2 => X.mono _ _ U hFc (hEw _ _ hS U z1 z2)) hP hK hD (va_recv hK hP (ci := 10) (q0 := 8) rfl rfl)) rfl rfl hl.1 rfl (lv_room (Nat.le_of_ble_eq_true rfl)) d_Tu_fillSuperblock_177 ⟨by decide, by decide⟩) hS (fun q _ h => hFc q h) hFc (fun u t H locs ht hvm hw hB hz1 hk1 hS => ?_)
  obtain ⟨hP, -, hD⟩ := hB
  rw [ht] at hP
  have hD := lx_dj hD hFc
  refine lv_aload_n hx hb d_Tu_fillSuperblock_180 rfl (lv_at hl 0 rfl) ?_
  refine lv_bipush (v := 90) hx hb d_Tu_fillSuperblock_181 (by decide) ?_
  refine lv_iload_n hx hb d_Tu_fillSuperblock_183 rfl (lv_at hl 1 rfl) ?_
  obtain ⟨S_18, hc_18, h⟩ := lf_bE h
  have hFc := lx_free hD hS hA
  refine va_callv (va_runV (As := [.int 90, .int p0]) (rest := []) ⟨hx, hb, hml, hown, hts⟩ (l_Tu_putTwo l dC dI X _ hc_18) (cwV 2 hts (gwV good_Vq (u_Vq_Tu _ k_Tu_69) (u_Vq_Tu _ k_Tu_70) (u_Vq_Tu _ k_Tu_167) (u_Vq_Tu _ k_Tu_0) (wcs (u_Vq_Tu _ k_Tu_71) (fun _ h => h))) rfl rfl rfl (by decide +kernel) ⟨Nat.le_of_ble_eq_true rfl, Nat.le_of_ble_eq_true rfl⟩) (pv_ofE (X.same _) (fun U z1 z2 => X.mono _ _ U hFc (hEw _ _ hS U z1 z2)) hP hK hD (va_recv hK hP (ci := 10) (q0 := 8) rfl rfl)) rfl rfl hl.1 rfl (lv_room (Nat.le_of_ble_eq_true rfl)) d_Tu_fillSuperblock_184 ⟨by decide, by decide⟩) hS (fun q _ h => hFc q h) hFc (fun u t H locs ht hvm hw hB hz1 hk1 hS => ?_)
  obtain ⟨hP, -, hD⟩ := hB
  rw [ht] at hP
  have hD := lx_dj hD hFc
  refine lv_aload_n hx hb d_Tu_fillSuperblock_187 rfl (lv_at hl 0 rfl) ?_
  refine lv_bipush (v := 96) hx hb d_Tu_fillSuperblock_188 (by decide) ?_
  refine lv_iconst (v := 2) hx hb d_Tu_fillSuperblock_190 (by decide) ?_
  obtain ⟨S_19, hc_19, h⟩ := lf_bE h
  have hFc := lx_free hD hS hA
  refine va_callv (va_runV (As := [.int 96, .int 2]) (rest := []) ⟨hx, hb, hml, hown, hts⟩ (l_Tu_putFour l dC dI X _ hc_19) (cwV 2 hts (gwV good_Vq (u_Vq_Tu _ k_Tu_84) (u_Vq_Tu _ k_Tu_85) (u_Vq_Tu _ k_Tu_168) (u_Vq_Tu _ k_Tu_0) (wcs (u_Vq_Tu _ k_Tu_86) (fun _ h => h))) rfl rfl rfl (by decide +kernel) ⟨Nat.le_of_ble_eq_true rfl, Nat.le_of_ble_eq_true rfl⟩) (pv_ofE (X.same _) (fun U z1 z2 => X.mono _ _ U hFc (hEw _ _ hS U z1 z2)) hP hK hD (va_recv hK hP (ci := 10) (q0 := 8) rfl rfl)) rfl rfl hl.1 rfl (lv_room (Nat.le_of_ble_eq_true rfl)) d_Tu_fillSuperblock_191 ⟨by decide, by decide⟩) hS (fun q _ h => hFc q h) hFc (fun u t H locs ht hvm hw hB hz1 hk1 hS => ?_)
  obtain ⟨hP, -, hD⟩ := hB
  rw [ht] at hP
  have hD := lx_dj hD hFc
  refine lv_aload_n hx hb d_Tu_fillSuperblock_194 rfl (lv_at hl 0 rfl) ?_
  refine lv_bipush (v := 104) hx hb d_Tu_fillSuperblock_195 (by decide) ?_
  refine lv_aload_n hx hb d_Tu_fillSuperblock_197 rfl (lv_at hl 0 rfl) ?_
  refine va_get (D := (dC, dI)) (ci := 10) (v := .ref M.o_Dk) (C := R_Tu) (T := F_Tu) (N := 7) hx hb hts (fun w h => u_Vq_Tu w (i_Tu w h)) hown hK hP 8 rfl rfl 0 (by decide) (hts _ (u_Vq_Tu _ k_Tu_17)) (fun _ h9 => h9) rfl d_Tu_fillSuperblock_198 ?_
  refine lv_bipush (v := 67) hx hb d_Tu_fillSuperblock_201 (by decide) ?_
  obtain ⟨r_20, S_20, hc_20, h⟩ := lf_cE h
  have hFc := lx_free hD hS hA
  refine va_calli (va_runV (As := [.int 67]) (rest := [.int 104, .ref M.o_Tu]) ⟨hx, hb, hml, hown, hts⟩ (l_Dk_four l dC dI X _ hc_20) (cwV 1 hts (gwV good_Vq (u_Vq_Tu _ k_Tu_114) (u_Vq_Dk _ k_Dk_14) (u_Vq_Dk _ k_Dk_15) (u_Vq_Dk _ k_Dk_0) (wcs (u_Vq_Dk _ k_Dk_16) (fun _ h => h))) rfl rfl rfl (by decide +kernel) ⟨Nat.le_of_ble_eq_true rfl, Nat.le_of_ble_eq_true rfl⟩) (pv_ofE (X.same _) (fun U z1 z2 => X.mono _ _ U hFc (hEw _ _ hS U z1 z2)) hP hK hD (va_recv hK hP (ci := 0) (q0 := 1) rfl rfl)) rfl rfl hl.1 rfl (lv_room (Nat.le_of_ble_eq_true rfl)) d_Tu_fillSuperblock_203 ⟨by decide, by decide⟩) hS (fun q _ h => hFc q h) hFc (fun r_ u t H locs ht hvm hw hB hz1 hk1 hS => ?_)
  rw [hw]
  obtain ⟨hP, -, hD⟩ := hB
  rw [ht] at hP
  have hD := lx_dj hD hFc
  obtain ⟨S_21, hc_21, h⟩ := lf_bE h
  have hFc := lx_free hD hS hA
  refine va_callv (va_runV (As := [.int 104, .int r_20]) (rest := []) ⟨hx, hb, hml, hown, hts⟩ (l_Tu_putFour l dC dI X _ hc_21) (cwV 2 hts (gwV good_Vq (u_Vq_Tu _ k_Tu_84) (u_Vq_Tu _ k_Tu_85) (u_Vq_Tu _ k_Tu_168) (u_Vq_Tu _ k_Tu_0) (wcs (u_Vq_Tu _ k_Tu_86) (fun _ h => h))) rfl rfl rfl (by decide +kernel) ⟨Nat.le_of_ble_eq_true rfl, Nat.le_of_ble_eq_true rfl⟩) (pv_ofE (X.same _) (fun U z1 z2 => X.mono _ _ U hFc (hEw _ _ hS U z1 z2)) hP hK hD (va_recv hK hP (ci := 10) (q0 := 8) rfl rfl)) rfl rfl hl.1 rfl (lv_room (Nat.le_of_ble_eq_true rfl)) d_Tu_fillSuperblock_206 ⟨by decide, by decide⟩) hS (fun q _ h => hFc q h) hFc (fun u t H locs ht hvm hw hB hz1 hk1 hS => ?_)
  obtain ⟨hP, -, hD⟩ := hB
  rw [ht] at hP
  have hD := lx_dj hD hFc
  refine lv_aload_n hx hb d_Tu_fillSuperblock_209 rfl (lv_at hl 0 rfl) ?_
  refine va_get (D := (dC, dI)) (ci := 10) (v := .ref M.o_Tr) (C := R_Tu) (T := F_Tu) (N := 7) hx hb hts (fun w h => u_Vq_Tu w (i_Tu w h)) hown hK hP 8 rfl rfl 2 (by decide) (hts _ (u_Vq_Tu _ k_Tu_19)) (fun _ h9 => h9) rfl d_Tu_fillSuperblock_210 ?_
  refine va_get (D := (dC, dI)) (ci := 5) (v := .int S_21.v_Tr_label) (C := R_Tr) (T := F_Tr) (N := 18) hx hb hts (fun w h => u_Vq_Tr w (i_Tr w h)) hown hK hP 4 rfl rfl 1 (by decide) (hts _ (u_Vq_Tu _ k_Tu_5)) (fun _ h9 => h9) rfl d_Tu_fillSuperblock_213 ?_
  refine lv_iconst (v := (-1)) hx hb d_Tu_fillSuperblock_216 (by decide) ?_
  refine lv_icmp_eq (tgt := 224) hx hb d_Tu_fillSuperblock_217 (by decide) (fun c_22 => ?_) (fun c_22 => ?_)
  · have h := lf_t h c_22
    rw [hQ]
    have e2 : S_21 = S' := Option.some.inj h
    have hP := ly_newP e2.symm hP
    have hD := ly_newD e2.symm hD
    exact W.vret hx hb hr (fun t ht hW => ⟨⟨(), rfl, trivial, by rw [ht]; exact hP, va_K.moved hW.alike hK, hD⟩, hS.F ht⟩) hS.2.2 d_Tu_fillSuperblock_224
  · have h := lf_f h c_22
    refine lv_aload_n hx hb d_Tu_fillSuperblock_220 rfl (lv_at hl 0 rfl) ?_
    obtain ⟨S_23, hc_23, h⟩ := lf_bE h
    have hFc := lx_free hD hS hA
    refine va_callv (va_runV (As := []) (rest := []) ⟨hx, hb, hml, hown, hts⟩ (l_Tu_putLabel l dC dI X _ hc_23) (cwV 0 hts (gwV good_Vq (u_Vq_Tu _ k_Tu_115) (u_Vq_Tu _ k_Tu_116) (u_Vq_Tu _ k_Tu_175) (u_Vq_Tu _ k_Tu_0) (wcs (u_Vq_Tu _ k_Tu_117) (fun _ h => h))) rfl rfl rfl (by decide +kernel) ⟨Nat.le_of_ble_eq_true rfl, Nat.le_of_ble_eq_true rfl⟩) (pv_ofE (X.same _) (fun U z1 z2 => X.mono _ _ U hFc (hEw _ _ hS U z1 z2)) hP hK hD (va_recv hK hP (ci := 10) (q0 := 8) rfl rfl)) rfl rfl hl.1 rfl (lv_room (Nat.le_of_ble_eq_true rfl)) d_Tu_fillSuperblock_221 ⟨by decide, by decide⟩) hS (fun q _ h => hFc q h) hFc (fun u t H locs ht hvm hw hB hz1 hk1 hS => ?_)
    obtain ⟨hP, -, hD⟩ := hB
    rw [ht] at hP
    have hD := lx_dj hD hFc
    rw [hQ]
    have e2 : S_23 = S' := Option.some.inj h
    have hP := ly_newP e2.symm hP
    have hD := ly_newD e2.symm hD
    exact W.vret hx hb hr (fun t ht hW => ⟨⟨(), rfl, trivial, by rw [ht]; exact hP, va_K.moved hW.alike hK, hD⟩, hS.F ht⟩) hS.2.2 d_Tu_fillSuperblock_224
set_option maxHeartbeats 4000000 in
set_option maxRecDepth 100000 in
theorem l_Tu_directoriesOf (l : Launch) (dC : Nat → ClassId) (dI : Nat → Nat → Nat) {K : Nat} {M : CA} {E : (Nat → Prop) → State → Prop} (X : ly_X l dC dI K M E) (sz : Nat) {Y : CT} {G : CG} {S S' : CS} {p0 : Int32} {r : Int32} (h : f_Tu_directoriesOf K G S p0 = some (r, S')) : Met l y_Tu_directoriesOf (.code y_Tu_directoriesOf cb_Tu_directoriesOf 5 (some .int) :: V_Vq) ({ frames := 2, cells := 0, slots := 0, locals := 42 }) (va_Pc [.ref M.o_Tu, .int p0] (fun U => U.heap.size = sz ∧ at_ (dC, dI) (fun _ => True) (wV M Y G S) (tV M) U ∧ E (va_A (wV M Y G S) sz) U)) (va_Qi (fun (r_ : Int32) (u : Unit) => r_ = r) (fun (u : Unit) t => at_ (dC, dI) (va_A (wV M Y G S) sz) (wV M Y G S') (tV M) t) (va_A (wV M Y G S) sz)) 0 0 (va_A (wV M Y G S) sz) := by
  refine Met.ofW (cc := cb_Tu_directoriesOf) (maxL := 5) (ret := (some .int)) (by decide) rfl ?_
  intro p e s m args below meth c s₁ B hml hv
  obtain ⟨rfl, hsz, ⟨hP, hK, hD0⟩, hE⟩ := hv
  have hx := B.exec
  have hb := B.bytes
  have hr := B.returns
  have hts0 := atoms_spec (ws := .code y_Tu_directoriesOf cb_Tu_directoriesOf 5 (some .int) :: V_Vq) B.pre
  have hts : ∀ w ∈ V_Vq, w.before ([.ref M.o_Tu, .int p0] : List Value).toArray s = true := fun w h => hts0 w (List.mem_cons_of_mem _ h)
  have hown : s.vm.findClass R_Tu = some m.cls := findClass_of_methodNamed B.named
  subst hsz
  have hD := hD0.self (sz := s.heap.size)
  generalize hAe : va_A (wV M Y G S) s.heap.size = A at hD hE ⊢
  have hA : ∀ q : Nat, s.heap.size ≤ q → A q := fun q h => by rw [← hAe]; exact Or.inr h
  have hS : va_S A s.heap s.heap [] := va_S.rf
  have hP : va_P (dC, dI) classes (wV M Y G S) s.heap := hP
  have hK : va_K (dC, dI) classes (tV M) s := hK
  have hEw : ∀ (H : Heap) (locs : List Loc), va_S A s.heap H locs → ∀ U : State, U.heap = H → s.WarmedH U.vm → E A U := fun H locs hS U hU hW => X.kept A s U H locs hE hS hU hW
  have hl := lv_entry ([.ref M.o_Tu, .int p0]) (n := 5) (Nat.le_of_ble_eq_true rfl)
  rw [lg_entry_eq]
  generalize (lg_sl ([.ref M.o_Tu, .int p0]) ++ List.replicate (5 - (lg_sl ([.ref M.o_Tu, .int p0])).length) Slot.unset).toArray = ls at hl ⊢
  have hl : lv_has ls 5 [(0, .ref M.o_Tu), (1, .int p0)] := hl
  refine qabs (fun Q hQ => ?_)
  have hB_67 : ∀ (rec_4 : Int32 → Int32 → Int32 → CS → Option (Int32 × CS)) (hr_4 : ∀ (y_1 : Int32) (y_2 : Int32) (y_3 : Int32) (S : CS) (H : Heap) (locs : List Loc) (ls : Array Slot), rec_4 y_1 y_2 y_3 S = some (r, S') → va_P (dC, dI) classes (wV M Y G S) H → va_D A (wV M Y G S) → va_S A s.heap H locs → lv_has ls 5 [(0, .ref M.o_Tu), (1, .int y_1), (2, .int y_2), (3, .int y_3)] → W p l e ({ frames := 2, cells := 0, slots := 0, locals := 42 }) s m ([.ref M.o_Tu, .int p0] : List Value).toArray below meth c H locs 0 0 Q (F0 m 4 ls [])), ∀ (y_1 : Int32) (y_3 : Int32) (z_0 : Int32) (z_1 : Int32) (S : CS) (H : Heap) (locs : List Loc) (ls : Array Slot), f_Tu_directoriesOf_67 K G rec_4 y_1 y_3 z_0 z_1 S = some (r, S') → va_P (dC, dI) classes (wV M Y G S) H → va_D A (wV M Y G S) → va_S A s.heap H locs → lv_has ls 5 [(0, .ref M.o_Tu), (1, .int y_1), (3, .int y_3)] → W p l e ({ frames := 2, cells := 0, slots := 0, locals := 42 }) s m ([.ref M.o_Tu, .int p0] : List Value).toArray below meth c H locs 0 0 Q (F0 m 67 ls [.int z_1, .int z_0]) := by
    intro rec_4 hr_4 y_1 y_3 z_0 z_1 S H locs ls h hP hD hS hl
    rw [f_Tu_directoriesOf_67] at h
    refine lv_iadd hx hb d_Tu_directoriesOf_67 ?_
    refine lv_topi (fun x_8 ex_8 => ?_)
    have h := lf_lE h ex_8
    refine lv_istore_n (lv' := [(2, .int x_8), (0, .ref M.o_Tu), (1, .int y_1), (3, .int y_3)]) hx hb d_Tu_directoriesOf_68 rfl hl (by decide) rfl (fun ls hl => ?_)
    obtain ⟨x_9, ex_9, h⟩ := lf_lX h
    refine lv_iinc (v := x_9) (lv' := [(3, .int x_9), (2, .int x_8), (0, .ref M.o_Tu), (1, .int y_1)]) hx hb d_Tu_directoriesOf_69 hl (k := 3) rfl (by rw [ex_9]; rfl) (by decide) rfl (fun ls hl => ?_)
    refine lv_goto (tgt := 4) hx hb d_Tu_directoriesOf_72 (by decide) ?_
    exact hr_4 y_1 x_8 x_9 S _ _ _ h hP hD hS (lv_sub hl [2, 3, 1, 0] rfl)
  have hB_66 : ∀ (rec_4 : Int32 → Int32 → Int32 → CS → Option (Int32 × CS)) (hr_4 : ∀ (y_1 : Int32) (y_2 : Int32) (y_3 : Int32) (S : CS) (H : Heap) (locs : List Loc) (ls : Array Slot), rec_4 y_1 y_2 y_3 S = some (r, S') → va_P (dC, dI) classes (wV M Y G S) H → va_D A (wV M Y G S) → va_S A s.heap H locs → lv_has ls 5 [(0, .ref M.o_Tu), (1, .int y_1), (2, .int y_2), (3, .int y_3)] → W p l e ({ frames := 2, cells := 0, slots := 0, locals := 42 }) s m ([.ref M.o_Tu, .int p0] : List Value).toArray below meth c H locs 0 0 Q (F0 m 4 ls [])), ∀ (y_1 : Int32) (y_3 : Int32) (z_0 : Int32) (S : CS) (H : Heap) (locs : List Loc) (ls : Array Slot), f_Tu_directoriesOf_66 K G rec_4 y_1 y_3 z_0 S = some (r, S') → va_P (dC, dI) classes (wV M Y G S) H → va_D A (wV M Y G S) → va_S A s.heap H locs → lv_has ls 5 [(0, .ref M.o_Tu), (1, .int y_1), (3, .int y_3)] → W p l e ({ frames := 2, cells := 0, slots := 0, locals := 42 }) s m ([.ref M.o_Tu, .int p0] : List Value).toArray below meth c H locs 0 0 Q (F0 m 66 ls [.int z_0]) := by
    intro rec_4 hr_4 y_1 y_3 z_0 S H locs ls h hP hD hS hl
    rw [f_Tu_directoriesOf_66] at h
    refine lv_iconst (v := 0) hx hb d_Tu_directoriesOf_66 (by decide) ?_
    exact hB_67 _ hr_4 y_1 y_3 z_0 0 S _ _ _ h hP hD hS (lv_sub hl [0, 1, 2] rfl)
  have hB_4 : ∀ (k : Nat), ∀ (y_1 : Int32) (y_2 : Int32) (y_3 : Int32) (S : CS) (H : Heap) (locs : List Loc) (ls : Array Slot), f_Tu_directoriesOf_4 K G k y_1 y_2 y_3 S = some (r, S') → va_P (dC, dI) classes (wV M Y G S) H → va_D A (wV M Y G S) → va_S A s.heap H locs → lv_has ls 5 [(0, .ref M.o_Tu), (1, .int y_1), (2, .int y_2), (3, .int y_3)] → W p l e ({ frames := 2, cells := 0, slots := 0, locals := 42 }) s m ([.ref M.o_Tu, .int p0] : List Value).toArray below meth c H locs 0 0 Q (F0 m 4 ls []) := by
    intro k
    induction k with
    | zero => intro y_1 y_2 y_3 S H locs ls h; exact lf_no h
    | succ k hr_4 =>
      intro y_1 y_2 y_3 S H locs ls h hP hD hS hl
      rw [f_Tu_directoriesOf_4] at h
      refine lv_iload_n hx hb d_Tu_directoriesOf_4 rfl (lv_at hl 3 rfl) ?_
      refine lv_aload_n hx hb d_Tu_directoriesOf_5 rfl (lv_at hl 0 rfl) ?_
      refine va_get (D := (dC, dI)) (ci := 10) (v := .ref M.o_Tr) (C := R_Tu) (T := F_Tu) (N := 7) hx hb hts (fun w h => u_Vq_Tu w (i_Tu w h)) hown hK hP 8 rfl rfl 2 (by decide) (hts _ (u_Vq_Tu _ k_Tu_19)) (fun _ h9 => h9) rfl d_Tu_directoriesOf_6 ?_
      refine va_get (D := (dC, dI)) (ci := 5) (v := .int S.v_Tr_count) (C := R_Tr) (T := F_Tr) (N := 18) hx hb hts (fun w h => u_Vq_Tr w (i_Tr w h)) hown hK hP 4 rfl rfl 0 (by decide) (hts _ (u_Vq_Tu _ k_Tu_4)) (fun _ h9 => h9) rfl d_Tu_directoriesOf_9 ?_
      refine lv_icmp_ge (tgt := 75) hx hb d_Tu_directoriesOf_12 (by decide) (fun c_1 => ?_) (fun c_1 => ?_)
      · have h := lf_t h c_1
        refine lv_iload_n hx hb d_Tu_directoriesOf_75 rfl (lv_at hl 2 rfl) ?_
        rw [hQ]
        have e1 : y_2 = r := congrArg Prod.fst (Option.some.inj h)
        have e2 : S = S' := congrArg Prod.snd (Option.some.inj h)
        have hP := ly_newP e2.symm hP
        have hD := ly_newD e2.symm hD
        exact W.iret (v := y_2) hx hb hr (fun t ht hW => ⟨⟨y_2, (), rfl, e1, by rw [ht]; exact hP, va_K.moved hW.alike hK, hD⟩, hS.F ht⟩) hS.2.2 d_Tu_directoriesOf_76
      · have h := lf_f h c_1
        refine lv_iload_n hx hb d_Tu_directoriesOf_15 rfl (lv_at hl 3 rfl) ?_
        obtain ⟨r_2, hc_2, h⟩ := lf_bE h
        have hFc := lx_free0 hS hA
        refine va_calli (va_runS (As := [.int y_3]) (rest := []) ⟨hx, hb, hml, hown, hts⟩ (l_Tu_inodeOf l dC dI  _ hc_2) (va_cwS 1 hts (gwS good_Vq (u_Vq_Tu _ k_Tu_81) (u_Vq_Tu _ k_Tu_82) (u_Vq_Tu _ k_Tu_0) (wcs (u_Vq_Tu _ k_Tu_83) (fun _ h => h))) rfl rfl rfl (by decide +kernel) ⟨Nat.le_of_ble_eq_true rfl, Nat.le_of_ble_eq_true rfl⟩) (ps_of (W := []) (tys := []) (hP.sub (ws' := []) [] rfl) (hK.sub [] rfl) (hD.sub (ws' := []) [] (by decide) rfl)) rfl rfl hl.1 rfl (lv_room (Nat.le_of_ble_eq_true rfl)) d_Tu_directoriesOf_16 ⟨by decide, by decide⟩) hS (fun q _ h => hFc q h) hFc (fun r_ u t H locs ht hvm hw hB hz1 hk1 hS => ?_)
        rw [hw]
        have hP := lx_stat (A := A) hP hk1
        refine lv_iconst (v := 1) hx hb d_Tu_directoriesOf_19 (by decide) ?_
        refine lv_isub hx hb d_Tu_directoriesOf_20 ?_
        refine lv_iload_n hx hb d_Tu_directoriesOf_21 rfl (lv_at hl 1 rfl) ?_
        refine lv_aload_n hx hb d_Tu_directoriesOf_22 rfl (lv_at hl 0 rfl) ?_
        refine va_get (D := (dC, dI)) (ci := 10) (v := .ref M.o_Pl) (C := R_Tu) (T := F_Tu) (N := 7) hx hb hts (fun w h => u_Vq_Tu w (i_Tu w h)) hown hK hP 8 rfl rfl 4 (by decide) (hts _ (u_Vq_Tu _ k_Tu_21)) (fun _ h9 => h9) rfl d_Tu_directoriesOf_23 ?_
        refine va_get (D := (dC, dI)) (ci := 9) (v := .int S.v_Pl_inodes) (C := R_Pl) (T := F_Pl) (N := 17) hx hb hts (fun w h => u_Vq_Pl w (i_Pl w h)) hown hK hP 7 rfl rfl 13 (by decide) (hts _ (u_Vq_Tu _ k_Tu_11)) (fun _ h9 => h9) rfl d_Tu_directoriesOf_26 ?_
        refine lv_imul hx hb d_Tu_directoriesOf_29 ?_
        refine lv_isub hx hb d_Tu_directoriesOf_30 ?_
        refine lv_topi (fun x_3 ex_3 => ?_)
        have h := lf_lE h ex_3
        refine lv_istore (lv' := [(4, .int x_3), (0, .ref M.o_Tu), (1, .int y_1), (2, .int y_2), (3, .int y_3)]) hx hb d_Tu_directoriesOf_31 hl (by decide) rfl (fun ls hl => ?_)
        refine lv_iload_n hx hb d_Tu_directoriesOf_33 rfl (lv_at hl 3 rfl) ?_
        refine lv_aload_n hx hb d_Tu_directoriesOf_34 rfl (lv_at hl 1 rfl) ?_
        refine va_get (D := (dC, dI)) (ci := 10) (v := .ref M.o_Tr) (C := R_Tu) (T := F_Tu) (N := 7) hx hb hts (fun w h => u_Vq_Tu w (i_Tu w h)) hown hK hP 8 rfl rfl 2 (by decide) (hts _ (u_Vq_Tu _ k_Tu_19)) (fun _ h9 => h9) rfl d_Tu_directoriesOf_35 ?_
        refine lv_iload_n hx hb d_Tu_directoriesOf_38 rfl (lv_at hl 4 rfl) ?_
        obtain ⟨r_4, S_4, hc_4, h⟩ := lf_cE h
        have hFc := lx_free hD hS hA
        refine va_calli (va_runV (As := [.int y_3]) (rest := [.int y_2]) ⟨hx, hb, hml, hown, hts⟩ (l_Tr_isDirectory l dC dI X _ hc_4) (cwV 1 hts (gwV good_Vq (u_Vq_Tu _ k_Tu_61) (u_Vq_Tr _ k_Tr_42) (u_Vq_Tr _ k_Tr_43) (u_Vq_Tr _ k_Tr_0) (wcs (u_Vq_Tr _ k_Tr_44) (fun _ h => h))) rfl rfl rfl (by decide +kernel) ⟨Nat.le_of_ble_eq_true rfl, Nat.le_of_ble_eq_true rfl⟩) (pv_ofE (X.same _) (fun U z1 z2 => X.mono _ _ U hFc (hEw _ _ hS U z1 z2)) hP hK hD (va_recv hK hP (ci := 5) (q0 := 4) rfl rfl)) rfl rfl hl.1 rfl (lv_room (Nat.le_of_ble_eq_true rfl)) d_Tu_directoriesOf_39 ⟨by decide, by decide⟩) hS (fun q _ h => hFc q h) hFc (fun r_ u t H locs ht hvm hw hB hz1 hk1 hS => ?_)
        rw [hw]
        obtain ⟨hP, -, hD⟩ := hB
        rw [ht] at hP
        have hD := lx_dj hD hFc
        refine lv_if_eq (tgt := 66) hx hb d_Tu_directoriesOf_42 (by decide) (fun c_5 => ?_) (fun c_5 => ?_)
        · have h := lf_t h c_5
          exact hB_66 _ hr_4 y_1 y_3 y_2 S_4 _ _ _ h hP hD hS (lv_sub hl [1, 2, 4] rfl)
        · have h := lf_f h c_5
          refine lv_iload hx hb d_Tu_directoriesOf_45 (lv_at hl 0 rfl) ?_
          refine lv_if_lt (tgt := 66) hx hb d_Tu_directoriesOf_47 (by decide) (fun c_6 => ?_) (fun c_6 => ?_)
          · have h := lf_t h c_6
            exact hB_66 _ hr_4 y_1 y_3 y_2 S_4 _ _ _ h hP hD hS (lv_sub hl [1, 2, 4] rfl)
          · have h := lf_f h c_6
            refine lv_iload hx hb d_Tu_directoriesOf_50 (lv_at hl 0 rfl) ?_
            refine lv_aload_n hx hb d_Tu_directoriesOf_52 rfl (lv_at hl 1 rfl) ?_
            refine va_get (D := (dC, dI)) (ci := 10) (v := .ref M.o_Pl) (C := R_Tu) (T := F_Tu) (N := 7) hx hb hts (fun w h => u_Vq_Tu w (i_Tu w h)) hown hK hP 8 rfl rfl 4 (by decide) (hts _ (u_Vq_Tu _ k_Tu_21)) (fun _ h9 => h9) rfl d_Tu_directoriesOf_53 ?_
            refine va_get (D := (dC, dI)) (ci := 9) (v := .int S_4.v_Pl_inodes) (C := R_Pl) (T := F_Pl) (N := 17) hx hb hts (fun w h => u_Vq_Pl w (i_Pl w h)) hown hK hP 7 rfl rfl 13 (by decide) (hts _ (u_Vq_Tu _ k_Tu_11)) (fun _ h9 => h9) rfl d_Tu_directoriesOf_56 ?_
            refine lv_icmp_ge (tgt := 66) hx hb d_Tu_directoriesOf_59 (by decide) (fun c_7 => ?_) (fun c_7 => ?_)
            · have h := lf_t h c_7
              exact hB_66 _ hr_4 y_1 y_3 y_2 S_4 _ _ _ h hP hD hS (lv_sub hl [1, 2, 4] rfl)
            · have h := lf_f h c_7
              refine lv_iconst (v := 1) hx hb d_Tu_directoriesOf_62 (by decide) ?_
              refine lv_goto (tgt := 67) hx hb d_Tu_directoriesOf_63 (by decide) ?_
              exact hB_67 _ hr_4 y_1 y_3 y_2 1 S_4 _ _ _ h hP hD hS (lv_sub hl [1, 2, 4] rfl)
  rw [f_Tu_directoriesOf] at h
  refine lv_iconst (v := 0) hx hb d_Tu_directoriesOf_0 (by decide) ?_
  refine lv_istore_n (lv' := [(2, .int 0), (0, .ref M.o_Tu), (1, .int p0)]) hx hb d_Tu_directoriesOf_1 rfl hl (by decide) rfl (fun ls hl => ?_)
  refine lv_iconst (v := 0) hx hb d_Tu_directoriesOf_2 (by decide) ?_
  refine lv_istore_n (lv' := [(3, .int 0), (2, .int 0), (0, .ref M.o_Tu), (1, .int p0)]) hx hb d_Tu_directoriesOf_3 rfl hl (by decide) rfl (fun ls hl => ?_)
  exact hB_4 K p0 0 0 S _ _ _ h hP hD hS (lv_sub hl [2, 3, 1, 0] rfl)
set_option maxHeartbeats 4000000 in
set_option maxRecDepth 100000 in
theorem l_Tu_fillDescriptors (l : Launch) (dC : Nat → ClassId) (dI : Nat → Nat → Nat) {K : Nat} {M : CA} {E : (Nat → Prop) → State → Prop} (X : ly_X l dC dI K M E) (sz : Nat) {Y : CT} {G : CG} {S S' : CS} (h : f_Tu_fillDescriptors K G S = some S') : Met l y_Tu_fillDescriptors (.code y_Tu_fillDescriptors cb_Tu_fillDescriptors 3 none :: V_Vq) ({ frames := 3, cells := 0, slots := 0, locals := 84 }) (va_Pc [.ref M.o_Tu] (fun U => U.heap.size = sz ∧ at_ (dC, dI) (fun _ => True) (wV M Y G S) (tV M) U ∧ E (va_A (wV M Y G S) sz) U)) (va_Qv (fun (u : Unit) => True) (fun (u : Unit) t => at_ (dC, dI) (va_A (wV M Y G S) sz) (wV M Y G S') (tV M) t) (va_A (wV M Y G S) sz)) 0 0 (va_A (wV M Y G S) sz) := by
  refine Met.ofW (cc := cb_Tu_fillDescriptors) (maxL := 3) (ret := none) (by decide) rfl ?_
  intro p e s m args below meth c s₁ B hml hv
  obtain ⟨rfl, hsz, ⟨hP, hK, hD0⟩, hE⟩ := hv
  have hx := B.exec
  have hb := B.bytes
  have hr := B.returns
  have hts0 := atoms_spec (ws := .code y_Tu_fillDescriptors cb_Tu_fillDescriptors 3 none :: V_Vq) B.pre
  have hts : ∀ w ∈ V_Vq, w.before ([.ref M.o_Tu] : List Value).toArray s = true := fun w h => hts0 w (List.mem_cons_of_mem _ h)
  have hown : s.vm.findClass R_Tu = some m.cls := findClass_of_methodNamed B.named
  subst hsz
  have hD := hD0.self (sz := s.heap.size)
  generalize hAe : va_A (wV M Y G S) s.heap.size = A at hD hE ⊢
  have hA : ∀ q : Nat, s.heap.size ≤ q → A q := fun q h => by rw [← hAe]; exact Or.inr h
  have hS : va_S A s.heap s.heap [] := va_S.rf
  have hP : va_P (dC, dI) classes (wV M Y G S) s.heap := hP
  have hK : va_K (dC, dI) classes (tV M) s := hK
  have hEw : ∀ (H : Heap) (locs : List Loc), va_S A s.heap H locs → ∀ U : State, U.heap = H → s.WarmedH U.vm → E A U := fun H locs hS U hU hW => X.kept A s U H locs hE hS hU hW
  have hl := lv_entry ([.ref M.o_Tu]) (n := 3) (Nat.le_of_ble_eq_true rfl)
  rw [lg_entry_eq]
  generalize (lg_sl ([.ref M.o_Tu]) ++ List.replicate (3 - (lg_sl ([.ref M.o_Tu])).length) Slot.unset).toArray = ls at hl ⊢
  have hl : lv_has ls 3 [(0, .ref M.o_Tu)] := hl
  refine qabs (fun Q hQ => ?_)
  have hB_6 : ∀ (k : Nat), ∀ (y_1 : Int32) (S : CS) (H : Heap) (locs : List Loc) (ls : Array Slot), f_Tu_fillDescriptors_6 K G k y_1 S = some S' → va_P (dC, dI) classes (wV M Y G S) H → va_D A (wV M Y G S) → va_S A s.heap H locs → lv_has ls 3 [(0, .ref M.o_Tu), (1, .int y_1)] → W p l e ({ frames := 3, cells := 0, slots := 0, locals := 84 }) s m ([.ref M.o_Tu] : List Value).toArray below meth c H locs 0 0 Q (F0 m 6 ls []) := by
    intro k
    induction k with
    | zero => intro y_1 S H locs ls h; exact lf_no h
    | succ k hr_6 =>
      intro y_1 S H locs ls h hP hD hS hl
      rw [f_Tu_fillDescriptors_6] at h
      refine lv_iload_n hx hb d_Tu_fillDescriptors_6 rfl (lv_at hl 1 rfl) ?_
      refine lv_aload_n hx hb d_Tu_fillDescriptors_7 rfl (lv_at hl 0 rfl) ?_
      refine va_get (D := (dC, dI)) (ci := 10) (v := .ref M.o_Pl) (C := R_Tu) (T := F_Tu) (N := 7) hx hb hts (fun w h => u_Vq_Tu w (i_Tu w h)) hown hK hP 8 rfl rfl 4 (by decide) (hts _ (u_Vq_Tu _ k_Tu_21)) (fun _ h9 => h9) rfl d_Tu_fillDescriptors_8 ?_
      refine va_get (D := (dC, dI)) (ci := 9) (v := .int S.v_Pl_groups) (C := R_Pl) (T := F_Pl) (N := 17) hx hb hts (fun w h => u_Vq_Pl w (i_Pl w h)) hown hK hP 7 rfl rfl 12 (by decide) (hts _ (u_Vq_Tu _ k_Tu_10)) (fun _ h9 => h9) rfl d_Tu_fillDescriptors_11 ?_
      refine lv_icmp_ge (tgt := 121) hx hb d_Tu_fillDescriptors_14 (by decide) (fun c_2 => ?_) (fun c_2 => ?_)
      · have h := lf_t h c_2
        rw [hQ]
        have e2 : S = S' := Option.some.inj h
        have hP := ly_newP e2.symm hP
        have hD := ly_newD e2.symm hD
        exact W.vret hx hb hr (fun t ht hW => ⟨⟨(), rfl, trivial, by rw [ht]; exact hP, va_K.moved hW.alike hK, hD⟩, hS.F ht⟩) hS.2.2 d_Tu_fillDescriptors_121
      · have h := lf_f h c_2
        refine lv_iload_n hx hb d_Tu_fillDescriptors_17 rfl (lv_at hl 1 rfl) ?_
        refine lv_bipush (v := 32) hx hb d_Tu_fillDescriptors_18 (by decide) ?_
        refine lv_imul hx hb d_Tu_fillDescriptors_20 ?_
        refine lv_topi (fun x_3 ex_3 => ?_)
        have h := lf_lE h ex_3
        refine lv_istore_n (lv' := [(2, .int x_3), (0, .ref M.o_Tu), (1, .int y_1)]) hx hb d_Tu_fillDescriptors_21 rfl hl (by decide) rfl (fun ls hl => ?_)
        refine lv_aload_n hx hb d_Tu_fillDescriptors_22 rfl (lv_at hl 1 rfl) ?_
        refine lv_iload_n hx hb d_Tu_fillDescriptors_23 rfl (lv_at hl 0 rfl) ?_
        refine lv_aload_n hx hb d_Tu_fillDescriptors_24 rfl (lv_at hl 1 rfl) ?_
        refine va_get (D := (dC, dI)) (ci := 10) (v := .ref M.o_Pl) (C := R_Tu) (T := F_Tu) (N := 7) hx hb hts (fun w h => u_Vq_Tu w (i_Tu w h)) hown hK hP 8 rfl rfl 4 (by decide) (hts _ (u_Vq_Tu _ k_Tu_21)) (fun _ h9 => h9) rfl d_Tu_fillDescriptors_25 ?_
        refine lv_iload_n hx hb d_Tu_fillDescriptors_28 rfl (lv_at hl 2 rfl) ?_
        obtain ⟨r_4, S_4, hc_4, h⟩ := lf_cE h
        have hFc := lx_free hD hS hA
        refine va_calli (va_runV (As := [.int y_1]) (rest := [.int x_3, .ref M.o_Tu]) ⟨hx, hb, hml, hown, hts⟩ (l_Pl_mapBlock l dC dI X _ hc_4) (cwV 1 hts (gwV good_Vq (u_Vq_Tu _ k_Tu_123) (u_Vq_Pl _ k_Pl_53) (u_Vq_Pl _ k_Pl_54) (u_Vq_Pl _ k_Pl_0) (wcs (u_Vq_Pl _ k_Pl_55) (fun _ h => h))) rfl rfl rfl (by decide +kernel) ⟨Nat.le_of_ble_eq_true rfl, Nat.le_of_ble_eq_true rfl⟩) (pv_ofE (X.same _) (fun U z1 z2 => X.mono _ _ U hFc (hEw _ _ hS U z1 z2)) hP hK hD (va_recv hK hP (ci := 9) (q0 := 7) rfl rfl)) rfl rfl hl.1 rfl (lv_room (Nat.le_of_ble_eq_true rfl)) d_Tu_fillDescriptors_29 ⟨by decide, by decide⟩) hS (fun q _ h => hFc q h) hFc (fun r_ u t H locs ht hvm hw hB hz1 hk1 hS => ?_)
        rw [hw]
        obtain ⟨hP, -, hD⟩ := hB
        rw [ht] at hP
        have hD := lx_dj hD hFc
        obtain ⟨S_5, hc_5, h⟩ := lf_bE h
        have hFc := lx_free hD hS hA
        refine va_callv (va_runV (As := [.int x_3, .int r_4]) (rest := []) ⟨hx, hb, hml, hown, hts⟩ (l_Tu_putFour l dC dI X _ hc_5) (cwV 2 hts (gwV good_Vq (u_Vq_Tu _ k_Tu_84) (u_Vq_Tu _ k_Tu_85) (u_Vq_Tu _ k_Tu_168) (u_Vq_Tu _ k_Tu_0) (wcs (u_Vq_Tu _ k_Tu_86) (fun _ h => h))) rfl rfl rfl (by decide +kernel) ⟨Nat.le_of_ble_eq_true rfl, Nat.le_of_ble_eq_true rfl⟩) (pv_ofE (X.same _) (fun U z1 z2 => X.mono _ _ U hFc (hEw _ _ hS U z1 z2)) hP hK hD (va_recv hK hP (ci := 10) (q0 := 8) rfl rfl)) rfl rfl hl.1 rfl (lv_room (Nat.le_of_ble_eq_true rfl)) d_Tu_fillDescriptors_32 ⟨by decide, by decide⟩) hS (fun q _ h => hFc q h) hFc (fun u t H locs ht hvm hw hB hz1 hk1 hS => ?_)
        obtain ⟨hP, -, hD⟩ := hB
        rw [ht] at hP
        have hD := lx_dj hD hFc
        refine lv_aload_n hx hb d_Tu_fillDescriptors_35 rfl (lv_at hl 1 rfl) ?_
        refine lv_iload_n hx hb d_Tu_fillDescriptors_36 rfl (lv_at hl 0 rfl) ?_
        refine lv_iconst (v := 4) hx hb d_Tu_fillDescriptors_37 (by decide) ?_
        refine lv_iadd hx hb d_Tu_fillDescriptors_38 ?_
        refine lv_aload_n hx hb d_Tu_fillDescriptors_39 rfl (lv_at hl 1 rfl) ?_
        refine va_get (D := (dC, dI)) (ci := 10) (v := .ref M.o_Pl) (C := R_Tu) (T := F_Tu) (N := 7) hx hb hts (fun w h => u_Vq_Tu w (i_Tu w h)) hown hK hP 8 rfl rfl 4 (by decide) (hts _ (u_Vq_Tu _ k_Tu_21)) (fun _ h9 => h9) rfl d_Tu_fillDescriptors_40 ?_
        refine lv_iload_n hx hb d_Tu_fillDescriptors_43 rfl (lv_at hl 2 rfl) ?_
        obtain ⟨r_6, S_6, hc_6, h⟩ := lf_cE h
        have hFc := lx_free hD hS hA
        refine va_calli (va_runV (As := [.int y_1]) (rest := [.int (x_3 + 4), .ref M.o_Tu]) ⟨hx, hb, hml, hown, hts⟩ (l_Pl_mapBlock l dC dI X _ hc_6) (cwV 1 hts (gwV good_Vq (u_Vq_Tu _ k_Tu_123) (u_Vq_Pl _ k_Pl_53) (u_Vq_Pl _ k_Pl_54) (u_Vq_Pl _ k_Pl_0) (wcs (u_Vq_Pl _ k_Pl_55) (fun _ h => h))) rfl rfl rfl (by decide +kernel) ⟨Nat.le_of_ble_eq_true rfl, Nat.le_of_ble_eq_true rfl⟩) (pv_ofE (X.same _) (fun U z1 z2 => X.mono _ _ U hFc (hEw _ _ hS U z1 z2)) hP hK hD (va_recv hK hP (ci := 9) (q0 := 7) rfl rfl)) rfl rfl hl.1 rfl (lv_room (Nat.le_of_ble_eq_true rfl)) d_Tu_fillDescriptors_44 ⟨by decide, by decide⟩) hS (fun q _ h => hFc q h) hFc (fun r_ u t H locs ht hvm hw hB hz1 hk1 hS => ?_)
        rw [hw]
        obtain ⟨hP, -, hD⟩ := hB
        rw [ht] at hP
        have hD := lx_dj hD hFc
        refine lv_iconst (v := 1) hx hb d_Tu_fillDescriptors_47 (by decide) ?_
        refine lv_iadd hx hb d_Tu_fillDescriptors_48 ?_
        obtain ⟨S_7, hc_7, h⟩ := lf_bE h
        have hFc := lx_free hD hS hA
        refine va_callv (va_runV (As := [.int (x_3 + 4), .int (r_6 + 1)]) (rest := []) ⟨hx, hb, hml, hown, hts⟩ (l_Tu_putFour l dC dI X _ hc_7) (cwV 2 hts (gwV good_Vq (u_Vq_Tu _ k_Tu_84) (u_Vq_Tu _ k_Tu_85) (u_Vq_Tu _ k_Tu_168) (u_Vq_Tu _ k_Tu_0) (wcs (u_Vq_Tu _ k_Tu_86) (fun _ h => h))) rfl rfl rfl (by decide +kernel) ⟨Nat.le_of_ble_eq_true rfl, Nat.le_of_ble_eq_true rfl⟩) (pv_ofE (X.same _) (fun U z1 z2 => X.mono _ _ U hFc (hEw _ _ hS U z1 z2)) hP hK hD (va_recv hK hP (ci := 10) (q0 := 8) rfl rfl)) rfl rfl hl.1 rfl (lv_room (Nat.le_of_ble_eq_true rfl)) d_Tu_fillDescriptors_49 ⟨by decide, by decide⟩) hS (fun q _ h => hFc q h) hFc (fun u t H locs ht hvm hw hB hz1 hk1 hS => ?_)
        obtain ⟨hP, -, hD⟩ := hB
        rw [ht] at hP
        have hD := lx_dj hD hFc
        refine lv_aload_n hx hb d_Tu_fillDescriptors_52 rfl (lv_at hl 1 rfl) ?_
        refine lv_iload_n hx hb d_Tu_fillDescriptors_53 rfl (lv_at hl 0 rfl) ?_
        refine lv_bipush (v := 8) hx hb d_Tu_fillDescriptors_54 (by decide) ?_
        refine lv_iadd hx hb d_Tu_fillDescriptors_56 ?_
        refine lv_aload_n hx hb d_Tu_fillDescriptors_57 rfl (lv_at hl 1 rfl) ?_
        refine va_get (D := (dC, dI)) (ci := 10) (v := .ref M.o_Pl) (C := R_Tu) (T := F_Tu) (N := 7) hx hb hts (fun w h => u_Vq_Tu w (i_Tu w h)) hown hK hP 8 rfl rfl 4 (by decide) (hts _ (u_Vq_Tu _ k_Tu_21)) (fun _ h9 => h9) rfl d_Tu_fillDescriptors_58 ?_
        refine lv_iload_n hx hb d_Tu_fillDescriptors_61 rfl (lv_at hl 2 rfl) ?_
        obtain ⟨r_8, S_8, hc_8, h⟩ := lf_cE h
        have hFc := lx_free hD hS hA
        refine va_calli (va_runV (As := [.int y_1]) (rest := [.int (x_3 + 8), .ref M.o_Tu]) ⟨hx, hb, hml, hown, hts⟩ (l_Pl_mapBlock l dC dI X _ hc_8) (cwV 1 hts (gwV good_Vq (u_Vq_Tu _ k_Tu_123) (u_Vq_Pl _ k_Pl_53) (u_Vq_Pl _ k_Pl_54) (u_Vq_Pl _ k_Pl_0) (wcs (u_Vq_Pl _ k_Pl_55) (fun _ h => h))) rfl rfl rfl (by decide +kernel) ⟨Nat.le_of_ble_eq_true rfl, Nat.le_of_ble_eq_true rfl⟩) (pv_ofE (X.same _) (fun U z1 z2 => X.mono _ _ U hFc (hEw _ _ hS U z1 z2)) hP hK hD (va_recv hK hP (ci := 9) (q0 := 7) rfl rfl)) rfl rfl hl.1 rfl (lv_room (Nat.le_of_ble_eq_true rfl)) d_Tu_fillDescriptors_62 ⟨by decide, by decide⟩) hS (fun q _ h => hFc q h) hFc (fun r_ u t H locs ht hvm hw hB hz1 hk1 hS => ?_)
        rw [hw]
        obtain ⟨hP, -, hD⟩ := hB
        rw [ht] at hP
        have hD := lx_dj hD hFc
        refine lv_iconst (v := 2) hx hb d_Tu_fillDescriptors_65 (by decide) ?_
        refine lv_iadd hx hb d_Tu_fillDescriptors_66 ?_
        obtain ⟨S_9, hc_9, h⟩ := lf_bE h
        have hFc := lx_free hD hS hA
        refine va_callv (va_runV (As := [.int (x_3 + 8), .int (r_8 + 2)]) (rest := []) ⟨hx, hb, hml, hown, hts⟩ (l_Tu_putFour l dC dI X _ hc_9) (cwV 2 hts (gwV good_Vq (u_Vq_Tu _ k_Tu_84) (u_Vq_Tu _ k_Tu_85) (u_Vq_Tu _ k_Tu_168) (u_Vq_Tu _ k_Tu_0) (wcs (u_Vq_Tu _ k_Tu_86) (fun _ h => h))) rfl rfl rfl (by decide +kernel) ⟨Nat.le_of_ble_eq_true rfl, Nat.le_of_ble_eq_true rfl⟩) (pv_ofE (X.same _) (fun U z1 z2 => X.mono _ _ U hFc (hEw _ _ hS U z1 z2)) hP hK hD (va_recv hK hP (ci := 10) (q0 := 8) rfl rfl)) rfl rfl hl.1 rfl (lv_room (Nat.le_of_ble_eq_true rfl)) d_Tu_fillDescriptors_67 ⟨by decide, by decide⟩) hS (fun q _ h => hFc q h) hFc (fun u t H locs ht hvm hw hB hz1 hk1 hS => ?_)
        obtain ⟨hP, -, hD⟩ := hB
        rw [ht] at hP
        have hD := lx_dj hD hFc
        refine lv_aload_n hx hb d_Tu_fillDescriptors_70 rfl (lv_at hl 1 rfl) ?_
        refine lv_iload_n hx hb d_Tu_fillDescriptors_71 rfl (lv_at hl 0 rfl) ?_
        refine lv_bipush (v := 12) hx hb d_Tu_fillDescriptors_72 (by decide) ?_
        refine lv_iadd hx hb d_Tu_fillDescriptors_74 ?_
        refine lv_aload_n hx hb d_Tu_fillDescriptors_75 rfl (lv_at hl 1 rfl) ?_
        refine va_get (D := (dC, dI)) (ci := 10) (v := .ref M.o_Pl) (C := R_Tu) (T := F_Tu) (N := 7) hx hb hts (fun w h => u_Vq_Tu w (i_Tu w h)) hown hK hP 8 rfl rfl 4 (by decide) (hts _ (u_Vq_Tu _ k_Tu_21)) (fun _ h9 => h9) rfl d_Tu_fillDescriptors_76 ?_
        refine lv_iload_n hx hb d_Tu_fillDescriptors_79 rfl (lv_at hl 2 rfl) ?_
        obtain ⟨r_10, S_10, hc_10, h⟩ := lf_cE h
        have hFc := lx_free hD hS hA
        refine va_calli (va_runV (As := [.int y_1]) (rest := [.int (x_3 + 12), .ref M.o_Tu]) ⟨hx, hb, hml, hown, hts⟩ (l_Pl_freeBlocks l dC dI X _ hc_10) (cwV 1 hts (gwV good_Vq (u_Vq_Tu _ k_Tu_124) (u_Vq_Pl _ k_Pl_143) (u_Vq_Pl _ k_Pl_144) (u_Vq_Pl _ k_Pl_0) (wcs (u_Vq_Pl _ k_Pl_145) (fun _ h => h))) rfl rfl rfl (by decide +kernel) ⟨Nat.le_of_ble_eq_true rfl, Nat.le_of_ble_eq_true rfl⟩) (pv_ofE (X.same _) (fun U z1 z2 => X.mono _ _ U hFc (hEw _ _ hS U z1 z2)) hP hK hD (va_recv hK hP (ci := 9) (q0 := 7) rfl rfl)) rfl rfl hl.1 rfl (lv_room (Nat.le_of_ble_eq_true rfl)) d_Tu_fillDescriptors_80 ⟨by decide, by decide⟩) hS (fun q _ h => hFc q h) hFc (fun r_ u t H locs ht hvm hw hB hz1 hk1 hS => ?_)
        rw [hw]
        obtain ⟨hP, -, hD⟩ := hB
        rw [ht] at hP
        have hD := lx_dj hD hFc
        obtain ⟨S_11, hc_11, h⟩ := lf_bE h
        have hFc := lx_free hD hS hA
        refine va_callv (va_runV (As := [.int (x_3 + 12), .int r_10]) (rest := []) ⟨hx, hb, hml, hown, hts⟩ (l_Tu_putTwo l dC dI X _ hc_11) (cwV 2 hts (gwV good_Vq (u_Vq_Tu _ k_Tu_69) (u_Vq_Tu _ k_Tu_70) (u_Vq_Tu _ k_Tu_167) (u_Vq_Tu _ k_Tu_0) (wcs (u_Vq_Tu _ k_Tu_71) (fun _ h => h))) rfl rfl rfl (by decide +kernel) ⟨Nat.le_of_ble_eq_true rfl, Nat.le_of_ble_eq_true rfl⟩) (pv_ofE (X.same _) (fun U z1 z2 => X.mono _ _ U hFc (hEw _ _ hS U z1 z2)) hP hK hD (va_recv hK hP (ci := 10) (q0 := 8) rfl rfl)) rfl rfl hl.1 rfl (lv_room (Nat.le_of_ble_eq_true rfl)) d_Tu_fillDescriptors_83 ⟨by decide, by decide⟩) hS (fun q _ h => hFc q h) hFc (fun u t H locs ht hvm hw hB hz1 hk1 hS => ?_)
        obtain ⟨hP, -, hD⟩ := hB
        rw [ht] at hP
        have hD := lx_dj hD hFc
        refine lv_aload_n hx hb d_Tu_fillDescriptors_86 rfl (lv_at hl 1 rfl) ?_
        refine lv_iload_n hx hb d_Tu_fillDescriptors_87 rfl (lv_at hl 0 rfl) ?_
        refine lv_bipush (v := 14) hx hb d_Tu_fillDescriptors_88 (by decide) ?_
        refine lv_iadd hx hb d_Tu_fillDescriptors_90 ?_
        refine lv_aload_n hx hb d_Tu_fillDescriptors_91 rfl (lv_at hl 1 rfl) ?_
        refine va_get (D := (dC, dI)) (ci := 10) (v := .ref M.o_Pl) (C := R_Tu) (T := F_Tu) (N := 7) hx hb hts (fun w h => u_Vq_Tu w (i_Tu w h)) hown hK hP 8 rfl rfl 4 (by decide) (hts _ (u_Vq_Tu _ k_Tu_21)) (fun _ h9 => h9) rfl d_Tu_fillDescriptors_92 ?_
        refine lv_iload_n hx hb d_Tu_fillDescriptors_95 rfl (lv_at hl 2 rfl) ?_
        obtain ⟨r_12, S_12, hc_12, h⟩ := lf_cE h
        have hFc := lx_free hD hS hA
        refine va_calli (va_runV (As := [.int y_1]) (rest := [.int (x_3 + 14), .ref M.o_Tu]) ⟨hx, hb, hml, hown, hts⟩ (l_Pl_freeInodes l dC dI X _ hc_12) (cwV 1 hts (gwV good_Vq (u_Vq_Tu _ k_Tu_125) (u_Vq_Pl _ k_Pl_160) (u_Vq_Pl _ k_Pl_161) (u_Vq_Pl _ k_Pl_0) (wcs (u_Vq_Pl _ k_Pl_162) (fun _ h => h))) rfl rfl rfl (by decide +kernel) ⟨Nat.le_of_ble_eq_true rfl, Nat.le_of_ble_eq_true rfl⟩) (pv_ofE (X.same _) (fun U z1 z2 => X.mono _ _ U hFc (hEw _ _ hS U z1 z2)) hP hK hD (va_recv hK hP (ci := 9) (q0 := 7) rfl rfl)) rfl rfl hl.1 rfl (lv_room (Nat.le_of_ble_eq_true rfl)) d_Tu_fillDescriptors_96 ⟨by decide, by decide⟩) hS (fun q _ h => hFc q h) hFc (fun r_ u t H locs ht hvm hw hB hz1 hk1 hS => ?_)
        rw [hw]
        obtain ⟨hP, -, hD⟩ := hB
        rw [ht] at hP
        have hD := lx_dj hD hFc
        obtain ⟨S_13, hc_13, h⟩ := lf_bE h
        have hFc := lx_free hD hS hA
        refine va_callv (va_runV (As := [.int (x_3 + 14), .int r_12]) (rest := []) ⟨hx, hb, hml, hown, hts⟩ (l_Tu_putTwo l dC dI X _ hc_13) (cwV 2 hts (gwV good_Vq (u_Vq_Tu _ k_Tu_69) (u_Vq_Tu _ k_Tu_70) (u_Vq_Tu _ k_Tu_167) (u_Vq_Tu _ k_Tu_0) (wcs (u_Vq_Tu _ k_Tu_71) (fun _ h => h))) rfl rfl rfl (by decide +kernel) ⟨Nat.le_of_ble_eq_true rfl, Nat.le_of_ble_eq_true rfl⟩) (pv_ofE (X.same _) (fun U z1 z2 => X.mono _ _ U hFc (hEw _ _ hS U z1 z2)) hP hK hD (va_recv hK hP (ci := 10) (q0 := 8) rfl rfl)) rfl rfl hl.1 rfl (lv_room (Nat.le_of_ble_eq_true rfl)) d_Tu_fillDescriptors_99 ⟨by decide, by decide⟩) hS (fun q _ h => hFc q h) hFc (fun u t H locs ht hvm hw hB hz1 hk1 hS => ?_)
        obtain ⟨hP, -, hD⟩ := hB
        rw [ht] at hP
        have hD := lx_dj hD hFc
        refine lv_aload_n hx hb d_Tu_fillDescriptors_102 rfl (lv_at hl 1 rfl) ?_
        refine lv_iload_n hx hb d_Tu_fillDescriptors_103 rfl (lv_at hl 0 rfl) ?_
        refine lv_bipush (v := 16) hx hb d_Tu_fillDescriptors_104 (by decide) ?_
        refine lv_iadd hx hb d_Tu_fillDescriptors_106 ?_
        refine lv_aload_n hx hb d_Tu_fillDescriptors_107 rfl (lv_at hl 1 rfl) ?_
        refine lv_iload_n hx hb d_Tu_fillDescriptors_108 rfl (lv_at hl 2 rfl) ?_
        obtain ⟨r_14, S_14, hc_14, h⟩ := lf_cE h
        have hFc := lx_free hD hS hA
        refine va_calli (va_runV (As := [.int y_1]) (rest := [.int (x_3 + 16), .ref M.o_Tu]) ⟨hx, hb, hml, hown, hts⟩ (l_Tu_directoriesOf l dC dI X _ hc_14) (cwV 1 hts (gwV good_Vq (u_Vq_Tu _ k_Tu_126) (u_Vq_Tu _ k_Tu_127) (u_Vq_Tu _ k_Tu_177) (u_Vq_Tu _ k_Tu_0) (wcs (u_Vq_Tu _ k_Tu_128) (fun _ h => h))) rfl rfl rfl (by decide +kernel) ⟨Nat.le_of_ble_eq_true rfl, Nat.le_of_ble_eq_true rfl⟩) (pv_ofE (X.same _) (fun U z1 z2 => X.mono _ _ U hFc (hEw _ _ hS U z1 z2)) hP hK hD (va_recv hK hP (ci := 10) (q0 := 8) rfl rfl)) rfl rfl hl.1 rfl (lv_room (Nat.le_of_ble_eq_true rfl)) d_Tu_fillDescriptors_109 ⟨by decide, by decide⟩) hS (fun q _ h => hFc q h) hFc (fun r_ u t H locs ht hvm hw hB hz1 hk1 hS => ?_)
        rw [hw]
        obtain ⟨hP, -, hD⟩ := hB
        rw [ht] at hP
        have hD := lx_dj hD hFc
        obtain ⟨S_15, hc_15, h⟩ := lf_bE h
        have hFc := lx_free hD hS hA
        refine va_callv (va_runV (As := [.int (x_3 + 16), .int r_14]) (rest := []) ⟨hx, hb, hml, hown, hts⟩ (l_Tu_putTwo l dC dI X _ hc_15) (cwV 2 hts (gwV good_Vq (u_Vq_Tu _ k_Tu_69) (u_Vq_Tu _ k_Tu_70) (u_Vq_Tu _ k_Tu_167) (u_Vq_Tu _ k_Tu_0) (wcs (u_Vq_Tu _ k_Tu_71) (fun _ h => h))) rfl rfl rfl (by decide +kernel) ⟨Nat.le_of_ble_eq_true rfl, Nat.le_of_ble_eq_true rfl⟩) (pv_ofE (X.same _) (fun U z1 z2 => X.mono _ _ U hFc (hEw _ _ hS U z1 z2)) hP hK hD (va_recv hK hP (ci := 10) (q0 := 8) rfl rfl)) rfl rfl hl.1 rfl (lv_room (Nat.le_of_ble_eq_true rfl)) d_Tu_fillDescriptors_112 ⟨by decide, by decide⟩) hS (fun q _ h => hFc q h) hFc (fun u t H locs ht hvm hw hB hz1 hk1 hS => ?_)
        obtain ⟨hP, -, hD⟩ := hB
        rw [ht] at hP
        have hD := lx_dj hD hFc
        obtain ⟨x_16, ex_16, h⟩ := lf_lX h
        refine lv_iinc (v := x_16) (lv' := [(1, .int x_16), (2, .int x_3), (0, .ref M.o_Tu)]) hx hb d_Tu_fillDescriptors_115 hl (k := 2) rfl (by rw [ex_16]; rfl) (by decide) rfl (fun ls hl => ?_)
        refine lv_goto (tgt := 6) hx hb d_Tu_fillDescriptors_118 (by decide) ?_
        exact hr_6 x_16 S_15 _ _ _ h hP hD hS (lv_sub hl [2, 0] rfl)
  rw [f_Tu_fillDescriptors] at h
  refine lv_aload_n hx hb d_Tu_fillDescriptors_0 rfl (lv_at hl 0 rfl) ?_
  obtain ⟨S_1, hc_1, h⟩ := lf_bE h
  have hFc := lx_free hD hS hA
  refine va_callv (va_runV (As := []) (rest := []) ⟨hx, hb, hml, hown, hts⟩ (l_Tu_empty l dC dI X _ hc_1) (cwV 0 hts (gwV good_Vq (u_Vq_Tu _ k_Tu_57) (u_Vq_Tu _ k_Tu_58) (u_Vq_Tu _ k_Tu_164) (u_Vq_Tu _ k_Tu_0) (wcs (u_Vq_Tu _ k_Tu_59) (fun _ h => h))) rfl rfl rfl (by decide +kernel) ⟨Nat.le_of_ble_eq_true rfl, Nat.le_of_ble_eq_true rfl⟩) (pv_ofE (X.same _) (fun U z1 z2 => X.mono _ _ U hFc (hEw _ _ hS U z1 z2)) hP hK hD (va_recv hK hP (ci := 10) (q0 := 8) rfl rfl)) rfl rfl hl.1 rfl (lv_room (Nat.le_of_ble_eq_true rfl)) d_Tu_fillDescriptors_1 ⟨by decide, by decide⟩) hS (fun q _ h => hFc q h) hFc (fun u t H locs ht hvm hw hB hz1 hk1 hS => ?_)
  obtain ⟨hP, -, hD⟩ := hB
  rw [ht] at hP
  have hD := lx_dj hD hFc
  refine lv_iconst (v := 0) hx hb d_Tu_fillDescriptors_4 (by decide) ?_
  refine lv_istore_n (lv' := [(1, .int 0), (0, .ref M.o_Tu)]) hx hb d_Tu_fillDescriptors_5 rfl hl (by decide) rfl (fun ls hl => ?_)
  exact hB_6 K 0 S_1 _ _ _ h hP hD hS (lv_sub hl [1, 0] rfl)
set_option maxHeartbeats 4000000 in
set_option maxRecDepth 100000 in
theorem l_Tu_dropBit (l : Launch) (dC : Nat → ClassId) (dI : Nat → Nat → Nat) {K : Nat} {M : CA} {E : (Nat → Prop) → State → Prop} (X : ly_X l dC dI K M E) (sz : Nat) {Y : CT} {G : CG} {S S' : CS} {p0 : Int32} (h : f_Tu_dropBit K G S p0 = some S') : Met l y_Tu_dropBit (.code y_Tu_dropBit cb_Tu_dropBit 3 none :: V_Vq) ({ frames := 0, cells := 0, slots := 0, locals := 0 }) (va_Pc [.ref M.o_Tu, .int p0] (fun U => U.heap.size = sz ∧ at_ (dC, dI) (fun _ => True) (wV M Y G S) (tV M) U ∧ E (va_A (wV M Y G S) sz) U)) (va_Qv (fun (u : Unit) => True) (fun (u : Unit) t => at_ (dC, dI) (va_A (wV M Y G S) sz) (wV M Y G S') (tV M) t) (va_A (wV M Y G S) sz)) 0 0 (va_A (wV M Y G S) sz) := by
  refine Met.ofW (cc := cb_Tu_dropBit) (maxL := 3) (ret := none) (by decide) rfl ?_
  intro p e s m args below meth c s₁ B hml hv
  obtain ⟨rfl, hsz, ⟨hP, hK, hD0⟩, hE⟩ := hv
  have hx := B.exec
  have hb := B.bytes
  have hr := B.returns
  have hts0 := atoms_spec (ws := .code y_Tu_dropBit cb_Tu_dropBit 3 none :: V_Vq) B.pre
  have hts : ∀ w ∈ V_Vq, w.before ([.ref M.o_Tu, .int p0] : List Value).toArray s = true := fun w h => hts0 w (List.mem_cons_of_mem _ h)
  have hown : s.vm.findClass R_Tu = some m.cls := findClass_of_methodNamed B.named
  subst hsz
  have hD := hD0.self (sz := s.heap.size)
  generalize hAe : va_A (wV M Y G S) s.heap.size = A at hD hE ⊢
  have hA : ∀ q : Nat, s.heap.size ≤ q → A q := fun q h => by rw [← hAe]; exact Or.inr h
  have hS : va_S A s.heap s.heap [] := va_S.rf
  have hP : va_P (dC, dI) classes (wV M Y G S) s.heap := hP
  have hK : va_K (dC, dI) classes (tV M) s := hK
  have hEw : ∀ (H : Heap) (locs : List Loc), va_S A s.heap H locs → ∀ U : State, U.heap = H → s.WarmedH U.vm → E A U := fun H locs hS U hU hW => X.kept A s U H locs hE hS hU hW
  have hl := lv_entry ([.ref M.o_Tu, .int p0]) (n := 3) (Nat.le_of_ble_eq_true rfl)
  rw [lg_entry_eq]
  generalize (lg_sl ([.ref M.o_Tu, .int p0]) ++ List.replicate (3 - (lg_sl ([.ref M.o_Tu, .int p0])).length) Slot.unset).toArray = ls at hl ⊢
  have hl : lv_has ls 3 [(0, .ref M.o_Tu), (1, .int p0)] := hl
  refine qabs (fun Q hQ => ?_)
  rw [f_Tu_dropBit] at h
  refine lv_iload_n hx hb d_Tu_dropBit_0 rfl (lv_at hl 1 rfl) ?_
  refine lv_iconst (v := 3) hx hb d_Tu_dropBit_1 (by decide) ?_
  refine lv_ishr hx hb d_Tu_dropBit_2 ?_
  refine lv_topi (fun x_1 ex_1 => ?_)
  have h := lf_lE h ex_1
  refine lv_istore_n (lv' := [(2, .int x_1), (0, .ref M.o_Tu), (1, .int p0)]) hx hb d_Tu_dropBit_3 rfl hl (by decide) rfl (fun ls hl => ?_)
  refine lv_iload_n hx hb d_Tu_dropBit_4 rfl (lv_at hl 0 rfl) ?_
  refine lv_if_lt (tgt := 37) hx hb d_Tu_dropBit_5 (by decide) (fun c_2 => ?_) (fun c_2 => ?_)
  · have h := lf_t h c_2
    rw [hQ]
    have e2 : S = S' := Option.some.inj h
    have hP := ly_newP e2.symm hP
    have hD := ly_newD e2.symm hD
    exact W.vret hx hb hr (fun t ht hW => ⟨⟨(), rfl, trivial, by rw [ht]; exact hP, va_K.moved hW.alike hK, hD⟩, hS.F ht⟩) hS.2.2 d_Tu_dropBit_37
  · have h := lf_f h c_2
    refine lv_iload_n hx hb d_Tu_dropBit_8 rfl (lv_at hl 0 rfl) ?_
    refine lv_sipush (v := 1024) hx hb d_Tu_dropBit_9 (by decide) ?_
    refine lv_icmp_ge (tgt := 37) hx hb d_Tu_dropBit_12 (by decide) (fun c_3 => ?_) (fun c_3 => ?_)
    · have h := lf_t h c_3
      rw [hQ]
      have e2 : S = S' := Option.some.inj h
      have hP := ly_newP e2.symm hP
      have hD := ly_newD e2.symm hD
      exact W.vret hx hb hr (fun t ht hW => ⟨⟨(), rfl, trivial, by rw [ht]; exact hP, va_K.moved hW.alike hK, hD⟩, hS.F ht⟩) hS.2.2 d_Tu_dropBit_37
    · have h := lf_f h c_3
      refine lv_aload_n hx hb d_Tu_dropBit_15 rfl (lv_at hl 1 rfl) ?_
      refine va_get (D := (dC, dI)) (ci := 10) (v := .ref M.a_Tu_block) (C := R_Tu) (T := F_Tu) (N := 7) hx hb hts (fun w h => u_Vq_Tu w (i_Tu w h)) hown hK hP 8 rfl rfl 6 (by decide) (hts _ (u_Vq_Tu _ k_Tu_23)) (fun _ h9 => h9) rfl d_Tu_dropBit_16 ?_
      refine lv_iload_n hx hb d_Tu_dropBit_19 rfl (lv_at hl 0 rfl) ?_
      refine lv_aload_n hx hb d_Tu_dropBit_20 rfl (lv_at hl 1 rfl) ?_
      refine va_get (D := (dC, dI)) (ci := 10) (v := .ref M.a_Tu_block) (C := R_Tu) (T := F_Tu) (N := 7) hx hb hts (fun w h => u_Vq_Tu w (i_Tu w h)) hown hK hP 8 rfl rfl 6 (by decide) (hts _ (u_Vq_Tu _ k_Tu_23)) (fun _ h9 => h9) rfl d_Tu_dropBit_21 ?_
      refine lv_iload_n hx hb d_Tu_dropBit_24 rfl (lv_at hl 0 rfl) ?_
      obtain ⟨g_4, h⟩ := lf_gE h
      refine va_bald hx hb hK hP 44 0 rfl rfl g_4 d_Tu_dropBit_25 ?_
      refine lv_iconst (v := 1) hx hb d_Tu_dropBit_26 (by decide) ?_
      refine lv_iload_n hx hb d_Tu_dropBit_27 rfl (lv_at hl 2 rfl) ?_
      refine lv_bipush (v := 7) hx hb d_Tu_dropBit_28 (by decide) ?_
      refine lv_iand hx hb d_Tu_dropBit_30 ?_
      refine lv_ishl hx hb d_Tu_dropBit_31 ?_
      refine lv_iconst (v := (-1)) hx hb d_Tu_dropBit_32 (by decide) ?_
      refine lv_ixor hx hb d_Tu_dropBit_33 ?_
      refine lv_iand hx hb d_Tu_dropBit_34 ?_
      refine lv_i2b hx hb d_Tu_dropBit_35 rfl ?_
      obtain ⟨g_5, h⟩ := lf_gE h
      refine va_bast hx hb hK hP hD hS 44 0 rfl rfl g_5 d_Tu_dropBit_36 (fun H locs hP hD hS => ?_)
      obtain ⟨S_6, eS_6, h⟩ := lf_lX h
      have hP := ly_newP eS_6 hP
      have hD := ly_newD eS_6 hD
      rw [hQ]
      have e2 : S_6 = S' := Option.some.inj h
      have hP := ly_newP e2.symm hP
      have hD := ly_newD e2.symm hD
      exact W.vret hx hb hr (fun t ht hW => ⟨⟨(), rfl, trivial, by rw [ht]; exact hP, va_K.moved hW.alike hK, hD⟩, hS.F ht⟩) hS.2.2 d_Tu_dropBit_37
set_option maxHeartbeats 4000000 in
set_option maxRecDepth 100000 in
theorem l_Tu_fillBlockMap (l : Launch) (dC : Nat → ClassId) (dI : Nat → Nat → Nat) {K : Nat} {M : CA} {E : (Nat → Prop) → State → Prop} (X : ly_X l dC dI K M E) (sz : Nat) {Y : CT} {G : CG} {S S' : CS} {p0 : Int32} (h : f_Tu_fillBlockMap K G S p0 = some S') : Met l y_Tu_fillBlockMap (.code y_Tu_fillBlockMap cb_Tu_fillBlockMap 3 none :: V_Vq) ({ frames := 2, cells := 0, slots := 0, locals := 61 }) (va_Pc [.ref M.o_Tu, .int p0] (fun U => U.heap.size = sz ∧ at_ (dC, dI) (fun _ => True) (wV M Y G S) (tV M) U ∧ E (va_A (wV M Y G S) sz) U)) (va_Qv (fun (u : Unit) => True) (fun (u : Unit) t => at_ (dC, dI) (va_A (wV M Y G S) sz) (wV M Y G S') (tV M) t) (va_A (wV M Y G S) sz)) 0 0 (va_A (wV M Y G S) sz) := by
  refine Met.ofW (cc := cb_Tu_fillBlockMap) (maxL := 3) (ret := none) (by decide) rfl ?_
  intro p e s m args below meth c s₁ B hml hv
  obtain ⟨rfl, hsz, ⟨hP, hK, hD0⟩, hE⟩ := hv
  have hx := B.exec
  have hb := B.bytes
  have hr := B.returns
  have hts0 := atoms_spec (ws := .code y_Tu_fillBlockMap cb_Tu_fillBlockMap 3 none :: V_Vq) B.pre
  have hts : ∀ w ∈ V_Vq, w.before ([.ref M.o_Tu, .int p0] : List Value).toArray s = true := fun w h => hts0 w (List.mem_cons_of_mem _ h)
  have hown : s.vm.findClass R_Tu = some m.cls := findClass_of_methodNamed B.named
  subst hsz
  have hD := hD0.self (sz := s.heap.size)
  generalize hAe : va_A (wV M Y G S) s.heap.size = A at hD hE ⊢
  have hA : ∀ q : Nat, s.heap.size ≤ q → A q := fun q h => by rw [← hAe]; exact Or.inr h
  have hS : va_S A s.heap s.heap [] := va_S.rf
  have hP : va_P (dC, dI) classes (wV M Y G S) s.heap := hP
  have hK : va_K (dC, dI) classes (tV M) s := hK
  have hEw : ∀ (H : Heap) (locs : List Loc), va_S A s.heap H locs → ∀ U : State, U.heap = H → s.WarmedH U.vm → E A U := fun H locs hS U hU hW => X.kept A s U H locs hE hS hU hW
  have hl := lv_entry ([.ref M.o_Tu, .int p0]) (n := 3) (Nat.le_of_ble_eq_true rfl)
  rw [lg_entry_eq]
  generalize (lg_sl ([.ref M.o_Tu, .int p0]) ++ List.replicate (3 - (lg_sl ([.ref M.o_Tu, .int p0])).length) Slot.unset).toArray = ls at hl ⊢
  have hl : lv_has ls 3 [(0, .ref M.o_Tu), (1, .int p0)] := hl
  refine qabs (fun Q hQ => ?_)
  have hB_47 : ∀ (rec_10 : Int32 → Int32 → CS → Option (CS)) (hr_10 : ∀ (y_1 : Int32) (y_2 : Int32) (S : CS) (H : Heap) (locs : List Loc) (ls : Array Slot), rec_10 y_1 y_2 S = some S' → va_P (dC, dI) classes (wV M Y G S) H → va_D A (wV M Y G S) → va_S A s.heap H locs → lv_has ls 3 [(0, .ref M.o_Tu), (1, .int y_1), (2, .int y_2)] → W p l e ({ frames := 2, cells := 0, slots := 0, locals := 61 }) s m ([.ref M.o_Tu, .int p0] : List Value).toArray below meth c H locs 0 0 Q (F0 m 10 ls [])), ∀ (y_1 : Int32) (y_2 : Int32) (S : CS) (H : Heap) (locs : List Loc) (ls : Array Slot), f_Tu_fillBlockMap_47 K G rec_10 y_1 y_2 S = some S' → va_P (dC, dI) classes (wV M Y G S) H → va_D A (wV M Y G S) → va_S A s.heap H locs → lv_has ls 3 [(0, .ref M.o_Tu), (1, .int y_1), (2, .int y_2)] → W p l e ({ frames := 2, cells := 0, slots := 0, locals := 61 }) s m ([.ref M.o_Tu, .int p0] : List Value).toArray below meth c H locs 0 0 Q (F0 m 47 ls []) := by
    intro rec_10 hr_10 y_1 y_2 S H locs ls h hP hD hS hl
    rw [f_Tu_fillBlockMap_47] at h
    obtain ⟨x_8, ex_8, h⟩ := lf_lX h
    refine lv_iinc (v := x_8) (lv' := [(2, .int x_8), (0, .ref M.o_Tu), (1, .int y_1)]) hx hb d_Tu_fillBlockMap_47 hl (k := 2) rfl (by rw [ex_8]; rfl) (by decide) rfl (fun ls hl => ?_)
    refine lv_goto (tgt := 10) hx hb d_Tu_fillBlockMap_50 (by decide) ?_
    exact hr_10 y_1 x_8 S _ _ _ h hP hD hS (lv_sub hl [1, 2, 0] rfl)
  have hB_10 : ∀ (k : Nat), ∀ (y_1 : Int32) (y_2 : Int32) (S : CS) (H : Heap) (locs : List Loc) (ls : Array Slot), f_Tu_fillBlockMap_10 K G k y_1 y_2 S = some S' → va_P (dC, dI) classes (wV M Y G S) H → va_D A (wV M Y G S) → va_S A s.heap H locs → lv_has ls 3 [(0, .ref M.o_Tu), (1, .int y_1), (2, .int y_2)] → W p l e ({ frames := 2, cells := 0, slots := 0, locals := 61 }) s m ([.ref M.o_Tu, .int p0] : List Value).toArray below meth c H locs 0 0 Q (F0 m 10 ls []) := by
    intro k
    induction k with
    | zero => intro y_1 y_2 S H locs ls h; exact lf_no h
    | succ k hr_10 =>
      intro y_1 y_2 S H locs ls h hP hD hS hl
      rw [f_Tu_fillBlockMap_10] at h
      refine lv_iload_n hx hb d_Tu_fillBlockMap_10 rfl (lv_at hl 2 rfl) ?_
      refine lv_aload_n hx hb d_Tu_fillBlockMap_11 rfl (lv_at hl 0 rfl) ?_
      refine va_get (D := (dC, dI)) (ci := 10) (v := .ref M.o_Pl) (C := R_Tu) (T := F_Tu) (N := 7) hx hb hts (fun w h => u_Vq_Tu w (i_Tu w h)) hown hK hP 8 rfl rfl 4 (by decide) (hts _ (u_Vq_Tu _ k_Tu_21)) (fun _ h9 => h9) rfl d_Tu_fillBlockMap_12 ?_
      refine lv_iload_n hx hb d_Tu_fillBlockMap_15 rfl (lv_at hl 1 rfl) ?_
      obtain ⟨r_2, S_2, hc_2, h⟩ := lf_cE h
      have hFc := lx_free hD hS hA
      refine va_calli (va_runV (As := [.int y_1]) (rest := [.int y_2]) ⟨hx, hb, hml, hown, hts⟩ (l_Pl_blocksOf l dC dI X _ hc_2) (cwV 1 hts (gwV good_Vq (u_Vq_Tu _ k_Tu_132) (u_Vq_Pl _ k_Pl_41) (u_Vq_Pl _ k_Pl_42) (u_Vq_Pl _ k_Pl_0) (wcs (u_Vq_Pl _ k_Pl_43) (fun _ h => h))) rfl rfl rfl (by decide +kernel) ⟨Nat.le_of_ble_eq_true rfl, Nat.le_of_ble_eq_true rfl⟩) (pv_ofE (X.same _) (fun U z1 z2 => X.mono _ _ U hFc (hEw _ _ hS U z1 z2)) hP hK hD (va_recv hK hP (ci := 9) (q0 := 7) rfl rfl)) rfl rfl hl.1 rfl (lv_room (Nat.le_of_ble_eq_true rfl)) d_Tu_fillBlockMap_16 ⟨by decide, by decide⟩) hS (fun q _ h => hFc q h) hFc (fun r_ u t H locs ht hvm hw hB hz1 hk1 hS => ?_)
      rw [hw]
      obtain ⟨hP, -, hD⟩ := hB
      rw [ht] at hP
      have hD := lx_dj hD hFc
      refine lv_icmp_ge (tgt := 53) hx hb d_Tu_fillBlockMap_19 (by decide) (fun c_3 => ?_) (fun c_3 => ?_)
      · have h := lf_t h c_3
        rw [hQ]
        have e2 : S_2 = S' := Option.some.inj h
        have hP := ly_newP e2.symm hP
        have hD := ly_newD e2.symm hD
        exact W.vret hx hb hr (fun t ht hW => ⟨⟨(), rfl, trivial, by rw [ht]; exact hP, va_K.moved hW.alike hK, hD⟩, hS.F ht⟩) hS.2.2 d_Tu_fillBlockMap_53
      · have h := lf_f h c_3
        refine lv_aload_n hx hb d_Tu_fillBlockMap_22 rfl (lv_at hl 0 rfl) ?_
        refine va_get (D := (dC, dI)) (ci := 10) (v := .ref M.o_Pl) (C := R_Tu) (T := F_Tu) (N := 7) hx hb hts (fun w h => u_Vq_Tu w (i_Tu w h)) hown hK hP 8 rfl rfl 4 (by decide) (hts _ (u_Vq_Tu _ k_Tu_21)) (fun _ h9 => h9) rfl d_Tu_fillBlockMap_23 ?_
        refine lv_aload_n hx hb d_Tu_fillBlockMap_26 rfl (lv_at hl 0 rfl) ?_
        refine va_get (D := (dC, dI)) (ci := 10) (v := .ref M.o_Pl) (C := R_Tu) (T := F_Tu) (N := 7) hx hb hts (fun w h => u_Vq_Tu w (i_Tu w h)) hown hK hP 8 rfl rfl 4 (by decide) (hts _ (u_Vq_Tu _ k_Tu_21)) (fun _ h9 => h9) rfl d_Tu_fillBlockMap_27 ?_
        refine lv_iload_n hx hb d_Tu_fillBlockMap_30 rfl (lv_at hl 1 rfl) ?_
        obtain ⟨r_4, S_4, hc_4, h⟩ := lf_cE h
        have hFc := lx_free hD hS hA
        refine va_calli (va_runV (As := [.int y_1]) (rest := [.ref M.o_Pl]) ⟨hx, hb, hml, hown, hts⟩ (l_Pl_firstBlock l dC dI X _ hc_4) (cwV 1 hts (gwV good_Vq (u_Vq_Tu _ k_Tu_119) (u_Vq_Pl _ k_Pl_45) (u_Vq_Pl _ k_Pl_46) (u_Vq_Pl _ k_Pl_0) (wcs (u_Vq_Pl _ k_Pl_47) (fun _ h => h))) rfl rfl rfl (by decide +kernel) ⟨Nat.le_of_ble_eq_true rfl, Nat.le_of_ble_eq_true rfl⟩) (pv_ofE (X.same _) (fun U z1 z2 => X.mono _ _ U hFc (hEw _ _ hS U z1 z2)) hP hK hD (va_recv hK hP (ci := 9) (q0 := 7) rfl rfl)) rfl rfl hl.1 rfl (lv_room (Nat.le_of_ble_eq_true rfl)) d_Tu_fillBlockMap_31 ⟨by decide, by decide⟩) hS (fun q _ h => hFc q h) hFc (fun r_ u t H locs ht hvm hw hB hz1 hk1 hS => ?_)
        rw [hw]
        obtain ⟨hP, -, hD⟩ := hB
        rw [ht] at hP
        have hD := lx_dj hD hFc
        refine lv_iload_n hx hb d_Tu_fillBlockMap_34 rfl (lv_at hl 2 rfl) ?_
        refine lv_iadd hx hb d_Tu_fillBlockMap_35 ?_
        obtain ⟨r_5, S_5, hc_5, h⟩ := lf_cE h
        have hFc := lx_free hD hS hA
        refine va_calli (va_runV (As := [.int (r_4 + y_2)]) (rest := []) ⟨hx, hb, hml, hown, hts⟩ (l_Pl_isUsed l dC dI X _ hc_5) (cwV 1 hts (gwV good_Vq (u_Vq_Tu _ k_Tu_133) (u_Vq_Pl _ k_Pl_147) (u_Vq_Pl _ k_Pl_148) (u_Vq_Pl _ k_Pl_0) (wcs (u_Vq_Pl _ k_Pl_149) (fun _ h => h))) rfl rfl rfl (by decide +kernel) ⟨Nat.le_of_ble_eq_true rfl, Nat.le_of_ble_eq_true rfl⟩) (pv_ofE (X.same _) (fun U z1 z2 => X.mono _ _ U hFc (hEw _ _ hS U z1 z2)) hP hK hD (va_recv hK hP (ci := 9) (q0 := 7) rfl rfl)) rfl rfl hl.1 rfl (lv_room (Nat.le_of_ble_eq_true rfl)) d_Tu_fillBlockMap_36 ⟨by decide, by decide⟩) hS (fun q _ h => hFc q h) hFc (fun r_ u t H locs ht hvm hw hB hz1 hk1 hS => ?_)
        rw [hw]
        obtain ⟨hP, -, hD⟩ := hB
        rw [ht] at hP
        have hD := lx_dj hD hFc
        refine lv_if_ne (tgt := 47) hx hb d_Tu_fillBlockMap_39 (by decide) (fun c_6 => ?_) (fun c_6 => ?_)
        · have h := lf_f h c_6
          exact hB_47 _ hr_10 y_1 y_2 S_5 _ _ _ h hP hD hS (lv_sub hl [0, 1, 2] rfl)
        · have h := lf_t h c_6
          refine lv_aload_n hx hb d_Tu_fillBlockMap_42 rfl (lv_at hl 0 rfl) ?_
          refine lv_iload_n hx hb d_Tu_fillBlockMap_43 rfl (lv_at hl 2 rfl) ?_
          obtain ⟨S_7, hc_7, h⟩ := lf_bE h
          have hFc := lx_free hD hS hA
          refine va_callv (va_runV (As := [.int y_2]) (rest := []) ⟨hx, hb, hml, hown, hts⟩ (l_Tu_dropBit l dC dI X _ hc_7) (cwV 1 hts (gwV good_Vq (u_Vq_Tu _ k_Tu_134) (u_Vq_Tu _ k_Tu_135) (u_Vq_Tu _ k_Tu_178) (u_Vq_Tu _ k_Tu_0) (wcs (u_Vq_Tu _ k_Tu_136) (fun _ h => h))) rfl rfl rfl (by decide +kernel) ⟨Nat.le_of_ble_eq_true rfl, Nat.le_of_ble_eq_true rfl⟩) (pv_ofE (X.same _) (fun U z1 z2 => X.mono _ _ U hFc (hEw _ _ hS U z1 z2)) hP hK hD (va_recv hK hP (ci := 10) (q0 := 8) rfl rfl)) rfl rfl hl.1 rfl (lv_room (Nat.le_of_ble_eq_true rfl)) d_Tu_fillBlockMap_44 ⟨by decide, by decide⟩) hS (fun q _ h => hFc q h) hFc (fun u t H locs ht hvm hw hB hz1 hk1 hS => ?_)
          obtain ⟨hP, -, hD⟩ := hB
          rw [ht] at hP
          have hD := lx_dj hD hFc
          exact hB_47 _ hr_10 y_1 y_2 S_7 _ _ _ h hP hD hS (lv_sub hl [0, 1, 2] rfl)
  rw [f_Tu_fillBlockMap] at h
  refine lv_aload_n hx hb d_Tu_fillBlockMap_0 rfl (lv_at hl 0 rfl) ?_
  refine va_get (D := (dC, dI)) (ci := 10) (v := .ref M.a_Tu_block) (C := R_Tu) (T := F_Tu) (N := 7) hx hb hts (fun w h => u_Vq_Tu w (i_Tu w h)) hown hK hP 8 rfl rfl 6 (by decide) (hts _ (u_Vq_Tu _ k_Tu_23)) (fun _ h9 => h9) rfl d_Tu_fillBlockMap_1 ?_
  refine lv_iconst (v := (-1)) hx hb d_Tu_fillBlockMap_4 (by decide) ?_
  have hPc := hP.sub (ws' := [(M.a_Tu_block, .inl (M.kB, 1024, .inl S.w_Tu_block))]) [44] rfl
  have hDc := hD.sub (ws' := [(M.a_Tu_block, .inl (M.kB, 1024, .inl S.w_Tu_block))]) [44] (by decide) rfl
  have hKc := hK.sub (tys' := [(M.kB, .byte)]) [0] rfl
  have hFc := va_free (wc := [(M.a_Tu_block, .inl (M.kB, 1024, .inl S.w_Tu_block))]) hD hS hA [44] rfl
  refine va_callv (va_runS (As := [.ref M.a_Tu_block, .int ((-1))]) (rest := []) ⟨hx, hb, hml, hown, hts⟩ (c_Ar_fillB l dC dI M.a_Tu_block _ M.kB 1024 S.w_Tu_block (by decide) ((-1))) (va_cwS 2 hts (gwS good_Vq (u_Vq_Tu _ k_Tu_60) (u_Vq_J _ k_J_14) (u_Vq_J _ k_J_2) (wcs (u_Vq_J _ k_J_15) u_Vq_J)) rfl rfl rfl (by decide +kernel) ⟨Nat.le_of_ble_eq_true rfl, Nat.le_of_ble_eq_true rfl⟩) (ps_of hPc hKc hDc) rfl rfl hl.1 rfl (lv_room (Nat.le_of_ble_eq_true rfl)) d_Tu_fillBlockMap_5 ⟨by decide, by decide⟩) hS (fun q _ h => hFc q h) hFc (fun u t H locs ht hvm hw hB hz1 hk1 hS => ?_)
  obtain ⟨hP1, -, -⟩ := hB
  rw [ht, hw] at hP1
  obtain ⟨hP, hD⟩ := lx_one hP hD (q := 44) rfl hk1 hP1
  obtain ⟨S_1, eS_1, h⟩ := lf_lX h
  have hP := ly_newP eS_1 hP
  have hD := ly_newD eS_1 hD
  refine lv_iconst (v := 0) hx hb d_Tu_fillBlockMap_8 (by decide) ?_
  refine lv_istore_n (lv' := [(2, .int 0), (0, .ref M.o_Tu), (1, .int p0)]) hx hb d_Tu_fillBlockMap_9 rfl hl (by decide) rfl (fun ls hl => ?_)
  exact hB_10 K p0 0 S_1 _ _ _ h hP hD hS (lv_sub hl [1, 2, 0] rfl)
set_option maxHeartbeats 4000000 in
set_option maxRecDepth 100000 in
theorem l_Tu_fillInodeMap (l : Launch) (dC : Nat → ClassId) (dI : Nat → Nat → Nat) {K : Nat} {M : CA} {E : (Nat → Prop) → State → Prop} (X : ly_X l dC dI K M E) (sz : Nat) {Y : CT} {G : CG} {S S' : CS} {p0 : Int32} (h : f_Tu_fillInodeMap K G S p0 = some S') : Met l y_Tu_fillInodeMap (.code y_Tu_fillInodeMap cb_Tu_fillInodeMap 3 none :: V_Vq) ({ frames := 2, cells := 0, slots := 0, locals := 62 }) (va_Pc [.ref M.o_Tu, .int p0] (fun U => U.heap.size = sz ∧ at_ (dC, dI) (fun _ => True) (wV M Y G S) (tV M) U ∧ E (va_A (wV M Y G S) sz) U)) (va_Qv (fun (u : Unit) => True) (fun (u : Unit) t => at_ (dC, dI) (va_A (wV M Y G S) sz) (wV M Y G S') (tV M) t) (va_A (wV M Y G S) sz)) 0 0 (va_A (wV M Y G S) sz) := by
  refine Met.ofW (cc := cb_Tu_fillInodeMap) (maxL := 3) (ret := none) (by decide) rfl ?_
  intro p e s m args below meth c s₁ B hml hv
  obtain ⟨rfl, hsz, ⟨hP, hK, hD0⟩, hE⟩ := hv
  have hx := B.exec
  have hb := B.bytes
  have hr := B.returns
  have hts0 := atoms_spec (ws := .code y_Tu_fillInodeMap cb_Tu_fillInodeMap 3 none :: V_Vq) B.pre
  have hts : ∀ w ∈ V_Vq, w.before ([.ref M.o_Tu, .int p0] : List Value).toArray s = true := fun w h => hts0 w (List.mem_cons_of_mem _ h)
  have hown : s.vm.findClass R_Tu = some m.cls := findClass_of_methodNamed B.named
  subst hsz
  have hD := hD0.self (sz := s.heap.size)
  generalize hAe : va_A (wV M Y G S) s.heap.size = A at hD hE ⊢
  have hA : ∀ q : Nat, s.heap.size ≤ q → A q := fun q h => by rw [← hAe]; exact Or.inr h
  have hS : va_S A s.heap s.heap [] := va_S.rf
  have hP : va_P (dC, dI) classes (wV M Y G S) s.heap := hP
  have hK : va_K (dC, dI) classes (tV M) s := hK
  have hEw : ∀ (H : Heap) (locs : List Loc), va_S A s.heap H locs → ∀ U : State, U.heap = H → s.WarmedH U.vm → E A U := fun H locs hS U hU hW => X.kept A s U H locs hE hS hU hW
  have hl := lv_entry ([.ref M.o_Tu, .int p0]) (n := 3) (Nat.le_of_ble_eq_true rfl)
  rw [lg_entry_eq]
  generalize (lg_sl ([.ref M.o_Tu, .int p0]) ++ List.replicate (3 - (lg_sl ([.ref M.o_Tu, .int p0])).length) Slot.unset).toArray = ls at hl ⊢
  have hl : lv_has ls 3 [(0, .ref M.o_Tu), (1, .int p0)] := hl
  refine qabs (fun Q hQ => ?_)
  have hB_25 : ∀ (k : Nat), ∀ (y_2 : Int32) (S : CS) (H : Heap) (locs : List Loc) (ls : Array Slot), f_Tu_fillInodeMap_25 K G k y_2 S = some S' → va_P (dC, dI) classes (wV M Y G S) H → va_D A (wV M Y G S) → va_S A s.heap H locs → lv_has ls 3 [(0, .ref M.o_Tu), (2, .int y_2)] → W p l e ({ frames := 2, cells := 0, slots := 0, locals := 62 }) s m ([.ref M.o_Tu, .int p0] : List Value).toArray below meth c H locs 0 0 Q (F0 m 25 ls []) := by
    intro k
    induction k with
    | zero => intro y_2 S H locs ls h; exact lf_no h
    | succ k hr_25 =>
      intro y_2 S H locs ls h hP hD hS hl
      rw [f_Tu_fillInodeMap_25] at h
      refine lv_iload_n hx hb d_Tu_fillInodeMap_25 rfl (lv_at hl 1 rfl) ?_
      refine lv_aload_n hx hb d_Tu_fillInodeMap_26 rfl (lv_at hl 0 rfl) ?_
      refine va_get (D := (dC, dI)) (ci := 10) (v := .ref M.o_Pl) (C := R_Tu) (T := F_Tu) (N := 7) hx hb hts (fun w h => u_Vq_Tu w (i_Tu w h)) hown hK hP 8 rfl rfl 4 (by decide) (hts _ (u_Vq_Tu _ k_Tu_21)) (fun _ h9 => h9) rfl d_Tu_fillInodeMap_27 ?_
      refine va_get (D := (dC, dI)) (ci := 9) (v := .int S.v_Pl_inodes) (C := R_Pl) (T := F_Pl) (N := 17) hx hb hts (fun w h => u_Vq_Pl w (i_Pl w h)) hown hK hP 7 rfl rfl 13 (by decide) (hts _ (u_Vq_Tu _ k_Tu_11)) (fun _ h9 => h9) rfl d_Tu_fillInodeMap_30 ?_
      refine lv_icmp_ge (tgt := 47) hx hb d_Tu_fillInodeMap_33 (by decide) (fun c_4 => ?_) (fun c_4 => ?_)
      · have h := lf_t h c_4
        rw [hQ]
        have e2 : S = S' := Option.some.inj h
        have hP := ly_newP e2.symm hP
        have hD := ly_newD e2.symm hD
        exact W.vret hx hb hr (fun t ht hW => ⟨⟨(), rfl, trivial, by rw [ht]; exact hP, va_K.moved hW.alike hK, hD⟩, hS.F ht⟩) hS.2.2 d_Tu_fillInodeMap_47
      · have h := lf_f h c_4
        refine lv_aload_n hx hb d_Tu_fillInodeMap_36 rfl (lv_at hl 0 rfl) ?_
        refine lv_iload_n hx hb d_Tu_fillInodeMap_37 rfl (lv_at hl 1 rfl) ?_
        obtain ⟨S_5, hc_5, h⟩ := lf_bE h
        have hFc := lx_free hD hS hA
        refine va_callv (va_runV (As := [.int y_2]) (rest := []) ⟨hx, hb, hml, hown, hts⟩ (l_Tu_dropBit l dC dI X _ hc_5) (cwV 1 hts (gwV good_Vq (u_Vq_Tu _ k_Tu_134) (u_Vq_Tu _ k_Tu_135) (u_Vq_Tu _ k_Tu_178) (u_Vq_Tu _ k_Tu_0) (wcs (u_Vq_Tu _ k_Tu_136) (fun _ h => h))) rfl rfl rfl (by decide +kernel) ⟨Nat.le_of_ble_eq_true rfl, Nat.le_of_ble_eq_true rfl⟩) (pv_ofE (X.same _) (fun U z1 z2 => X.mono _ _ U hFc (hEw _ _ hS U z1 z2)) hP hK hD (va_recv hK hP (ci := 10) (q0 := 8) rfl rfl)) rfl rfl hl.1 rfl (lv_room (Nat.le_of_ble_eq_true rfl)) d_Tu_fillInodeMap_38 ⟨by decide, by decide⟩) hS (fun q _ h => hFc q h) hFc (fun u t H locs ht hvm hw hB hz1 hk1 hS => ?_)
        obtain ⟨hP, -, hD⟩ := hB
        rw [ht] at hP
        have hD := lx_dj hD hFc
        obtain ⟨x_6, ex_6, h⟩ := lf_lX h
        refine lv_iinc (v := x_6) (lv' := [(2, .int x_6), (0, .ref M.o_Tu)]) hx hb d_Tu_fillInodeMap_41 hl (k := 1) rfl (by rw [ex_6]; rfl) (by decide) rfl (fun ls hl => ?_)
        refine lv_goto (tgt := 25) hx hb d_Tu_fillInodeMap_44 (by decide) ?_
        exact hr_25 x_6 S_5 _ _ _ h hP hD hS (lv_sub hl [1, 0] rfl)
  rw [f_Tu_fillInodeMap] at h
  refine lv_aload_n hx hb d_Tu_fillInodeMap_0 rfl (lv_at hl 0 rfl) ?_
  refine va_get (D := (dC, dI)) (ci := 10) (v := .ref M.a_Tu_block) (C := R_Tu) (T := F_Tu) (N := 7) hx hb hts (fun w h => u_Vq_Tu w (i_Tu w h)) hown hK hP 8 rfl rfl 6 (by decide) (hts _ (u_Vq_Tu _ k_Tu_23)) (fun _ h9 => h9) rfl d_Tu_fillInodeMap_1 ?_
  refine lv_iconst (v := (-1)) hx hb d_Tu_fillInodeMap_4 (by decide) ?_
  have hPc := hP.sub (ws' := [(M.a_Tu_block, .inl (M.kB, 1024, .inl S.w_Tu_block))]) [44] rfl
  have hDc := hD.sub (ws' := [(M.a_Tu_block, .inl (M.kB, 1024, .inl S.w_Tu_block))]) [44] (by decide) rfl
  have hKc := hK.sub (tys' := [(M.kB, .byte)]) [0] rfl
  have hFc := va_free (wc := [(M.a_Tu_block, .inl (M.kB, 1024, .inl S.w_Tu_block))]) hD hS hA [44] rfl
  refine va_callv (va_runS (As := [.ref M.a_Tu_block, .int ((-1))]) (rest := []) ⟨hx, hb, hml, hown, hts⟩ (c_Ar_fillB l dC dI M.a_Tu_block _ M.kB 1024 S.w_Tu_block (by decide) ((-1))) (va_cwS 2 hts (gwS good_Vq (u_Vq_Tu _ k_Tu_60) (u_Vq_J _ k_J_14) (u_Vq_J _ k_J_2) (wcs (u_Vq_J _ k_J_15) u_Vq_J)) rfl rfl rfl (by decide +kernel) ⟨Nat.le_of_ble_eq_true rfl, Nat.le_of_ble_eq_true rfl⟩) (ps_of hPc hKc hDc) rfl rfl hl.1 rfl (lv_room (Nat.le_of_ble_eq_true rfl)) d_Tu_fillInodeMap_5 ⟨by decide, by decide⟩) hS (fun q _ h => hFc q h) hFc (fun u t H locs ht hvm hw hB hz1 hk1 hS => ?_)
  obtain ⟨hP1, -, -⟩ := hB
  rw [ht, hw] at hP1
  obtain ⟨hP, hD⟩ := lx_one hP hD (q := 44) rfl hk1 hP1
  obtain ⟨S_1, eS_1, h⟩ := lf_lX h
  have hP := ly_newP eS_1 hP
  have hD := ly_newD eS_1 hD
  refine lv_aload_n hx hb d_Tu_fillInodeMap_8 rfl (lv_at hl 0 rfl) ?_
  refine va_get (D := (dC, dI)) (ci := 10) (v := .ref M.o_Pl) (C := R_Tu) (T := F_Tu) (N := 7) hx hb hts (fun w h => u_Vq_Tu w (i_Tu w h)) hown hK hP 8 rfl rfl 4 (by decide) (hts _ (u_Vq_Tu _ k_Tu_21)) (fun _ h9 => h9) rfl d_Tu_fillInodeMap_9 ?_
  refine va_get (D := (dC, dI)) (ci := 9) (v := .int S_1.v_Pl_inodes) (C := R_Pl) (T := F_Pl) (N := 17) hx hb hts (fun w h => u_Vq_Pl w (i_Pl w h)) hown hK hP 7 rfl rfl 13 (by decide) (hts _ (u_Vq_Tu _ k_Tu_11)) (fun _ h9 => h9) rfl d_Tu_fillInodeMap_12 ?_
  refine lv_aload_n hx hb d_Tu_fillInodeMap_15 rfl (lv_at hl 0 rfl) ?_
  refine va_get (D := (dC, dI)) (ci := 10) (v := .ref M.o_Pl) (C := R_Tu) (T := F_Tu) (N := 7) hx hb hts (fun w h => u_Vq_Tu w (i_Tu w h)) hown hK hP 8 rfl rfl 4 (by decide) (hts _ (u_Vq_Tu _ k_Tu_21)) (fun _ h9 => h9) rfl d_Tu_fillInodeMap_16 ?_
  refine lv_iload_n hx hb d_Tu_fillInodeMap_19 rfl (lv_at hl 1 rfl) ?_
  obtain ⟨r_2, S_2, hc_2, h⟩ := lf_cE h
  have hFc := lx_free hD hS hA
  refine va_calli (va_runV (As := [.int p0]) (rest := [.int S_1.v_Pl_inodes]) ⟨hx, hb, hml, hown, hts⟩ (l_Pl_freeInodes l dC dI X _ hc_2) (cwV 1 hts (gwV good_Vq (u_Vq_Tu _ k_Tu_125) (u_Vq_Pl _ k_Pl_160) (u_Vq_Pl _ k_Pl_161) (u_Vq_Pl _ k_Pl_0) (wcs (u_Vq_Pl _ k_Pl_162) (fun _ h => h))) rfl rfl rfl (by decide +kernel) ⟨Nat.le_of_ble_eq_true rfl, Nat.le_of_ble_eq_true rfl⟩) (pv_ofE (X.same _) (fun U z1 z2 => X.mono _ _ U hFc (hEw _ _ hS U z1 z2)) hP hK hD (va_recv hK hP (ci := 9) (q0 := 7) rfl rfl)) rfl rfl hl.1 rfl (lv_room (Nat.le_of_ble_eq_true rfl)) d_Tu_fillInodeMap_20 ⟨by decide, by decide⟩) hS (fun q _ h => hFc q h) hFc (fun r_ u t H locs ht hvm hw hB hz1 hk1 hS => ?_)
  rw [hw]
  obtain ⟨hP, -, hD⟩ := hB
  rw [ht] at hP
  have hD := lx_dj hD hFc
  refine lv_isub hx hb d_Tu_fillInodeMap_23 ?_
  refine lv_topi (fun x_3 ex_3 => ?_)
  have h := lf_lE h ex_3
  refine lv_istore_n (lv' := [(2, .int x_3), (0, .ref M.o_Tu), (1, .int p0)]) hx hb d_Tu_fillInodeMap_24 rfl hl (by decide) rfl (fun ls hl => ?_)
  exact hB_25 K x_3 S_2 _ _ _ h hP hD hS (lv_sub hl [1, 0] rfl)
set_option maxHeartbeats 4000000 in
set_option maxRecDepth 100000 in
theorem l_Tu_modeOf (l : Launch) (dC : Nat → ClassId) (dI : Nat → Nat → Nat) {K : Nat} {M : CA} {E : (Nat → Prop) → State → Prop} (X : ly_X l dC dI K M E) (sz : Nat) {Y : CT} {G : CG} {S S' : CS} {p0 : Int32} {r : Int32} (h : f_Tu_modeOf K G S p0 = some (r, S')) : Met l y_Tu_modeOf (.code y_Tu_modeOf cb_Tu_modeOf 3 (some .int) :: V_Vq) ({ frames := 2, cells := 0, slots := 0, locals := 42 }) (va_Pc [.ref M.o_Tu, .int p0] (fun U => U.heap.size = sz ∧ at_ (dC, dI) (fun _ => True) (wV M Y G S) (tV M) U ∧ E (va_A (wV M Y G S) sz) U)) (va_Qi (fun (r_ : Int32) (u : Unit) => r_ = r) (fun (u : Unit) t => at_ (dC, dI) (va_A (wV M Y G S) sz) (wV M Y G S') (tV M) t) (va_A (wV M Y G S) sz)) 0 0 (va_A (wV M Y G S) sz) := by
  refine Met.ofW (cc := cb_Tu_modeOf) (maxL := 3) (ret := (some .int)) (by decide) rfl ?_
  intro p e s m args below meth c s₁ B hml hv
  obtain ⟨rfl, hsz, ⟨hP, hK, hD0⟩, hE⟩ := hv
  have hx := B.exec
  have hb := B.bytes
  have hr := B.returns
  have hts0 := atoms_spec (ws := .code y_Tu_modeOf cb_Tu_modeOf 3 (some .int) :: V_Vq) B.pre
  have hts : ∀ w ∈ V_Vq, w.before ([.ref M.o_Tu, .int p0] : List Value).toArray s = true := fun w h => hts0 w (List.mem_cons_of_mem _ h)
  have hown : s.vm.findClass R_Tu = some m.cls := findClass_of_methodNamed B.named
  subst hsz
  have hD := hD0.self (sz := s.heap.size)
  generalize hAe : va_A (wV M Y G S) s.heap.size = A at hD hE ⊢
  have hA : ∀ q : Nat, s.heap.size ≤ q → A q := fun q h => by rw [← hAe]; exact Or.inr h
  have hS : va_S A s.heap s.heap [] := va_S.rf
  have hP : va_P (dC, dI) classes (wV M Y G S) s.heap := hP
  have hK : va_K (dC, dI) classes (tV M) s := hK
  have hEw : ∀ (H : Heap) (locs : List Loc), va_S A s.heap H locs → ∀ U : State, U.heap = H → s.WarmedH U.vm → E A U := fun H locs hS U hU hW => X.kept A s U H locs hE hS hU hW
  have hl := lv_entry ([.ref M.o_Tu, .int p0]) (n := 3) (Nat.le_of_ble_eq_true rfl)
  rw [lg_entry_eq]
  generalize (lg_sl ([.ref M.o_Tu, .int p0]) ++ List.replicate (3 - (lg_sl ([.ref M.o_Tu, .int p0])).length) Slot.unset).toArray = ls at hl ⊢
  have hl : lv_has ls 3 [(0, .ref M.o_Tu), (1, .int p0)] := hl
  refine qabs (fun Q hQ => ?_)
  have hB_29 : ∀ (y_1 : Int32) (z_0 : Int32) (S : CS) (H : Heap) (locs : List Loc) (ls : Array Slot), f_Tu_modeOf_29 K G y_1 z_0 S = some (r, S') → va_P (dC, dI) classes (wV M Y G S) H → va_D A (wV M Y G S) → va_S A s.heap H locs → lv_has ls 3 [(0, .ref M.o_Tu), (1, .int y_1)] → W p l e ({ frames := 2, cells := 0, slots := 0, locals := 42 }) s m ([.ref M.o_Tu, .int p0] : List Value).toArray below meth c H locs 0 0 Q (F0 m 29 ls [.int z_0]) := by
    intro y_1 z_0 S H locs ls h hP hD hS hl
    rw [f_Tu_modeOf_29] at h
    refine lv_istore_n (lv' := [(2, .int z_0), (0, .ref M.o_Tu), (1, .int y_1)]) hx hb d_Tu_modeOf_29 rfl hl (by decide) rfl (fun ls hl => ?_)
    refine lv_aload_n hx hb d_Tu_modeOf_30 rfl (lv_at hl 1 rfl) ?_
    refine va_get (D := (dC, dI)) (ci := 10) (v := .ref M.o_Tr) (C := R_Tu) (T := F_Tu) (N := 7) hx hb hts (fun w h => u_Vq_Tu w (i_Tu w h)) hown hK hP 8 rfl rfl 2 (by decide) (hts _ (u_Vq_Tu _ k_Tu_19)) (fun _ h9 => h9) rfl d_Tu_modeOf_31 ?_
    refine lv_iload_n hx hb d_Tu_modeOf_34 rfl (lv_at hl 2 rfl) ?_
    obtain ⟨r_4, S_4, hc_4, h⟩ := lf_cE h
    have hFc := lx_free hD hS hA
    refine va_calli (va_runV (As := [.int y_1]) (rest := []) ⟨hx, hb, hml, hown, hts⟩ (l_Tr_isReadOnly l dC dI X _ hc_4) (cwV 1 hts (gwV good_Vq (u_Vq_Tu _ k_Tu_151) (u_Vq_Tr _ k_Tr_101) (u_Vq_Tr _ k_Tr_102) (u_Vq_Tr _ k_Tr_0) (wcs (u_Vq_Tr _ k_Tr_103) (fun _ h => h))) rfl rfl rfl (by decide +kernel) ⟨Nat.le_of_ble_eq_true rfl, Nat.le_of_ble_eq_true rfl⟩) (pv_ofE (X.same _) (fun U z1 z2 => X.mono _ _ U hFc (hEw _ _ hS U z1 z2)) hP hK hD (va_recv hK hP (ci := 5) (q0 := 4) rfl rfl)) rfl rfl hl.1 rfl (lv_room (Nat.le_of_ble_eq_true rfl)) d_Tu_modeOf_35 ⟨by decide, by decide⟩) hS (fun q _ h => hFc q h) hFc (fun r_ u t H locs ht hvm hw hB hz1 hk1 hS => ?_)
    rw [hw]
    obtain ⟨hP, -, hD⟩ := hB
    rw [ht] at hP
    have hD := lx_dj hD hFc
    refine lv_if_eq (tgt := 49) hx hb d_Tu_modeOf_38 (by decide) (fun c_5 => ?_) (fun c_5 => ?_)
    · have h := lf_t h c_5
      refine lv_iload_n hx hb d_Tu_modeOf_49 rfl (lv_at hl 0 rfl) ?_
      rw [hQ]
      have e1 : z_0 = r := congrArg Prod.fst (Option.some.inj h)
      have e2 : S_4 = S' := congrArg Prod.snd (Option.some.inj h)
      have hP := ly_newP e2.symm hP
      have hD := ly_newD e2.symm hD
      exact W.iret (v := z_0) hx hb hr (fun t ht hW => ⟨⟨z_0, (), rfl, e1, by rw [ht]; exact hP, va_K.moved hW.alike hK, hD⟩, hS.F ht⟩) hS.2.2 d_Tu_modeOf_50
    · have h := lf_f h c_5
      refine lv_iload_n hx hb d_Tu_modeOf_41 rfl (lv_at hl 0 rfl) ?_
      refine lv_sipush (v := 128) hx hb d_Tu_modeOf_42 (by decide) ?_
      refine lv_isub hx hb d_Tu_modeOf_45 ?_
      refine lv_goto (tgt := 50) hx hb d_Tu_modeOf_46 (by decide) ?_
      rw [hQ]
      have e1 : (z_0 - 128) = r := congrArg Prod.fst (Option.some.inj h)
      have e2 : S_4 = S' := congrArg Prod.snd (Option.some.inj h)
      have hP := ly_newP e2.symm hP
      have hD := ly_newD e2.symm hD
      exact W.iret (v := (z_0 - 128)) hx hb hr (fun t ht hW => ⟨⟨(z_0 - 128), (), rfl, e1, by rw [ht]; exact hP, va_K.moved hW.alike hK, hD⟩, hS.F ht⟩) hS.2.2 d_Tu_modeOf_50
  rw [f_Tu_modeOf] at h
  refine lv_iload_n hx hb d_Tu_modeOf_0 rfl (lv_at hl 1 rfl) ?_
  refine lv_iconst (v := (-1)) hx hb d_Tu_modeOf_1 (by decide) ?_
  refine lv_icmp_ne (tgt := 9) hx hb d_Tu_modeOf_2 (by decide) (fun c_1 => ?_) (fun c_1 => ?_)
  · have h := lf_f h c_1
    refine lv_aload_n hx hb d_Tu_modeOf_9 rfl (lv_at hl 0 rfl) ?_
    refine va_get (D := (dC, dI)) (ci := 10) (v := .ref M.o_Tr) (C := R_Tu) (T := F_Tu) (N := 7) hx hb hts (fun w h => u_Vq_Tu w (i_Tu w h)) hown hK hP 8 rfl rfl 2 (by decide) (hts _ (u_Vq_Tu _ k_Tu_19)) (fun _ h9 => h9) rfl d_Tu_modeOf_10 ?_
    refine lv_iload_n hx hb d_Tu_modeOf_13 rfl (lv_at hl 1 rfl) ?_
    obtain ⟨r_2, S_2, hc_2, h⟩ := lf_cE h
    have hFc := lx_free hD hS hA
    refine va_calli (va_runV (As := [.int p0]) (rest := []) ⟨hx, hb, hml, hown, hts⟩ (l_Tr_isDirectory l dC dI X _ hc_2) (cwV 1 hts (gwV good_Vq (u_Vq_Tu _ k_Tu_61) (u_Vq_Tr _ k_Tr_42) (u_Vq_Tr _ k_Tr_43) (u_Vq_Tr _ k_Tr_0) (wcs (u_Vq_Tr _ k_Tr_44) (fun _ h => h))) rfl rfl rfl (by decide +kernel) ⟨Nat.le_of_ble_eq_true rfl, Nat.le_of_ble_eq_true rfl⟩) (pv_ofE (X.same _) (fun U z1 z2 => X.mono _ _ U hFc (hEw _ _ hS U z1 z2)) hP hK hD (va_recv hK hP (ci := 5) (q0 := 4) rfl rfl)) rfl rfl hl.1 rfl (lv_room (Nat.le_of_ble_eq_true rfl)) d_Tu_modeOf_14 ⟨by decide, by decide⟩) hS (fun q _ h => hFc q h) hFc (fun r_ u t H locs ht hvm hw hB hz1 hk1 hS => ?_)
    rw [hw]
    obtain ⟨hP, -, hD⟩ := hB
    rw [ht] at hP
    have hD := lx_dj hD hFc
    refine lv_if_eq (tgt := 26) hx hb d_Tu_modeOf_17 (by decide) (fun c_3 => ?_) (fun c_3 => ?_)
    · have h := lf_t h c_3
      refine lv_ldcw (v := 33188) hx hb hown (hts _ (u_Vq_Tu _ k_Tu_150)) d_Tu_modeOf_26 ?_
      exact hB_29 p0 33188 S_2 _ _ _ h hP hD hS (lv_sub hl [0, 1] rfl)
    · have h := lf_f h c_3
      refine lv_sipush (v := 16877) hx hb d_Tu_modeOf_20 (by decide) ?_
      refine lv_goto (tgt := 29) hx hb d_Tu_modeOf_23 (by decide) ?_
      exact hB_29 p0 16877 S_2 _ _ _ h hP hD hS (lv_sub hl [0, 1] rfl)
  · have h := lf_t h c_1
    refine lv_ldcw (v := 33024) hx hb hown (hts _ (u_Vq_Tu _ k_Tu_149)) d_Tu_modeOf_5 ?_
    rw [hQ]
    have e1 : (33024 : Int32) = r := congrArg Prod.fst (Option.some.inj h)
    have e2 : S = S' := congrArg Prod.snd (Option.some.inj h)
    have hP := ly_newP e2.symm hP
    have hD := ly_newD e2.symm hD
    exact W.iret (v := 33024) hx hb hr (fun t ht hW => ⟨⟨33024, (), rfl, e1, by rw [ht]; exact hP, va_K.moved hW.alike hK, hD⟩, hS.F ht⟩) hS.2.2 d_Tu_modeOf_8
set_option maxHeartbeats 4000000 in
set_option maxRecDepth 100000 in
theorem l_Tu_linksOf (l : Launch) (dC : Nat → ClassId) (dI : Nat → Nat → Nat) {K : Nat} {M : CA} {E : (Nat → Prop) → State → Prop} (X : ly_X l dC dI K M E) (sz : Nat) {Y : CT} {G : CG} {S S' : CS} {p0 : Int32} {r : Int32} (h : f_Tu_linksOf K G S p0 = some (r, S')) : Met l y_Tu_linksOf (.code y_Tu_linksOf cb_Tu_linksOf 4 (some .int) :: V_Vq) ({ frames := 2, cells := 0, slots := 0, locals := 43 }) (va_Pc [.ref M.o_Tu, .int p0] (fun U => U.heap.size = sz ∧ at_ (dC, dI) (fun _ => True) (wV M Y G S) (tV M) U ∧ E (va_A (wV M Y G S) sz) U)) (va_Qi (fun (r_ : Int32) (u : Unit) => r_ = r) (fun (u : Unit) t => at_ (dC, dI) (va_A (wV M Y G S) sz) (wV M Y G S') (tV M) t) (va_A (wV M Y G S) sz)) 0 0 (va_A (wV M Y G S) sz) := by
  refine Met.ofW (cc := cb_Tu_linksOf) (maxL := 4) (ret := (some .int)) (by decide) rfl ?_
  intro p e s m args below meth c s₁ B hml hv
  obtain ⟨rfl, hsz, ⟨hP, hK, hD0⟩, hE⟩ := hv
  have hx := B.exec
  have hb := B.bytes
  have hr := B.returns
  have hts0 := atoms_spec (ws := .code y_Tu_linksOf cb_Tu_linksOf 4 (some .int) :: V_Vq) B.pre
  have hts : ∀ w ∈ V_Vq, w.before ([.ref M.o_Tu, .int p0] : List Value).toArray s = true := fun w h => hts0 w (List.mem_cons_of_mem _ h)
  have hown : s.vm.findClass R_Tu = some m.cls := findClass_of_methodNamed B.named
  subst hsz
  have hD := hD0.self (sz := s.heap.size)
  generalize hAe : va_A (wV M Y G S) s.heap.size = A at hD hE ⊢
  have hA : ∀ q : Nat, s.heap.size ≤ q → A q := fun q h => by rw [← hAe]; exact Or.inr h
  have hS : va_S A s.heap s.heap [] := va_S.rf
  have hP : va_P (dC, dI) classes (wV M Y G S) s.heap := hP
  have hK : va_K (dC, dI) classes (tV M) s := hK
  have hEw : ∀ (H : Heap) (locs : List Loc), va_S A s.heap H locs → ∀ U : State, U.heap = H → s.WarmedH U.vm → E A U := fun H locs hS U hU hW => X.kept A s U H locs hE hS hU hW
  have hl := lv_entry ([.ref M.o_Tu, .int p0]) (n := 4) (Nat.le_of_ble_eq_true rfl)
  rw [lg_entry_eq]
  generalize (lg_sl ([.ref M.o_Tu, .int p0]) ++ List.replicate (4 - (lg_sl ([.ref M.o_Tu, .int p0])).length) Slot.unset).toArray = ls at hl ⊢
  have hl : lv_has ls 4 [(0, .ref M.o_Tu), (1, .int p0)] := hl
  refine qabs (fun Q hQ => ?_)
  have hB_54 : ∀ (rec_17 : Int32 → Int32 → Int32 → CS → Option (Int32 × CS)) (hr_17 : ∀ (y_1 : Int32) (y_2 : Int32) (y_3 : Int32) (S : CS) (H : Heap) (locs : List Loc) (ls : Array Slot), rec_17 y_1 y_2 y_3 S = some (r, S') → va_P (dC, dI) classes (wV M Y G S) H → va_D A (wV M Y G S) → va_S A s.heap H locs → lv_has ls 4 [(0, .ref M.o_Tu), (1, .int y_1), (2, .int y_2), (3, .int y_3)] → W p l e ({ frames := 2, cells := 0, slots := 0, locals := 43 }) s m ([.ref M.o_Tu, .int p0] : List Value).toArray below meth c H locs 0 0 Q (F0 m 17 ls [])), ∀ (y_1 : Int32) (y_3 : Int32) (z_0 : Int32) (z_1 : Int32) (S : CS) (H : Heap) (locs : List Loc) (ls : Array Slot), f_Tu_linksOf_54 K G rec_17 y_1 y_3 z_0 z_1 S = some (r, S') → va_P (dC, dI) classes (wV M Y G S) H → va_D A (wV M Y G S) → va_S A s.heap H locs → lv_has ls 4 [(0, .ref M.o_Tu), (1, .int y_1), (3, .int y_3)] → W p l e ({ frames := 2, cells := 0, slots := 0, locals := 43 }) s m ([.ref M.o_Tu, .int p0] : List Value).toArray below meth c H locs 0 0 Q (F0 m 54 ls [.int z_1, .int z_0]) := by
    intro rec_17 hr_17 y_1 y_3 z_0 z_1 S H locs ls h hP hD hS hl
    rw [f_Tu_linksOf_54] at h
    refine lv_iadd hx hb d_Tu_linksOf_54 ?_
    refine lv_topi (fun x_8 ex_8 => ?_)
    have h := lf_lE h ex_8
    refine lv_istore_n (lv' := [(2, .int x_8), (0, .ref M.o_Tu), (1, .int y_1), (3, .int y_3)]) hx hb d_Tu_linksOf_55 rfl hl (by decide) rfl (fun ls hl => ?_)
    obtain ⟨x_9, ex_9, h⟩ := lf_lX h
    refine lv_iinc (v := x_9) (lv' := [(3, .int x_9), (2, .int x_8), (0, .ref M.o_Tu), (1, .int y_1)]) hx hb d_Tu_linksOf_56 hl (k := 3) rfl (by rw [ex_9]; rfl) (by decide) rfl (fun ls hl => ?_)
    refine lv_goto (tgt := 17) hx hb d_Tu_linksOf_59 (by decide) ?_
    exact hr_17 y_1 x_8 x_9 S _ _ _ h hP hD hS (lv_sub hl [2, 3, 1, 0] rfl)
  have hB_17 : ∀ (k : Nat), ∀ (y_1 : Int32) (y_2 : Int32) (y_3 : Int32) (S : CS) (H : Heap) (locs : List Loc) (ls : Array Slot), f_Tu_linksOf_17 K G k y_1 y_2 y_3 S = some (r, S') → va_P (dC, dI) classes (wV M Y G S) H → va_D A (wV M Y G S) → va_S A s.heap H locs → lv_has ls 4 [(0, .ref M.o_Tu), (1, .int y_1), (2, .int y_2), (3, .int y_3)] → W p l e ({ frames := 2, cells := 0, slots := 0, locals := 43 }) s m ([.ref M.o_Tu, .int p0] : List Value).toArray below meth c H locs 0 0 Q (F0 m 17 ls []) := by
    intro k
    induction k with
    | zero => intro y_1 y_2 y_3 S H locs ls h; exact lf_no h
    | succ k hr_17 =>
      intro y_1 y_2 y_3 S H locs ls h hP hD hS hl
      rw [f_Tu_linksOf_17] at h
      refine lv_iload_n hx hb d_Tu_linksOf_17 rfl (lv_at hl 3 rfl) ?_
      refine lv_aload_n hx hb d_Tu_linksOf_18 rfl (lv_at hl 0 rfl) ?_
      refine va_get (D := (dC, dI)) (ci := 10) (v := .ref M.o_Tr) (C := R_Tu) (T := F_Tu) (N := 7) hx hb hts (fun w h => u_Vq_Tu w (i_Tu w h)) hown hK hP 8 rfl rfl 2 (by decide) (hts _ (u_Vq_Tu _ k_Tu_19)) (fun _ h9 => h9) rfl d_Tu_linksOf_19 ?_
      refine lv_iload_n hx hb d_Tu_linksOf_22 rfl (lv_at hl 1 rfl) ?_
      obtain ⟨r_3, S_3, hc_3, h⟩ := lf_cE h
      have hFc := lx_free hD hS hA
      refine va_calli (va_runV (As := [.int y_1]) (rest := [.int y_3]) ⟨hx, hb, hml, hown, hts⟩ (l_Tr_countIn l dC dI X _ hc_3) (cwV 1 hts (gwV good_Vq (u_Vq_Tu _ k_Tu_78) (u_Vq_Tr _ k_Tr_91) (u_Vq_Tr _ k_Tr_92) (u_Vq_Tr _ k_Tr_0) (wcs (u_Vq_Tr _ k_Tr_93) (fun _ h => h))) rfl rfl rfl (by decide +kernel) ⟨Nat.le_of_ble_eq_true rfl, Nat.le_of_ble_eq_true rfl⟩) (pv_ofE (X.same _) (fun U z1 z2 => X.mono _ _ U hFc (hEw _ _ hS U z1 z2)) hP hK hD (va_recv hK hP (ci := 5) (q0 := 4) rfl rfl)) rfl rfl hl.1 rfl (lv_room (Nat.le_of_ble_eq_true rfl)) d_Tu_linksOf_23 ⟨by decide, by decide⟩) hS (fun q _ h => hFc q h) hFc (fun r_ u t H locs ht hvm hw hB hz1 hk1 hS => ?_)
      rw [hw]
      obtain ⟨hP, -, hD⟩ := hB
      rw [ht] at hP
      have hD := lx_dj hD hFc
      refine lv_icmp_ge (tgt := 62) hx hb d_Tu_linksOf_26 (by decide) (fun c_4 => ?_) (fun c_4 => ?_)
      · have h := lf_t h c_4
        refine lv_iload_n hx hb d_Tu_linksOf_62 rfl (lv_at hl 2 rfl) ?_
        rw [hQ]
        have e1 : y_2 = r := congrArg Prod.fst (Option.some.inj h)
        have e2 : S_3 = S' := congrArg Prod.snd (Option.some.inj h)
        have hP := ly_newP e2.symm hP
        have hD := ly_newD e2.symm hD
        exact W.iret (v := y_2) hx hb hr (fun t ht hW => ⟨⟨y_2, (), rfl, e1, by rw [ht]; exact hP, va_K.moved hW.alike hK, hD⟩, hS.F ht⟩) hS.2.2 d_Tu_linksOf_63
      · have h := lf_f h c_4
        refine lv_iload_n hx hb d_Tu_linksOf_29 rfl (lv_at hl 2 rfl) ?_
        refine lv_aload_n hx hb d_Tu_linksOf_30 rfl (lv_at hl 0 rfl) ?_
        refine va_get (D := (dC, dI)) (ci := 10) (v := .ref M.o_Tr) (C := R_Tu) (T := F_Tu) (N := 7) hx hb hts (fun w h => u_Vq_Tu w (i_Tu w h)) hown hK hP 8 rfl rfl 2 (by decide) (hts _ (u_Vq_Tu _ k_Tu_19)) (fun _ h9 => h9) rfl d_Tu_linksOf_31 ?_
        refine lv_aload_n hx hb d_Tu_linksOf_34 rfl (lv_at hl 0 rfl) ?_
        refine va_get (D := (dC, dI)) (ci := 10) (v := .ref M.o_Tr) (C := R_Tu) (T := F_Tu) (N := 7) hx hb hts (fun w h => u_Vq_Tu w (i_Tu w h)) hown hK hP 8 rfl rfl 2 (by decide) (hts _ (u_Vq_Tu _ k_Tu_19)) (fun _ h9 => h9) rfl d_Tu_linksOf_35 ?_
        refine lv_iload_n hx hb d_Tu_linksOf_38 rfl (lv_at hl 1 rfl) ?_
        refine lv_iload_n hx hb d_Tu_linksOf_39 rfl (lv_at hl 3 rfl) ?_
        obtain ⟨r_5, S_5, hc_5, h⟩ := lf_cE h
        have hFc := lx_free hD hS hA
        refine va_calli (va_runV (As := [.int y_1, .int y_3]) (rest := [.ref M.o_Tr, .int y_2]) ⟨hx, hb, hml, hown, hts⟩ (l_Tr_kid l dC dI X _ hc_5) (cwV 2 hts (gwV good_Vq (u_Vq_Tu _ k_Tu_80) (u_Vq_Tr _ k_Tr_54) (u_Vq_Tr _ k_Tr_55) (u_Vq_Tr _ k_Tr_0) (wcs (u_Vq_Tr _ k_Tr_56) (fun _ h => h))) rfl rfl rfl (by decide +kernel) ⟨Nat.le_of_ble_eq_true rfl, Nat.le_of_ble_eq_true rfl⟩) (pv_ofE (X.same _) (fun U z1 z2 => X.mono _ _ U hFc (hEw _ _ hS U z1 z2)) hP hK hD (va_recv hK hP (ci := 5) (q0 := 4) rfl rfl)) rfl rfl hl.1 rfl (lv_room (Nat.le_of_ble_eq_true rfl)) d_Tu_linksOf_40 ⟨by decide, by decide⟩) hS (fun q _ h => hFc q h) hFc (fun r_ u t H locs ht hvm hw hB hz1 hk1 hS => ?_)
        rw [hw]
        obtain ⟨hP, -, hD⟩ := hB
        rw [ht] at hP
        have hD := lx_dj hD hFc
        obtain ⟨r_6, S_6, hc_6, h⟩ := lf_cE h
        have hFc := lx_free hD hS hA
        refine va_calli (va_runV (As := [.int r_5]) (rest := [.int y_2]) ⟨hx, hb, hml, hown, hts⟩ (l_Tr_isDirectory l dC dI X _ hc_6) (cwV 1 hts (gwV good_Vq (u_Vq_Tu _ k_Tu_61) (u_Vq_Tr _ k_Tr_42) (u_Vq_Tr _ k_Tr_43) (u_Vq_Tr _ k_Tr_0) (wcs (u_Vq_Tr _ k_Tr_44) (fun _ h => h))) rfl rfl rfl (by decide +kernel) ⟨Nat.le_of_ble_eq_true rfl, Nat.le_of_ble_eq_true rfl⟩) (pv_ofE (X.same _) (fun U z1 z2 => X.mono _ _ U hFc (hEw _ _ hS U z1 z2)) hP hK hD (va_recv hK hP (ci := 5) (q0 := 4) rfl rfl)) rfl rfl hl.1 rfl (lv_room (Nat.le_of_ble_eq_true rfl)) d_Tu_linksOf_43 ⟨by decide, by decide⟩) hS (fun q _ h => hFc q h) hFc (fun r_ u t H locs ht hvm hw hB hz1 hk1 hS => ?_)
        rw [hw]
        obtain ⟨hP, -, hD⟩ := hB
        rw [ht] at hP
        have hD := lx_dj hD hFc
        refine lv_if_eq (tgt := 53) hx hb d_Tu_linksOf_46 (by decide) (fun c_7 => ?_) (fun c_7 => ?_)
        · have h := lf_t h c_7
          refine lv_iconst (v := 0) hx hb d_Tu_linksOf_53 (by decide) ?_
          exact hB_54 _ hr_17 y_1 y_3 y_2 0 S_6 _ _ _ h hP hD hS (lv_sub hl [0, 1, 3] rfl)
        · have h := lf_f h c_7
          refine lv_iconst (v := 1) hx hb d_Tu_linksOf_49 (by decide) ?_
          refine lv_goto (tgt := 54) hx hb d_Tu_linksOf_50 (by decide) ?_
          exact hB_54 _ hr_17 y_1 y_3 y_2 1 S_6 _ _ _ h hP hD hS (lv_sub hl [0, 1, 3] rfl)
  rw [f_Tu_linksOf] at h
  refine lv_aload_n hx hb d_Tu_linksOf_0 rfl (lv_at hl 0 rfl) ?_
  refine va_get (D := (dC, dI)) (ci := 10) (v := .ref M.o_Tr) (C := R_Tu) (T := F_Tu) (N := 7) hx hb hts (fun w h => u_Vq_Tu w (i_Tu w h)) hown hK hP 8 rfl rfl 2 (by decide) (hts _ (u_Vq_Tu _ k_Tu_19)) (fun _ h9 => h9) rfl d_Tu_linksOf_1 ?_
  refine lv_iload_n hx hb d_Tu_linksOf_4 rfl (lv_at hl 1 rfl) ?_
  obtain ⟨r_1, S_1, hc_1, h⟩ := lf_cE h
  have hFc := lx_free hD hS hA
  refine va_calli (va_runV (As := [.int p0]) (rest := []) ⟨hx, hb, hml, hown, hts⟩ (l_Tr_isDirectory l dC dI X _ hc_1) (cwV 1 hts (gwV good_Vq (u_Vq_Tu _ k_Tu_61) (u_Vq_Tr _ k_Tr_42) (u_Vq_Tr _ k_Tr_43) (u_Vq_Tr _ k_Tr_0) (wcs (u_Vq_Tr _ k_Tr_44) (fun _ h => h))) rfl rfl rfl (by decide +kernel) ⟨Nat.le_of_ble_eq_true rfl, Nat.le_of_ble_eq_true rfl⟩) (pv_ofE (X.same _) (fun U z1 z2 => X.mono _ _ U hFc (hEw _ _ hS U z1 z2)) hP hK hD (va_recv hK hP (ci := 5) (q0 := 4) rfl rfl)) rfl rfl hl.1 rfl (lv_room (Nat.le_of_ble_eq_true rfl)) d_Tu_linksOf_5 ⟨by decide, by decide⟩) hS (fun q _ h => hFc q h) hFc (fun r_ u t H locs ht hvm hw hB hz1 hk1 hS => ?_)
  rw [hw]
  obtain ⟨hP, -, hD⟩ := hB
  rw [ht] at hP
  have hD := lx_dj hD hFc
  refine lv_if_ne (tgt := 13) hx hb d_Tu_linksOf_8 (by decide) (fun c_2 => ?_) (fun c_2 => ?_)
  · have h := lf_f h c_2
    refine lv_iconst (v := 2) hx hb d_Tu_linksOf_13 (by decide) ?_
    refine lv_istore_n (lv' := [(2, .int 2), (0, .ref M.o_Tu), (1, .int p0)]) hx hb d_Tu_linksOf_14 rfl hl (by decide) rfl (fun ls hl => ?_)
    refine lv_iconst (v := 0) hx hb d_Tu_linksOf_15 (by decide) ?_
    refine lv_istore_n (lv' := [(3, .int 0), (2, .int 2), (0, .ref M.o_Tu), (1, .int p0)]) hx hb d_Tu_linksOf_16 rfl hl (by decide) rfl (fun ls hl => ?_)
    exact hB_17 K p0 2 0 S_1 _ _ _ h hP hD hS (lv_sub hl [2, 3, 1, 0] rfl)
  · have h := lf_t h c_2
    refine lv_iconst (v := 1) hx hb d_Tu_linksOf_11 (by decide) ?_
    rw [hQ]
    have e1 : (1 : Int32) = r := congrArg Prod.fst (Option.some.inj h)
    have e2 : S_1 = S' := congrArg Prod.snd (Option.some.inj h)
    have hP := ly_newP e2.symm hP
    have hD := ly_newD e2.symm hD
    exact W.iret (v := 1) hx hb hr (fun t ht hW => ⟨⟨1, (), rfl, e1, by rw [ht]; exact hP, va_K.moved hW.alike hK, hD⟩, hS.F ht⟩) hS.2.2 d_Tu_linksOf_12
set_option maxHeartbeats 4000000 in
set_option maxRecDepth 100000 in
theorem l_Tu_fillInode (l : Launch) (dC : Nat → ClassId) (dI : Nat → Nat → Nat) {K : Nat} {M : CA} {E : (Nat → Prop) → State → Prop} (X : ly_X l dC dI K M E) (sz : Nat) {Y : CT} {G : CG} {S S' : CS} {p0 : Int32} {p1 : Int32} (h : f_Tu_fillInode K G S p0 p1 = some S') : Met l y_Tu_fillInode (.code y_Tu_fillInode cb_Tu_fillInode 7 none :: V_Vq) ({ frames := 3, cells := 0, slots := 0, locals := 74 }) (va_Pc [.ref M.o_Tu, .int p0, .int p1] (fun U => U.heap.size = sz ∧ at_ (dC, dI) (fun _ => True) (wV M Y G S) (tV M) U ∧ E (va_A (wV M Y G S) sz) U)) (va_Qv (fun (u : Unit) => True) (fun (u : Unit) t => at_ (dC, dI) (va_A (wV M Y G S) sz) (wV M Y G S') (tV M) t) (va_A (wV M Y G S) sz)) 0 0 (va_A (wV M Y G S) sz) := by
  refine Met.ofW (cc := cb_Tu_fillInode) (maxL := 7) (ret := none) (by decide) rfl ?_
  intro p e s m args below meth c s₁ B hml hv
  obtain ⟨rfl, hsz, ⟨hP, hK, hD0⟩, hE⟩ := hv
  have hx := B.exec
  have hb := B.bytes
  have hr := B.returns
  have hts0 := atoms_spec (ws := .code y_Tu_fillInode cb_Tu_fillInode 7 none :: V_Vq) B.pre
  have hts : ∀ w ∈ V_Vq, w.before ([.ref M.o_Tu, .int p0, .int p1] : List Value).toArray s = true := fun w h => hts0 w (List.mem_cons_of_mem _ h)
  have hown : s.vm.findClass R_Tu = some m.cls := findClass_of_methodNamed B.named
  subst hsz
  have hD := hD0.self (sz := s.heap.size)
  generalize hAe : va_A (wV M Y G S) s.heap.size = A at hD hE ⊢
  have hA : ∀ q : Nat, s.heap.size ≤ q → A q := fun q h => by rw [← hAe]; exact Or.inr h
  have hS : va_S A s.heap s.heap [] := va_S.rf
  have hP : va_P (dC, dI) classes (wV M Y G S) s.heap := hP
  have hK : va_K (dC, dI) classes (tV M) s := hK
  have hEw : ∀ (H : Heap) (locs : List Loc), va_S A s.heap H locs → ∀ U : State, U.heap = H → s.WarmedH U.vm → E A U := fun H locs hS U hU hW => X.kept A s U H locs hE hS hU hW
  have hl := lv_entry ([.ref M.o_Tu, .int p0, .int p1]) (n := 7) (Nat.le_of_ble_eq_true rfl)
  rw [lg_entry_eq]
  generalize (lg_sl ([.ref M.o_Tu, .int p0, .int p1]) ++ List.replicate (7 - (lg_sl ([.ref M.o_Tu, .int p0, .int p1])).length) Slot.unset).toArray = ls at hl ⊢
  have hl : lv_has ls 7 [(0, .ref M.o_Tu), (1, .int p0), (2, .int p1)] := hl
  refine qabs (fun Q hQ => ?_)
  have hB_229 : ∀ (k : Nat), ∀ (y_1 : Int32) (y_4 : Int32) (y_5 : Int32) (y_6 : Int32) (S : CS) (H : Heap) (locs : List Loc) (ls : Array Slot), f_Tu_fillInode_229 K G k y_1 y_4 y_5 y_6 S = some S' → va_P (dC, dI) classes (wV M Y G S) H → va_D A (wV M Y G S) → va_S A s.heap H locs → lv_has ls 7 [(0, .ref M.o_Tu), (1, .int y_1), (4, .int y_4), (5, .int y_5), (6, .int y_6)] → W p l e ({ frames := 3, cells := 0, slots := 0, locals := 74 }) s m ([.ref M.o_Tu, .int p0, .int p1] : List Value).toArray below meth c H locs 0 0 Q (F0 m 229 ls []) := by
    intro k
    induction k with
    | zero => intro y_1 y_4 y_5 y_6 S H locs ls h; exact lf_no h
    | succ k hr_229 =>
      intro y_1 y_4 y_5 y_6 S H locs ls h hP hD hS hl
      rw [f_Tu_fillInode_229] at h
      refine lv_iload hx hb d_Tu_fillInode_229 (lv_at hl 4 rfl) ?_
      refine lv_iload hx hb d_Tu_fillInode_231 (lv_at hl 2 rfl) ?_
      refine lv_icmp_ge (tgt := 273) hx hb d_Tu_fillInode_233 (by decide) (fun c_26 => ?_) (fun c_26 => ?_)
      · have h := lf_t h c_26
        rw [hQ]
        have e2 : S = S' := Option.some.inj h
        have hP := ly_newP e2.symm hP
        have hD := ly_newD e2.symm hD
        exact W.vret hx hb hr (fun t ht hW => ⟨⟨(), rfl, trivial, by rw [ht]; exact hP, va_K.moved hW.alike hK, hD⟩, hS.F ht⟩) hS.2.2 d_Tu_fillInode_273
      · have h := lf_f h c_26
        refine lv_iload hx hb d_Tu_fillInode_236 (lv_at hl 4 rfl) ?_
        refine lv_iconst (v := 2) hx hb d_Tu_fillInode_238 (by decide) ?_
        refine lv_icmp_ge (tgt := 273) hx hb d_Tu_fillInode_239 (by decide) (fun c_27 => ?_) (fun c_27 => ?_)
        · have h := lf_t h c_27
          rw [hQ]
          have e2 : S = S' := Option.some.inj h
          have hP := ly_newP e2.symm hP
          have hD := ly_newD e2.symm hD
          exact W.vret hx hb hr (fun t ht hW => ⟨⟨(), rfl, trivial, by rw [ht]; exact hP, va_K.moved hW.alike hK, hD⟩, hS.F ht⟩) hS.2.2 d_Tu_fillInode_273
        · have h := lf_f h c_27
          refine lv_aload_n hx hb d_Tu_fillInode_242 rfl (lv_at hl 0 rfl) ?_
          refine lv_iload_n hx hb d_Tu_fillInode_243 rfl (lv_at hl 1 rfl) ?_
          refine lv_bipush (v := 88) hx hb d_Tu_fillInode_244 (by decide) ?_
          refine lv_iadd hx hb d_Tu_fillInode_246 ?_
          refine lv_iconst (v := 4) hx hb d_Tu_fillInode_247 (by decide) ?_
          refine lv_iload hx hb d_Tu_fillInode_248 (lv_at hl 4 rfl) ?_
          refine lv_imul hx hb d_Tu_fillInode_250 ?_
          refine lv_iadd hx hb d_Tu_fillInode_251 ?_
          refine lv_aload_n hx hb d_Tu_fillInode_252 rfl (lv_at hl 0 rfl) ?_
          refine va_get (D := (dC, dI)) (ci := 10) (v := .ref M.o_Pl) (C := R_Tu) (T := F_Tu) (N := 7) hx hb hts (fun w h => u_Vq_Tu w (i_Tu w h)) hown hK hP 8 rfl rfl 4 (by decide) (hts _ (u_Vq_Tu _ k_Tu_21)) (fun _ h9 => h9) rfl d_Tu_fillInode_253 ?_
          refine lv_iload hx hb d_Tu_fillInode_256 (lv_at hl 3 rfl) ?_
          refine lv_iload hx hb d_Tu_fillInode_258 (lv_at hl 4 rfl) ?_
          refine lv_iadd hx hb d_Tu_fillInode_260 ?_
          obtain ⟨r_28, S_28, hc_28, h⟩ := lf_cE h
          have hFc := lx_free hD hS hA
          refine va_calli (va_runV (As := [.int (y_5 + y_6)]) (rest := [.int ((y_1 + 88) + (4 * y_6)), .ref M.o_Tu]) ⟨hx, hb, hml, hown, hts⟩ (l_Pl_room l dC dI X _ hc_28) (cwV 1 hts (gwV good_Vq (u_Vq_Tu _ k_Tu_37) (u_Vq_Pl _ k_Pl_96) (u_Vq_Pl _ k_Pl_97) (u_Vq_Pl _ k_Pl_0) (wcs (u_Vq_Pl _ k_Pl_98) (fun _ h => h))) rfl rfl rfl (by decide +kernel) ⟨Nat.le_of_ble_eq_true rfl, Nat.le_of_ble_eq_true rfl⟩) (pv_ofE (X.same _) (fun U z1 z2 => X.mono _ _ U hFc (hEw _ _ hS U z1 z2)) hP hK hD (va_recv hK hP (ci := 9) (q0 := 7) rfl rfl)) rfl rfl hl.1 rfl (lv_room (Nat.le_of_ble_eq_true rfl)) d_Tu_fillInode_261 ⟨by decide, by decide⟩) hS (fun q _ h => hFc q h) hFc (fun r_ u t H locs ht hvm hw hB hz1 hk1 hS => ?_)
          rw [hw]
          obtain ⟨hP, -, hD⟩ := hB
          rw [ht] at hP
          have hD := lx_dj hD hFc
          obtain ⟨S_29, hc_29, h⟩ := lf_bE h
          have hFc := lx_free hD hS hA
          refine va_callv (va_runV (As := [.int ((y_1 + 88) + (4 * y_6)), .int r_28]) (rest := []) ⟨hx, hb, hml, hown, hts⟩ (l_Tu_putFour l dC dI X _ hc_29) (cwV 2 hts (gwV good_Vq (u_Vq_Tu _ k_Tu_84) (u_Vq_Tu _ k_Tu_85) (u_Vq_Tu _ k_Tu_168) (u_Vq_Tu _ k_Tu_0) (wcs (u_Vq_Tu _ k_Tu_86) (fun _ h => h))) rfl rfl rfl (by decide +kernel) ⟨Nat.le_of_ble_eq_true rfl, Nat.le_of_ble_eq_true rfl⟩) (pv_ofE (X.same _) (fun U z1 z2 => X.mono _ _ U hFc (hEw _ _ hS U z1 z2)) hP hK hD (va_recv hK hP (ci := 10) (q0 := 8) rfl rfl)) rfl rfl hl.1 rfl (lv_room (Nat.le_of_ble_eq_true rfl)) d_Tu_fillInode_264 ⟨by decide, by decide⟩) hS (fun q _ h => hFc q h) hFc (fun u t H locs ht hvm hw hB hz1 hk1 hS => ?_)
          obtain ⟨hP, -, hD⟩ := hB
          rw [ht] at hP
          have hD := lx_dj hD hFc
          obtain ⟨x_30, ex_30, h⟩ := lf_lX h
          refine lv_iinc (v := x_30) (lv' := [(6, .int x_30), (0, .ref M.o_Tu), (1, .int y_1), (4, .int y_4), (5, .int y_5)]) hx hb d_Tu_fillInode_267 hl (k := 4) rfl (by rw [ex_30]; rfl) (by decide) rfl (fun ls hl => ?_)
          refine lv_goto (tgt := 229) hx hb d_Tu_fillInode_270 (by decide) ?_
          exact hr_229 y_1 y_4 y_5 x_30 S_29 _ _ _ h hP hD hS (lv_sub hl [1, 2, 3, 4, 0] rfl)
  have hB_226 : ∀ (y_1 : Int32) (y_4 : Int32) (y_5 : Int32) (S : CS) (H : Heap) (locs : List Loc) (ls : Array Slot), f_Tu_fillInode_226 K G y_1 y_4 y_5 S = some S' → va_P (dC, dI) classes (wV M Y G S) H → va_D A (wV M Y G S) → va_S A s.heap H locs → lv_has ls 7 [(0, .ref M.o_Tu), (1, .int y_1), (4, .int y_4), (5, .int y_5)] → W p l e ({ frames := 3, cells := 0, slots := 0, locals := 74 }) s m ([.ref M.o_Tu, .int p0, .int p1] : List Value).toArray below meth c H locs 0 0 Q (F0 m 226 ls []) := by
    intro y_1 y_4 y_5 S H locs ls h hP hD hS hl
    rw [f_Tu_fillInode_226] at h
    refine lv_iconst (v := 0) hx hb d_Tu_fillInode_226 (by decide) ?_
    refine lv_istore (lv' := [(6, .int 0), (0, .ref M.o_Tu), (1, .int y_1), (4, .int y_4), (5, .int y_5)]) hx hb d_Tu_fillInode_227 hl (by decide) rfl (fun ls hl => ?_)
    exact hB_229 K y_1 y_4 y_5 0 S _ _ _ h hP hD hS (lv_sub hl [1, 2, 3, 4, 0] rfl)
  have hB_178 : ∀ (k : Nat), ∀ (y_1 : Int32) (y_4 : Int32) (y_5 : Int32) (y_6 : Int32) (S : CS) (H : Heap) (locs : List Loc) (ls : Array Slot), f_Tu_fillInode_178 K G k y_1 y_4 y_5 y_6 S = some S' → va_P (dC, dI) classes (wV M Y G S) H → va_D A (wV M Y G S) → va_S A s.heap H locs → lv_has ls 7 [(0, .ref M.o_Tu), (1, .int y_1), (4, .int y_4), (5, .int y_5), (6, .int y_6)] → W p l e ({ frames := 3, cells := 0, slots := 0, locals := 74 }) s m ([.ref M.o_Tu, .int p0, .int p1] : List Value).toArray below meth c H locs 0 0 Q (F0 m 178 ls []) := by
    intro k
    induction k with
    | zero => intro y_1 y_4 y_5 y_6 S H locs ls h; exact lf_no h
    | succ k hr_178 =>
      intro y_1 y_4 y_5 y_6 S H locs ls h hP hD hS hl
      rw [f_Tu_fillInode_178] at h
      refine lv_iload hx hb d_Tu_fillInode_178 (lv_at hl 4 rfl) ?_
      refine lv_bipush (v := 12) hx hb d_Tu_fillInode_180 (by decide) ?_
      refine lv_icmp_ge (tgt := 226) hx hb d_Tu_fillInode_182 (by decide) (fun c_21 => ?_) (fun c_21 => ?_)
      · have h := lf_t h c_21
        exact hB_226 y_1 y_4 y_5 S _ _ _ h hP hD hS (lv_sub hl [0, 1, 2, 3] rfl)
      · have h := lf_f h c_21
        refine lv_iload hx hb d_Tu_fillInode_185 (lv_at hl 4 rfl) ?_
        refine lv_aload_n hx hb d_Tu_fillInode_187 rfl (lv_at hl 0 rfl) ?_
        refine va_get (D := (dC, dI)) (ci := 10) (v := .ref M.o_Pl) (C := R_Tu) (T := F_Tu) (N := 7) hx hb hts (fun w h => u_Vq_Tu w (i_Tu w h)) hown hK hP 8 rfl rfl 4 (by decide) (hts _ (u_Vq_Tu _ k_Tu_21)) (fun _ h9 => h9) rfl d_Tu_fillInode_188 ?_
        refine va_get (D := (dC, dI)) (ci := 9) (v := .int S.v_Pl_listed) (C := R_Pl) (T := F_Pl) (N := 17) hx hb hts (fun w h => u_Vq_Pl w (i_Pl w h)) hown hK hP 7 rfl rfl 10 (by decide) (hts _ (u_Vq_Tu _ k_Tu_8)) (fun _ h9 => h9) rfl d_Tu_fillInode_191 ?_
        refine lv_icmp_ge (tgt := 226) hx hb d_Tu_fillInode_194 (by decide) (fun c_22 => ?_) (fun c_22 => ?_)
        · have h := lf_t h c_22
          exact hB_226 y_1 y_4 y_5 S _ _ _ h hP hD hS (lv_sub hl [0, 1, 2, 3] rfl)
        · have h := lf_f h c_22
          refine lv_aload_n hx hb d_Tu_fillInode_197 rfl (lv_at hl 0 rfl) ?_
          refine lv_iload_n hx hb d_Tu_fillInode_198 rfl (lv_at hl 1 rfl) ?_
          refine lv_bipush (v := 40) hx hb d_Tu_fillInode_199 (by decide) ?_
          refine lv_iadd hx hb d_Tu_fillInode_201 ?_
          refine lv_iconst (v := 4) hx hb d_Tu_fillInode_202 (by decide) ?_
          refine lv_iload hx hb d_Tu_fillInode_203 (lv_at hl 4 rfl) ?_
          refine lv_imul hx hb d_Tu_fillInode_205 ?_
          refine lv_iadd hx hb d_Tu_fillInode_206 ?_
          refine lv_aload_n hx hb d_Tu_fillInode_207 rfl (lv_at hl 0 rfl) ?_
          refine va_get (D := (dC, dI)) (ci := 10) (v := .ref M.o_Pl) (C := R_Tu) (T := F_Tu) (N := 7) hx hb hts (fun w h => u_Vq_Tu w (i_Tu w h)) hown hK hP 8 rfl rfl 4 (by decide) (hts _ (u_Vq_Tu _ k_Tu_21)) (fun _ h9 => h9) rfl d_Tu_fillInode_208 ?_
          refine va_get (D := (dC, dI)) (ci := 9) (v := .ref M.a_Pl_list) (C := R_Pl) (T := F_Pl) (N := 17) hx hb hts (fun w h => u_Vq_Pl w (i_Pl w h)) hown hK hP 7 rfl rfl 9 (by decide) (hts _ (u_Vq_Tu _ k_Tu_7)) (fun _ h9 => h9) rfl d_Tu_fillInode_211 ?_
          refine lv_iload hx hb d_Tu_fillInode_214 (lv_at hl 4 rfl) ?_
          obtain ⟨g_23, h⟩ := lf_gE h
          refine va_iald hx hb hK hP 43 2 rfl rfl g_23 d_Tu_fillInode_216 ?_
          obtain ⟨S_24, hc_24, h⟩ := lf_bE h
          have hFc := lx_free hD hS hA
          refine va_callv (va_runV (As := [.int ((y_1 + 40) + (4 * y_6)), .int (S.w_Pl_list y_6.toNatClampNeg)]) (rest := []) ⟨hx, hb, hml, hown, hts⟩ (l_Tu_putFour l dC dI X _ hc_24) (cwV 2 hts (gwV good_Vq (u_Vq_Tu _ k_Tu_84) (u_Vq_Tu _ k_Tu_85) (u_Vq_Tu _ k_Tu_168) (u_Vq_Tu _ k_Tu_0) (wcs (u_Vq_Tu _ k_Tu_86) (fun _ h => h))) rfl rfl rfl (by decide +kernel) ⟨Nat.le_of_ble_eq_true rfl, Nat.le_of_ble_eq_true rfl⟩) (pv_ofE (X.same _) (fun U z1 z2 => X.mono _ _ U hFc (hEw _ _ hS U z1 z2)) hP hK hD (va_recv hK hP (ci := 10) (q0 := 8) rfl rfl)) rfl rfl hl.1 rfl (lv_room (Nat.le_of_ble_eq_true rfl)) d_Tu_fillInode_217 ⟨by decide, by decide⟩) hS (fun q _ h => hFc q h) hFc (fun u t H locs ht hvm hw hB hz1 hk1 hS => ?_)
          obtain ⟨hP, -, hD⟩ := hB
          rw [ht] at hP
          have hD := lx_dj hD hFc
          obtain ⟨x_25, ex_25, h⟩ := lf_lX h
          refine lv_iinc (v := x_25) (lv' := [(6, .int x_25), (0, .ref M.o_Tu), (1, .int y_1), (4, .int y_4), (5, .int y_5)]) hx hb d_Tu_fillInode_220 hl (k := 4) rfl (by rw [ex_25]; rfl) (by decide) rfl (fun ls hl => ?_)
          refine lv_goto (tgt := 178) hx hb d_Tu_fillInode_223 (by decide) ?_
          exact hr_178 y_1 y_4 y_5 x_25 S_24 _ _ _ h hP hD hS (lv_sub hl [1, 2, 3, 4, 0] rfl)
  have hB_142 : ∀ (y_1 : Int32) (y_2 : Int32) (y_4 : Int32) (y_5 : Int32) (S : CS) (H : Heap) (locs : List Loc) (ls : Array Slot), f_Tu_fillInode_142 K G y_1 y_2 y_4 y_5 S = some S' → va_P (dC, dI) classes (wV M Y G S) H → va_D A (wV M Y G S) → va_S A s.heap H locs → lv_has ls 7 [(0, .ref M.o_Tu), (1, .int y_1), (2, .int y_2), (4, .int y_4), (5, .int y_5)] → W p l e ({ frames := 3, cells := 0, slots := 0, locals := 74 }) s m ([.ref M.o_Tu, .int p0, .int p1] : List Value).toArray below meth c H locs 0 0 Q (F0 m 142 ls []) := by
    intro y_1 y_2 y_4 y_5 S H locs ls h hP hD hS hl
    rw [f_Tu_fillInode_142] at h
    refine lv_aload_n hx hb d_Tu_fillInode_142 rfl (lv_at hl 0 rfl) ?_
    refine lv_iload_n hx hb d_Tu_fillInode_143 rfl (lv_at hl 1 rfl) ?_
    refine lv_bipush (v := 26) hx hb d_Tu_fillInode_144 (by decide) ?_
    refine lv_iadd hx hb d_Tu_fillInode_146 ?_
    refine lv_aload_n hx hb d_Tu_fillInode_147 rfl (lv_at hl 0 rfl) ?_
    refine lv_iload_n hx hb d_Tu_fillInode_148 rfl (lv_at hl 2 rfl) ?_
    obtain ⟨r_13, S_13, hc_13, h⟩ := lf_cE h
    have hFc := lx_free hD hS hA
    refine va_calli (va_runV (As := [.int y_2]) (rest := [.int (y_1 + 26), .ref M.o_Tu]) ⟨hx, hb, hml, hown, hts⟩ (l_Tu_linksOf l dC dI X _ hc_13) (cwV 1 hts (gwV good_Vq (u_Vq_Tu _ k_Tu_155) (u_Vq_Tu _ k_Tu_156) (u_Vq_Tu _ k_Tu_184) (u_Vq_Tu _ k_Tu_0) (wcs (u_Vq_Tu _ k_Tu_157) (fun _ h => h))) rfl rfl rfl (by decide +kernel) ⟨Nat.le_of_ble_eq_true rfl, Nat.le_of_ble_eq_true rfl⟩) (pv_ofE (X.same _) (fun U z1 z2 => X.mono _ _ U hFc (hEw _ _ hS U z1 z2)) hP hK hD (va_recv hK hP (ci := 10) (q0 := 8) rfl rfl)) rfl rfl hl.1 rfl (lv_room (Nat.le_of_ble_eq_true rfl)) d_Tu_fillInode_149 ⟨by decide, by decide⟩) hS (fun q _ h => hFc q h) hFc (fun r_ u t H locs ht hvm hw hB hz1 hk1 hS => ?_)
    rw [hw]
    obtain ⟨hP, -, hD⟩ := hB
    rw [ht] at hP
    have hD := lx_dj hD hFc
    obtain ⟨S_14, hc_14, h⟩ := lf_bE h
    have hFc := lx_free hD hS hA
    refine va_callv (va_runV (As := [.int (y_1 + 26), .int r_13]) (rest := []) ⟨hx, hb, hml, hown, hts⟩ (l_Tu_putTwo l dC dI X _ hc_14) (cwV 2 hts (gwV good_Vq (u_Vq_Tu _ k_Tu_69) (u_Vq_Tu _ k_Tu_70) (u_Vq_Tu _ k_Tu_167) (u_Vq_Tu _ k_Tu_0) (wcs (u_Vq_Tu _ k_Tu_71) (fun _ h => h))) rfl rfl rfl (by decide +kernel) ⟨Nat.le_of_ble_eq_true rfl, Nat.le_of_ble_eq_true rfl⟩) (pv_ofE (X.same _) (fun U z1 z2 => X.mono _ _ U hFc (hEw _ _ hS U z1 z2)) hP hK hD (va_recv hK hP (ci := 10) (q0 := 8) rfl rfl)) rfl rfl hl.1 rfl (lv_room (Nat.le_of_ble_eq_true rfl)) d_Tu_fillInode_152 ⟨by decide, by decide⟩) hS (fun q _ h => hFc q h) hFc (fun u t H locs ht hvm hw hB hz1 hk1 hS => ?_)
    obtain ⟨hP, -, hD⟩ := hB
    rw [ht] at hP
    have hD := lx_dj hD hFc
    refine lv_aload_n hx hb d_Tu_fillInode_155 rfl (lv_at hl 0 rfl) ?_
    refine lv_iload_n hx hb d_Tu_fillInode_156 rfl (lv_at hl 1 rfl) ?_
    refine lv_bipush (v := 28) hx hb d_Tu_fillInode_157 (by decide) ?_
    refine lv_iadd hx hb d_Tu_fillInode_159 ?_
    refine lv_iconst (v := 2) hx hb d_Tu_fillInode_160 (by decide) ?_
    refine lv_aload_n hx hb d_Tu_fillInode_161 rfl (lv_at hl 0 rfl) ?_
    refine va_get (D := (dC, dI)) (ci := 10) (v := .ref M.o_Pl) (C := R_Tu) (T := F_Tu) (N := 7) hx hb hts (fun w h => u_Vq_Tu w (i_Tu w h)) hown hK hP 8 rfl rfl 4 (by decide) (hts _ (u_Vq_Tu _ k_Tu_21)) (fun _ h9 => h9) rfl d_Tu_fillInode_162 ?_
    refine va_get (D := (dC, dI)) (ci := 9) (v := .int S_14.v_Pl_listed) (C := R_Pl) (T := F_Pl) (N := 17) hx hb hts (fun w h => u_Vq_Pl w (i_Pl w h)) hown hK hP 7 rfl rfl 10 (by decide) (hts _ (u_Vq_Tu _ k_Tu_8)) (fun _ h9 => h9) rfl d_Tu_fillInode_165 ?_
    refine lv_iload hx hb d_Tu_fillInode_168 (lv_at hl 3 rfl) ?_
    refine lv_iadd hx hb d_Tu_fillInode_170 ?_
    refine lv_imul hx hb d_Tu_fillInode_171 ?_
    obtain ⟨S_15, hc_15, h⟩ := lf_bE h
    have hFc := lx_free hD hS hA
    refine va_callv (va_runV (As := [.int (y_1 + 28), .int (2 * (S_14.v_Pl_listed + y_4))]) (rest := []) ⟨hx, hb, hml, hown, hts⟩ (l_Tu_putFour l dC dI X _ hc_15) (cwV 2 hts (gwV good_Vq (u_Vq_Tu _ k_Tu_84) (u_Vq_Tu _ k_Tu_85) (u_Vq_Tu _ k_Tu_168) (u_Vq_Tu _ k_Tu_0) (wcs (u_Vq_Tu _ k_Tu_86) (fun _ h => h))) rfl rfl rfl (by decide +kernel) ⟨Nat.le_of_ble_eq_true rfl, Nat.le_of_ble_eq_true rfl⟩) (pv_ofE (X.same _) (fun U z1 z2 => X.mono _ _ U hFc (hEw _ _ hS U z1 z2)) hP hK hD (va_recv hK hP (ci := 10) (q0 := 8) rfl rfl)) rfl rfl hl.1 rfl (lv_room (Nat.le_of_ble_eq_true rfl)) d_Tu_fillInode_172 ⟨by decide, by decide⟩) hS (fun q _ h => hFc q h) hFc (fun u t H locs ht hvm hw hB hz1 hk1 hS => ?_)
    obtain ⟨hP, -, hD⟩ := hB
    rw [ht] at hP
    have hD := lx_dj hD hFc
    refine lv_iconst (v := 0) hx hb d_Tu_fillInode_175 (by decide) ?_
    refine lv_istore (lv' := [(6, .int 0), (0, .ref M.o_Tu), (1, .int y_1), (2, .int y_2), (4, .int y_4), (5, .int y_5)]) hx hb d_Tu_fillInode_176 hl (by decide) rfl (fun ls hl => ?_)
    exact hB_178 K y_1 y_4 y_5 0 S_15 _ _ _ h hP hD hS (lv_sub hl [1, 2, 4, 5, 0] rfl)
  have hB_102 : ∀ (k : Nat), ∀ (y_1 : Int32) (y_2 : Int32) (y_4 : Int32) (y_5 : Int32) (y_6 : Int32) (S : CS) (H : Heap) (locs : List Loc) (ls : Array Slot), f_Tu_fillInode_102 K G k y_1 y_2 y_4 y_5 y_6 S = some S' → va_P (dC, dI) classes (wV M Y G S) H → va_D A (wV M Y G S) → va_S A s.heap H locs → lv_has ls 7 [(0, .ref M.o_Tu), (1, .int y_1), (2, .int y_2), (4, .int y_4), (5, .int y_5), (6, .int y_6)] → W p l e ({ frames := 3, cells := 0, slots := 0, locals := 74 }) s m ([.ref M.o_Tu, .int p0, .int p1] : List Value).toArray below meth c H locs 0 0 Q (F0 m 102 ls []) := by
    intro k
    induction k with
    | zero => intro y_1 y_2 y_4 y_5 y_6 S H locs ls h; exact lf_no h
    | succ k hr_102 =>
      intro y_1 y_2 y_4 y_5 y_6 S H locs ls h hP hD hS hl
      rw [f_Tu_fillInode_102] at h
      refine lv_iload hx hb d_Tu_fillInode_102 (lv_at hl 5 rfl) ?_
      refine lv_iconst (v := 4) hx hb d_Tu_fillInode_104 (by decide) ?_
      refine lv_icmp_gt (tgt := 142) hx hb d_Tu_fillInode_105 (by decide) (fun c_16 => ?_) (fun c_16 => ?_)
      · have h := lf_t h c_16
        exact hB_142 y_1 y_2 y_4 y_5 S _ _ _ h hP hD hS (lv_sub hl [0, 1, 2, 3, 4] rfl)
      · have h := lf_f h c_16
        refine lv_aload_n hx hb d_Tu_fillInode_108 rfl (lv_at hl 0 rfl) ?_
        refine lv_iload_n hx hb d_Tu_fillInode_109 rfl (lv_at hl 1 rfl) ?_
        refine lv_iconst (v := 4) hx hb d_Tu_fillInode_110 (by decide) ?_
        refine lv_iload hx hb d_Tu_fillInode_111 (lv_at hl 5 rfl) ?_
        refine lv_imul hx hb d_Tu_fillInode_113 ?_
        refine lv_iadd hx hb d_Tu_fillInode_114 ?_
        refine lv_aload_n hx hb d_Tu_fillInode_115 rfl (lv_at hl 0 rfl) ?_
        refine va_get (D := (dC, dI)) (ci := 10) (v := .ref M.o_Dk) (C := R_Tu) (T := F_Tu) (N := 7) hx hb hts (fun w h => u_Vq_Tu w (i_Tu w h)) hown hK hP 8 rfl rfl 0 (by decide) (hts _ (u_Vq_Tu _ k_Tu_17)) (fun _ h9 => h9) rfl d_Tu_fillInode_116 ?_
        refine lv_aload_n hx hb d_Tu_fillInode_119 rfl (lv_at hl 0 rfl) ?_
        refine va_get (D := (dC, dI)) (ci := 10) (v := .ref M.o_Tr) (C := R_Tu) (T := F_Tu) (N := 7) hx hb hts (fun w h => u_Vq_Tu w (i_Tu w h)) hown hK hP 8 rfl rfl 2 (by decide) (hts _ (u_Vq_Tu _ k_Tu_19)) (fun _ h9 => h9) rfl d_Tu_fillInode_120 ?_
        refine lv_iload_n hx hb d_Tu_fillInode_123 rfl (lv_at hl 2 rfl) ?_
        obtain ⟨r_17, S_17, hc_17, h⟩ := lf_cE h
        have hFc := lx_free hD hS hA
        refine va_calli (va_runV (As := [.int y_2]) (rest := [.ref M.o_Dk, .int (y_1 + (4 * y_6)), .ref M.o_Tu]) ⟨hx, hb, hml, hown, hts⟩ (l_Tr_spotOf l dC dI X _ hc_17) (cwV 1 hts (gwV good_Vq (u_Vq_Tu _ k_Tu_153) (u_Vq_Tr _ k_Tr_57) (u_Vq_Tr _ k_Tr_58) (u_Vq_Tr _ k_Tr_0) (wcs (u_Vq_Tr _ k_Tr_59) (fun _ h => h))) rfl rfl rfl (by decide +kernel) ⟨Nat.le_of_ble_eq_true rfl, Nat.le_of_ble_eq_true rfl⟩) (pv_ofE (X.same _) (fun U z1 z2 => X.mono _ _ U hFc (hEw _ _ hS U z1 z2)) hP hK hD (va_recv hK hP (ci := 5) (q0 := 4) rfl rfl)) rfl rfl hl.1 rfl (lv_room (Nat.le_of_ble_eq_true rfl)) d_Tu_fillInode_124 ⟨by decide, by decide⟩) hS (fun q _ h => hFc q h) hFc (fun r_ u t H locs ht hvm hw hB hz1 hk1 hS => ?_)
        rw [hw]
        obtain ⟨hP, -, hD⟩ := hB
        rw [ht] at hP
        have hD := lx_dj hD hFc
        refine lv_iload hx hb d_Tu_fillInode_127 (lv_at hl 5 rfl) ?_
        obtain ⟨r_18, S_18, hc_18, h⟩ := lf_cE h
        have hFc := lx_free hD hS hA
        refine va_calll (va_runS (As := [.ref M.o_Dk, .int r_17, .int y_6]) (rest := [.int (y_1 + (4 * y_6)), .ref M.o_Tu]) ⟨hx, hb, hml, hown, hts⟩ (l_Da_seconds l dC dI X _ hc_18) (va_cwS 3 hts (gwS good_Vq (u_Vq_Tu _ k_Tu_154) (u_Vq_Da _ k_Da_19) (u_Vq_Da _ k_Da_0) (wcs (u_Vq_Da _ k_Da_20) (fun _ h => h))) rfl rfl rfl (by decide +kernel) ⟨Nat.le_of_ble_eq_true rfl, Nat.le_of_ble_eq_true rfl⟩) (ps_ofE2 (X.same _) (fun U z1 z2 => X.mono _ _ U hFc (hEw _ _ hS U z1 z2)) hP hK hD) rfl rfl hl.1 rfl (lv_room (Nat.le_of_ble_eq_true rfl)) d_Tu_fillInode_129 ⟨by decide, by decide⟩) hS (fun q _ h => hFc q h) hFc (fun r_ u t H locs ht hvm hw hB hz1 hk1 hS => ?_)
        rw [hw]
        obtain ⟨hP, -, hD⟩ := hB
        rw [ht] at hP
        have hD := lx_dj hD hFc
        refine lv_l2i hx hb d_Tu_fillInode_132 rfl ?_
        obtain ⟨S_19, hc_19, h⟩ := lf_bE h
        have hFc := lx_free hD hS hA
        refine va_callv (va_runV (As := [.int (y_1 + (4 * y_6)), .int r_18.toInt32]) (rest := []) ⟨hx, hb, hml, hown, hts⟩ (l_Tu_putFour l dC dI X _ hc_19) (cwV 2 hts (gwV good_Vq (u_Vq_Tu _ k_Tu_84) (u_Vq_Tu _ k_Tu_85) (u_Vq_Tu _ k_Tu_168) (u_Vq_Tu _ k_Tu_0) (wcs (u_Vq_Tu _ k_Tu_86) (fun _ h => h))) rfl rfl rfl (by decide +kernel) ⟨Nat.le_of_ble_eq_true rfl, Nat.le_of_ble_eq_true rfl⟩) (pv_ofE (X.same _) (fun U z1 z2 => X.mono _ _ U hFc (hEw _ _ hS U z1 z2)) hP hK hD (va_recv hK hP (ci := 10) (q0 := 8) rfl rfl)) rfl rfl hl.1 rfl (lv_room (Nat.le_of_ble_eq_true rfl)) d_Tu_fillInode_133 ⟨by decide, by decide⟩) hS (fun q _ h => hFc q h) hFc (fun u t H locs ht hvm hw hB hz1 hk1 hS => ?_)
        obtain ⟨hP, -, hD⟩ := hB
        rw [ht] at hP
        have hD := lx_dj hD hFc
        obtain ⟨x_20, ex_20, h⟩ := lf_lX h
        refine lv_iinc (v := x_20) (lv' := [(6, .int x_20), (0, .ref M.o_Tu), (1, .int y_1), (2, .int y_2), (4, .int y_4), (5, .int y_5)]) hx hb d_Tu_fillInode_136 hl (k := 5) rfl (by rw [ex_20]; rfl) (by decide) rfl (fun ls hl => ?_)
        refine lv_goto (tgt := 102) hx hb d_Tu_fillInode_139 (by decide) ?_
        exact hr_102 y_1 y_2 y_4 y_5 x_20 S_19 _ _ _ h hP hD hS (lv_sub hl [1, 2, 3, 4, 5, 0] rfl)
  have hB_92 : ∀ (y_1 : Int32) (y_2 : Int32) (y_4 : Int32) (y_5 : Int32) (z_1 : Int32) (z_2 : Int32) (S : CS) (H : Heap) (locs : List Loc) (ls : Array Slot), f_Tu_fillInode_92 K G y_1 y_2 y_4 y_5 z_1 z_2 S = some S' → va_P (dC, dI) classes (wV M Y G S) H → va_D A (wV M Y G S) → va_S A s.heap H locs → lv_has ls 7 [(0, .ref M.o_Tu), (1, .int y_1), (2, .int y_2), (4, .int y_4), (5, .int y_5)] → W p l e ({ frames := 3, cells := 0, slots := 0, locals := 74 }) s m ([.ref M.o_Tu, .int p0, .int p1] : List Value).toArray below meth c H locs 0 0 Q (F0 m 92 ls [.int z_2, .int z_1, .ref M.o_Tu]) := by
    intro y_1 y_2 y_4 y_5 z_1 z_2 S H locs ls h hP hD hS hl
    rw [f_Tu_fillInode_92] at h
    obtain ⟨S_11, hc_11, h⟩ := lf_bE h
    have hFc := lx_free hD hS hA
    refine va_callv (va_runV (As := [.int z_1, .int z_2]) (rest := []) ⟨hx, hb, hml, hown, hts⟩ (l_Tu_putFour l dC dI X _ hc_11) (cwV 2 hts (gwV good_Vq (u_Vq_Tu _ k_Tu_84) (u_Vq_Tu _ k_Tu_85) (u_Vq_Tu _ k_Tu_168) (u_Vq_Tu _ k_Tu_0) (wcs (u_Vq_Tu _ k_Tu_86) (fun _ h => h))) rfl rfl rfl (by decide +kernel) ⟨Nat.le_of_ble_eq_true rfl, Nat.le_of_ble_eq_true rfl⟩) (pv_ofE (X.same _) (fun U z1 z2 => X.mono _ _ U hFc (hEw _ _ hS U z1 z2)) hP hK hD (va_recv hK hP (ci := 10) (q0 := 8) rfl rfl)) rfl rfl hl.1 rfl (lv_room (Nat.le_of_ble_eq_true rfl)) d_Tu_fillInode_92 ⟨by decide, by decide⟩) hS (fun q _ h => hFc q h) hFc (fun u t H locs ht hvm hw hB hz1 hk1 hS => ?_)
    obtain ⟨hP, -, hD⟩ := hB
    rw [ht] at hP
    have hD := lx_dj hD hFc
    refine lv_iload_n hx hb d_Tu_fillInode_95 rfl (lv_at hl 2 rfl) ?_
    refine lv_if_le (tgt := 142) hx hb d_Tu_fillInode_96 (by decide) (fun c_12 => ?_) (fun c_12 => ?_)
    · have h := lf_t h c_12
      exact hB_142 y_1 y_2 y_4 y_5 S_11 _ _ _ h hP hD hS (lv_sub hl [0, 1, 2, 3, 4] rfl)
    · have h := lf_f h c_12
      refine lv_iconst (v := 2) hx hb d_Tu_fillInode_99 (by decide) ?_
      refine lv_istore (lv' := [(6, .int 2), (0, .ref M.o_Tu), (1, .int y_1), (2, .int y_2), (4, .int y_4), (5, .int y_5)]) hx hb d_Tu_fillInode_100 hl (by decide) rfl (fun ls hl => ?_)
      exact hB_102 K y_1 y_2 y_4 y_5 2 S_11 _ _ _ h hP hD hS (lv_sub hl [1, 2, 3, 4, 5, 0] rfl)
  have hB_29 : ∀ (y_1 : Int32) (y_2 : Int32) (z_0 : Int32) (S : CS) (H : Heap) (locs : List Loc) (ls : Array Slot), f_Tu_fillInode_29 K G y_1 y_2 z_0 S = some S' → va_P (dC, dI) classes (wV M Y G S) H → va_D A (wV M Y G S) → va_S A s.heap H locs → lv_has ls 7 [(0, .ref M.o_Tu), (1, .int y_1), (2, .int y_2)] → W p l e ({ frames := 3, cells := 0, slots := 0, locals := 74 }) s m ([.ref M.o_Tu, .int p0, .int p1] : List Value).toArray below meth c H locs 0 0 Q (F0 m 29 ls [.int z_0]) := by
    intro y_1 y_2 z_0 S H locs ls h hP hD hS hl
    rw [f_Tu_fillInode_29] at h
    refine lv_istore_n (lv' := [(3, .int z_0), (0, .ref M.o_Tu), (1, .int y_1), (2, .int y_2)]) hx hb d_Tu_fillInode_29 rfl hl (by decide) rfl (fun ls hl => ?_)
    refine lv_aload_n hx hb d_Tu_fillInode_30 rfl (lv_at hl 1 rfl) ?_
    refine va_get (D := (dC, dI)) (ci := 10) (v := .ref M.o_Pl) (C := R_Tu) (T := F_Tu) (N := 7) hx hb hts (fun w h => u_Vq_Tu w (i_Tu w h)) hown hK hP 8 rfl rfl 4 (by decide) (hts _ (u_Vq_Tu _ k_Tu_21)) (fun _ h9 => h9) rfl d_Tu_fillInode_31 ?_
    refine va_get (D := (dC, dI)) (ci := 9) (v := .int S.v_Pl_listed) (C := R_Pl) (T := F_Pl) (N := 17) hx hb hts (fun w h => u_Vq_Pl w (i_Pl w h)) hown hK hP 7 rfl rfl 10 (by decide) (hts _ (u_Vq_Tu _ k_Tu_8)) (fun _ h9 => h9) rfl d_Tu_fillInode_34 ?_
    obtain ⟨r_5, hc_5, h⟩ := lf_bE h
    have hFc := lx_free0 hS hA
    refine va_calli (va_runS (As := [.int S.v_Pl_listed]) (rest := []) ⟨hx, hb, hml, hown, hts⟩ (l_Pl_indirects l dC dI  _ hc_5) (va_cwS 1 hts (gwS good_Vq (u_Vq_Tu _ k_Tu_98) (u_Vq_Pl _ k_Pl_111) (u_Vq_Pl _ k_Pl_0) (wcs (u_Vq_Pl _ k_Pl_112) (fun _ h => h))) rfl rfl rfl (by decide +kernel) ⟨Nat.le_of_ble_eq_true rfl, Nat.le_of_ble_eq_true rfl⟩) (ps_of (W := []) (tys := []) (hP.sub (ws' := []) [] rfl) (hK.sub [] rfl) (hD.sub (ws' := []) [] (by decide) rfl)) rfl rfl hl.1 rfl (lv_room (Nat.le_of_ble_eq_true rfl)) d_Tu_fillInode_37 ⟨by decide, by decide⟩) hS (fun q _ h => hFc q h) hFc (fun r_ u t H locs ht hvm hw hB hz1 hk1 hS => ?_)
    rw [hw]
    have hP := lx_stat (A := A) hP hk1
    refine lv_istore (lv' := [(4, .int r_5), (3, .int z_0), (0, .ref M.o_Tu), (1, .int y_1), (2, .int y_2)]) hx hb d_Tu_fillInode_40 hl (by decide) rfl (fun ls hl => ?_)
    refine lv_aload_n hx hb d_Tu_fillInode_42 rfl (lv_at hl 2 rfl) ?_
    refine va_get (D := (dC, dI)) (ci := 10) (v := .ref M.o_Pl) (C := R_Tu) (T := F_Tu) (N := 7) hx hb hts (fun w h => u_Vq_Tu w (i_Tu w h)) hown hK hP 8 rfl rfl 4 (by decide) (hts _ (u_Vq_Tu _ k_Tu_21)) (fun _ h9 => h9) rfl d_Tu_fillInode_43 ?_
    refine lv_iload_n hx hb d_Tu_fillInode_46 rfl (lv_at hl 4 rfl) ?_
    obtain ⟨r_6, S_6, hc_6, h⟩ := lf_cE h
    have hFc := lx_free hD hS hA
    refine va_calli (va_runV (As := [.int y_2]) (rest := []) ⟨hx, hb, hml, hown, hts⟩ (l_Pl_firstIndirect l dC dI X _ hc_6) (cwV 1 hts (gwV good_Vq (u_Vq_Tu _ k_Tu_97) (u_Vq_Pl _ k_Pl_139) (u_Vq_Pl _ k_Pl_140) (u_Vq_Pl _ k_Pl_0) (wcs (u_Vq_Pl _ k_Pl_141) (fun _ h => h))) rfl rfl rfl (by decide +kernel) ⟨Nat.le_of_ble_eq_true rfl, Nat.le_of_ble_eq_true rfl⟩) (pv_ofE (X.same _) (fun U z1 z2 => X.mono _ _ U hFc (hEw _ _ hS U z1 z2)) hP hK hD (va_recv hK hP (ci := 9) (q0 := 7) rfl rfl)) rfl rfl hl.1 rfl (lv_room (Nat.le_of_ble_eq_true rfl)) d_Tu_fillInode_47 ⟨by decide, by decide⟩) hS (fun q _ h => hFc q h) hFc (fun r_ u t H locs ht hvm hw hB hz1 hk1 hS => ?_)
    rw [hw]
    obtain ⟨hP, -, hD⟩ := hB
    rw [ht] at hP
    have hD := lx_dj hD hFc
    refine lv_istore (lv' := [(5, .int r_6), (4, .int r_5), (3, .int z_0), (0, .ref M.o_Tu), (1, .int y_1), (2, .int y_2)]) hx hb d_Tu_fillInode_50 hl (by decide) rfl (fun ls hl => ?_)
    refine lv_aload_n hx hb d_Tu_fillInode_52 rfl (lv_at hl 3 rfl) ?_
    refine lv_iload_n hx hb d_Tu_fillInode_53 rfl (lv_at hl 4 rfl) ?_
    refine lv_aload_n hx hb d_Tu_fillInode_54 rfl (lv_at hl 3 rfl) ?_
    refine lv_iload_n hx hb d_Tu_fillInode_55 rfl (lv_at hl 5 rfl) ?_
    obtain ⟨r_7, S_7, hc_7, h⟩ := lf_cE h
    have hFc := lx_free hD hS hA
    refine va_calli (va_runV (As := [.int y_2]) (rest := [.int y_1, .ref M.o_Tu]) ⟨hx, hb, hml, hown, hts⟩ (l_Tu_modeOf l dC dI X _ hc_7) (cwV 1 hts (gwV good_Vq (u_Vq_Tu _ k_Tu_146) (u_Vq_Tu _ k_Tu_147) (u_Vq_Tu _ k_Tu_183) (u_Vq_Tu _ k_Tu_0) (wcs (u_Vq_Tu _ k_Tu_148) (fun _ h => h))) rfl rfl rfl (by decide +kernel) ⟨Nat.le_of_ble_eq_true rfl, Nat.le_of_ble_eq_true rfl⟩) (pv_ofE (X.same _) (fun U z1 z2 => X.mono _ _ U hFc (hEw _ _ hS U z1 z2)) hP hK hD (va_recv hK hP (ci := 10) (q0 := 8) rfl rfl)) rfl rfl hl.1 rfl (lv_room (Nat.le_of_ble_eq_true rfl)) d_Tu_fillInode_56 ⟨by decide, by decide⟩) hS (fun q _ h => hFc q h) hFc (fun r_ u t H locs ht hvm hw hB hz1 hk1 hS => ?_)
    rw [hw]
    obtain ⟨hP, -, hD⟩ := hB
    rw [ht] at hP
    have hD := lx_dj hD hFc
    obtain ⟨S_8, hc_8, h⟩ := lf_bE h
    have hFc := lx_free hD hS hA
    refine va_callv (va_runV (As := [.int y_1, .int r_7]) (rest := []) ⟨hx, hb, hml, hown, hts⟩ (l_Tu_putTwo l dC dI X _ hc_8) (cwV 2 hts (gwV good_Vq (u_Vq_Tu _ k_Tu_69) (u_Vq_Tu _ k_Tu_70) (u_Vq_Tu _ k_Tu_167) (u_Vq_Tu _ k_Tu_0) (wcs (u_Vq_Tu _ k_Tu_71) (fun _ h => h))) rfl rfl rfl (by decide +kernel) ⟨Nat.le_of_ble_eq_true rfl, Nat.le_of_ble_eq_true rfl⟩) (pv_ofE (X.same _) (fun U z1 z2 => X.mono _ _ U hFc (hEw _ _ hS U z1 z2)) hP hK hD (va_recv hK hP (ci := 10) (q0 := 8) rfl rfl)) rfl rfl hl.1 rfl (lv_room (Nat.le_of_ble_eq_true rfl)) d_Tu_fillInode_59 ⟨by decide, by decide⟩) hS (fun q _ h => hFc q h) hFc (fun u t H locs ht hvm hw hB hz1 hk1 hS => ?_)
    obtain ⟨hP, -, hD⟩ := hB
    rw [ht] at hP
    have hD := lx_dj hD hFc
    refine lv_aload_n hx hb d_Tu_fillInode_62 rfl (lv_at hl 3 rfl) ?_
    refine lv_iload_n hx hb d_Tu_fillInode_63 rfl (lv_at hl 4 rfl) ?_
    refine lv_iconst (v := 4) hx hb d_Tu_fillInode_64 (by decide) ?_
    refine lv_iadd hx hb d_Tu_fillInode_65 ?_
    refine lv_iload_n hx hb d_Tu_fillInode_66 rfl (lv_at hl 2 rfl) ?_
    refine lv_if_eq (tgt := 81) hx hb d_Tu_fillInode_67 (by decide) (fun c_9 => ?_) (fun c_9 => ?_)
    · have h := lf_t h c_9
      refine lv_aload_n hx hb d_Tu_fillInode_81 rfl (lv_at hl 3 rfl) ?_
      refine va_get (D := (dC, dI)) (ci := 10) (v := .ref M.o_Pl) (C := R_Tu) (T := F_Tu) (N := 7) hx hb hts (fun w h => u_Vq_Tu w (i_Tu w h)) hown hK hP 8 rfl rfl 4 (by decide) (hts _ (u_Vq_Tu _ k_Tu_21)) (fun _ h9 => h9) rfl d_Tu_fillInode_82 ?_
      refine va_get (D := (dC, dI)) (ci := 9) (v := .int S_8.v_Pl_listed) (C := R_Pl) (T := F_Pl) (N := 17) hx hb hts (fun w h => u_Vq_Pl w (i_Pl w h)) hown hK hP 7 rfl rfl 10 (by decide) (hts _ (u_Vq_Tu _ k_Tu_8)) (fun _ h9 => h9) rfl d_Tu_fillInode_85 ?_
      refine lv_sipush (v := 1024) hx hb d_Tu_fillInode_88 (by decide) ?_
      refine lv_imul hx hb d_Tu_fillInode_91 ?_
      exact hB_92 y_1 y_2 r_5 r_6 (y_1 + 4) (S_8.v_Pl_listed * 1024) S_8 _ _ _ h hP hD hS (lv_sub hl [3, 4, 5, 1, 0] rfl)
    · have h := lf_f h c_9
      refine lv_aload_n hx hb d_Tu_fillInode_70 rfl (lv_at hl 3 rfl) ?_
      refine va_get (D := (dC, dI)) (ci := 10) (v := .ref M.o_Tr) (C := R_Tu) (T := F_Tu) (N := 7) hx hb hts (fun w h => u_Vq_Tu w (i_Tu w h)) hown hK hP 8 rfl rfl 2 (by decide) (hts _ (u_Vq_Tu _ k_Tu_19)) (fun _ h9 => h9) rfl d_Tu_fillInode_71 ?_
      refine lv_iload_n hx hb d_Tu_fillInode_74 rfl (lv_at hl 5 rfl) ?_
      obtain ⟨r_10, S_10, hc_10, h⟩ := lf_cE h
      have hFc := lx_free hD hS hA
      refine va_calli (va_runV (As := [.int y_2]) (rest := [.int (y_1 + 4), .ref M.o_Tu]) ⟨hx, hb, hml, hown, hts⟩ (l_Tr_sizeOf l dC dI X _ hc_10) (cwV 1 hts (gwV good_Vq (u_Vq_Tu _ k_Tu_152) (u_Vq_Tr _ k_Tr_88) (u_Vq_Tr _ k_Tr_89) (u_Vq_Tr _ k_Tr_0) (wcs (u_Vq_Tr _ k_Tr_90) (fun _ h => h))) rfl rfl rfl (by decide +kernel) ⟨Nat.le_of_ble_eq_true rfl, Nat.le_of_ble_eq_true rfl⟩) (pv_ofE (X.same _) (fun U z1 z2 => X.mono _ _ U hFc (hEw _ _ hS U z1 z2)) hP hK hD (va_recv hK hP (ci := 5) (q0 := 4) rfl rfl)) rfl rfl hl.1 rfl (lv_room (Nat.le_of_ble_eq_true rfl)) d_Tu_fillInode_75 ⟨by decide, by decide⟩) hS (fun q _ h => hFc q h) hFc (fun r_ u t H locs ht hvm hw hB hz1 hk1 hS => ?_)
      rw [hw]
      obtain ⟨hP, -, hD⟩ := hB
      rw [ht] at hP
      have hD := lx_dj hD hFc
      refine lv_goto (tgt := 92) hx hb d_Tu_fillInode_78 (by decide) ?_
      exact hB_92 y_1 y_2 r_5 r_6 (y_1 + 4) r_10 S_10 _ _ _ h hP hD hS (lv_sub hl [3, 4, 5, 1, 0] rfl)
  have hB_28 : ∀ (y_1 : Int32) (y_2 : Int32) (S : CS) (H : Heap) (locs : List Loc) (ls : Array Slot), f_Tu_fillInode_28 K G y_1 y_2 S = some S' → va_P (dC, dI) classes (wV M Y G S) H → va_D A (wV M Y G S) → va_S A s.heap H locs → lv_has ls 7 [(0, .ref M.o_Tu), (1, .int y_1), (2, .int y_2)] → W p l e ({ frames := 3, cells := 0, slots := 0, locals := 74 }) s m ([.ref M.o_Tu, .int p0, .int p1] : List Value).toArray below meth c H locs 0 0 Q (F0 m 28 ls []) := by
    intro y_1 y_2 S H locs ls h hP hD hS hl
    rw [f_Tu_fillInode_28] at h
    refine lv_iconst (v := 0) hx hb d_Tu_fillInode_28 (by decide) ?_
    exact hB_29 y_1 y_2 0 S _ _ _ h hP hD hS (lv_sub hl [0, 1, 2] rfl)
  rw [f_Tu_fillInode] at h
  refine lv_aload_n hx hb d_Tu_fillInode_0 rfl (lv_at hl 0 rfl) ?_
  refine va_get (D := (dC, dI)) (ci := 10) (v := .ref M.o_Pl) (C := R_Tu) (T := F_Tu) (N := 7) hx hb hts (fun w h => u_Vq_Tu w (i_Tu w h)) hown hK hP 8 rfl rfl 4 (by decide) (hts _ (u_Vq_Tu _ k_Tu_21)) (fun _ h9 => h9) rfl d_Tu_fillInode_1 ?_
  refine lv_iload_n hx hb d_Tu_fillInode_4 rfl (lv_at hl 2 rfl) ?_
  obtain ⟨S_1, hc_1, h⟩ := lf_bE h
  have hFc := lx_free hD hS hA
  refine va_callv (va_runV (As := [.int p1]) (rest := []) ⟨hx, hb, hml, hown, hts⟩ (l_Pl_gather l dC dI X _ hc_1) (cwV 1 hts (gwV good_Vq (u_Vq_Tu _ k_Tu_96) (u_Vq_Pl _ k_Pl_90) (u_Vq_Pl _ k_Pl_91) (u_Vq_Pl _ k_Pl_0) (wcs (u_Vq_Pl _ k_Pl_92) (fun _ h => h))) rfl rfl rfl (by decide +kernel) ⟨Nat.le_of_ble_eq_true rfl, Nat.le_of_ble_eq_true rfl⟩) (pv_ofE (X.same _) (fun U z1 z2 => X.mono _ _ U hFc (hEw _ _ hS U z1 z2)) hP hK hD (va_recv hK hP (ci := 9) (q0 := 7) rfl rfl)) rfl rfl hl.1 rfl (lv_room (Nat.le_of_ble_eq_true rfl)) d_Tu_fillInode_5 ⟨by decide, by decide⟩) hS (fun q _ h => hFc q h) hFc (fun u t H locs ht hvm hw hB hz1 hk1 hS => ?_)
  obtain ⟨hP, -, hD⟩ := hB
  rw [ht] at hP
  have hD := lx_dj hD hFc
  refine lv_iload_n hx hb d_Tu_fillInode_8 rfl (lv_at hl 2 rfl) ?_
  refine lv_iconst (v := (-1)) hx hb d_Tu_fillInode_9 (by decide) ?_
  refine lv_icmp_eq (tgt := 28) hx hb d_Tu_fillInode_10 (by decide) (fun c_2 => ?_) (fun c_2 => ?_)
  · have h := lf_t h c_2
    exact hB_28 p0 p1 S_1 _ _ _ h hP hD hS (lv_sub hl [0, 1, 2] rfl)
  · have h := lf_f h c_2
    refine lv_aload_n hx hb d_Tu_fillInode_13 rfl (lv_at hl 0 rfl) ?_
    refine va_get (D := (dC, dI)) (ci := 10) (v := .ref M.o_Tr) (C := R_Tu) (T := F_Tu) (N := 7) hx hb hts (fun w h => u_Vq_Tu w (i_Tu w h)) hown hK hP 8 rfl rfl 2 (by decide) (hts _ (u_Vq_Tu _ k_Tu_19)) (fun _ h9 => h9) rfl d_Tu_fillInode_14 ?_
    refine lv_iload_n hx hb d_Tu_fillInode_17 rfl (lv_at hl 2 rfl) ?_
    obtain ⟨r_3, S_3, hc_3, h⟩ := lf_cE h
    have hFc := lx_free hD hS hA
    refine va_calli (va_runV (As := [.int p1]) (rest := []) ⟨hx, hb, hml, hown, hts⟩ (l_Tr_isDirectory l dC dI X _ hc_3) (cwV 1 hts (gwV good_Vq (u_Vq_Tu _ k_Tu_61) (u_Vq_Tr _ k_Tr_42) (u_Vq_Tr _ k_Tr_43) (u_Vq_Tr _ k_Tr_0) (wcs (u_Vq_Tr _ k_Tr_44) (fun _ h => h))) rfl rfl rfl (by decide +kernel) ⟨Nat.le_of_ble_eq_true rfl, Nat.le_of_ble_eq_true rfl⟩) (pv_ofE (X.same _) (fun U z1 z2 => X.mono _ _ U hFc (hEw _ _ hS U z1 z2)) hP hK hD (va_recv hK hP (ci := 5) (q0 := 4) rfl rfl)) rfl rfl hl.1 rfl (lv_room (Nat.le_of_ble_eq_true rfl)) d_Tu_fillInode_18 ⟨by decide, by decide⟩) hS (fun q _ h => hFc q h) hFc (fun r_ u t H locs ht hvm hw hB hz1 hk1 hS => ?_)
    rw [hw]
    obtain ⟨hP, -, hD⟩ := hB
    rw [ht] at hP
    have hD := lx_dj hD hFc
    refine lv_if_ne (tgt := 28) hx hb d_Tu_fillInode_21 (by decide) (fun c_4 => ?_) (fun c_4 => ?_)
    · have h := lf_f h c_4
      exact hB_28 p0 p1 S_3 _ _ _ h hP hD hS (lv_sub hl [0, 1, 2] rfl)
    · have h := lf_t h c_4
      refine lv_iconst (v := 1) hx hb d_Tu_fillInode_24 (by decide) ?_
      refine lv_goto (tgt := 29) hx hb d_Tu_fillInode_25 (by decide) ?_
      exact hB_29 p0 p1 1 S_3 _ _ _ h hP hD hS (lv_sub hl [0, 1, 2] rfl)
