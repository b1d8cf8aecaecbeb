set_option maxHeartbeats 4000000 in
set_option maxRecDepth 100000 in
theorem l_Mo_indirect (l : Launch) (dC : Nat → ClassId) (dI : Nat → Nat → Nat) {K : Nat} (sz : Nat) {p0 : Int32} {r : Int32} (h : f_Mo_indirect K p0 = some r) : Met l y_Mo_indirect (.code y_Mo_indirect b_Mo_indirect 1 (some .int) :: V_Mq) ({ frames := 1, cells := 0, slots := 0, locals := 21 }) (va_Pc [.int p0] (fun U => U.heap.size = sz ∧ at_ (dC, dI) (fun _ => True) [] [] U)) (va_Qi (fun (r_ : Int32) (u : Unit) => r_ = r) (fun (u : Unit) t => at_ (dC, dI) (va_A [] sz) [] [] t) (va_A [] sz)) 0 0 (va_A [] sz) := by
  refine Met.ofW (cc := b_Mo_indirect) (maxL := 1) (ret := (some .int)) (by decide) rfl ?_
  intro p e s m args below meth c s₁ B hml hv
  obtain ⟨rfl, hsz, hP, hK, hD0⟩ := hv
  have hx := B.exec
  have hb := B.bytes
  have hr := B.returns
  have hts0 := atoms_spec (ws := .code y_Mo_indirect b_Mo_indirect 1 (some .int) :: V_Mq) B.pre
  have hts : ∀ w ∈ V_Mq, w.before ([.int p0] : List Value).toArray s = true := fun w h => hts0 w (List.mem_cons_of_mem _ h)
  have hown : s.vm.findClass R_Mo = some m.cls := findClass_of_methodNamed B.named
  subst hsz
  have hD := hD0.self (sz := s.heap.size)
  generalize hAe : va_A [] s.heap.size = A at hD ⊢
  have hA : ∀ q : Nat, s.heap.size ≤ q → A q := fun q h => by rw [← hAe]; exact Or.inr h
  have hS : va_S A s.heap s.heap [] := va_S.rf
  have hP : va_P (dC, dI) classes [] s.heap := hP
  have hK : va_K (dC, dI) classes [] s := hK
  have hl := lv_entry ([.int p0]) (n := 1) (Nat.le_of_ble_eq_true rfl)
  rw [lg_entry_eq]
  generalize (lg_sl ([.int p0]) ++ List.replicate (1 - (lg_sl ([.int p0])).length) Slot.unset).toArray = ls at hl ⊢
  have hl : lv_has ls 1 [(0, .int p0)] := hl
  refine qabs (fun Q hQ => ?_)
  rw [f_Mo_indirect] at h
  refine lv_iload_n hx hb d_Mo_indirect_0 rfl (lv_at hl 0 rfl) ?_
  refine lv_bipush (v := 12) hx hb d_Mo_indirect_1 (by decide) ?_
  refine lv_icmp_gt (tgt := 10) hx hb d_Mo_indirect_3 (by decide) (fun c_1 => ?_) (fun c_1 => ?_)
  · have h := lf_t h c_1
    refine lv_iload_n hx hb d_Mo_indirect_10 rfl (lv_at hl 0 rfl) ?_
    refine lv_sipush (v := 268) hx hb d_Mo_indirect_11 (by decide) ?_
    refine lv_icmp_gt (tgt := 21) hx hb d_Mo_indirect_14 (by decide) (fun c_2 => ?_) (fun c_2 => ?_)
    · have h := lf_t h c_2
      refine lv_iconst (v := 2) hx hb d_Mo_indirect_21 (by decide) ?_
      refine lv_iload_n hx hb d_Mo_indirect_22 rfl (lv_at hl 0 rfl) ?_
      refine lv_sipush (v := 268) hx hb d_Mo_indirect_23 (by decide) ?_
      refine lv_isub hx hb d_Mo_indirect_26 ?_
      refine lv_sipush (v := 256) hx hb d_Mo_indirect_27 (by decide) ?_
      obtain ⟨r_3, hc_3, h⟩ := lf_bE h
      have hFc := lx_free0 hS hA
      refine va_calli (va_runS (As := [.int (p0 - 268), .int 256]) (rest := [.int 2]) ⟨hx, hb, hml, hown, hts⟩ (l_Mo_whole l dC dI  _ hc_3) (va_cwS 2 hts (gwS good_Mq (u_Mq_Mo _ k_Mo_178) (u_Mq_Mo _ k_Mo_179) (u_Mq_Mo _ k_Mo_0) (wcs (u_Mq_Mo _ k_Mo_180) (fun _ h => h))) rfl rfl rfl (by decide +kernel) ⟨Nat.le_of_ble_eq_true rfl, Nat.le_of_ble_eq_true rfl⟩) (ps_of (W := []) (tys := []) (hP.sub (ws' := []) [] rfl) (hK.sub [] rfl) (hD.sub (ws' := []) [] (by decide) rfl)) rfl rfl hl.1 rfl (lv_room (Nat.le_of_ble_eq_true rfl)) d_Mo_indirect_30 ⟨by decide, by decide⟩) hS (fun q _ h => hFc q h) hFc (fun r_ u t H locs ht hvm hw hB hz1 hk1 hS => ?_)
      rw [hw]
      have hP := lx_stat (A := A) hP hk1
      refine lv_iadd hx hb d_Mo_indirect_33 ?_
      rw [hQ]
      have e1 : (2 + r_3) = r := Option.some.inj h
      exact W.iret (v := (2 + r_3)) hx hb hr (fun t ht hW => ⟨⟨(2 + r_3), (), rfl, e1, by rw [ht]; exact hP, va_K.moved hW.alike hK, hD⟩, hS.F ht⟩) hS.2.2 d_Mo_indirect_34
    · have h := lf_f h c_2
      refine lv_iconst (v := 1) hx hb d_Mo_indirect_17 (by decide) ?_
      refine lv_goto (tgt := 34) hx hb d_Mo_indirect_18 (by decide) ?_
      rw [hQ]
      have e1 : (1 : Int32) = r := Option.some.inj h
      exact W.iret (v := 1) hx hb hr (fun t ht hW => ⟨⟨1, (), rfl, e1, by rw [ht]; exact hP, va_K.moved hW.alike hK, hD⟩, hS.F ht⟩) hS.2.2 d_Mo_indirect_34
  · have h := lf_f h c_1
    refine lv_iconst (v := 0) hx hb d_Mo_indirect_6 (by decide) ?_
    refine lv_goto (tgt := 34) hx hb d_Mo_indirect_7 (by decide) ?_
    rw [hQ]
    have e1 : (0 : Int32) = r := Option.some.inj h
    exact W.iret (v := 0) hx hb hr (fun t ht hW => ⟨⟨0, (), rfl, e1, by rw [ht]; exact hP, va_K.moved hW.alike hK, hD⟩, hS.F ht⟩) hS.2.2 d_Mo_indirect_34
set_option maxHeartbeats 4000000 in
set_option maxRecDepth 100000 in
theorem l_Mo_fileBlocks (l : Launch) (dC : Nat → ClassId) (dI : Nat → Nat → Nat) {K : Nat} {M : MA} {E : State → Prop} (X : lx_X l dC dI K M E) (sz : Nat) {S S' : MS} {p0 : Int32} {r : Int32} (h : f_Mo_fileBlocks K S p0 = some (r, S')) : Met l y_Mo_fileBlocks (.code y_Mo_fileBlocks b_Mo_fileBlocks 2 (some .int) :: V_Mq) ({ frames := 3, cells := 0, slots := 0, locals := 63 }) (va_Pc [.ref M.o, .int p0] (fun U => U.heap.size = sz ∧ at_ (dC, dI) (fun _ => True) (wM M S) (tM M) U ∧ E U)) (va_Qi (fun (r_ : Int32) (u : Unit) => r_ = r) (fun (u : Unit) t => at_ (dC, dI) (va_A (wM M S) sz) (wM M S') (tM M) t) (va_A (wM M S) sz)) 0 0 (va_A (wM M S) sz) := by
  refine Met.ofW (cc := b_Mo_fileBlocks) (maxL := 2) (ret := (some .int)) (by decide) rfl ?_
  intro p e s m args below meth c s₁ B hml hv
  obtain ⟨rfl, hsz, ⟨hP, hK, hD0⟩, hE⟩ := hv
  have hx := B.exec
  have hb := B.bytes
  have hr := B.returns
  have hts0 := atoms_spec (ws := .code y_Mo_fileBlocks b_Mo_fileBlocks 2 (some .int) :: V_Mq) B.pre
  have hts : ∀ w ∈ V_Mq, w.before ([.ref M.o, .int p0] : List Value).toArray s = true := fun w h => hts0 w (List.mem_cons_of_mem _ h)
  have hown : s.vm.findClass R_Mo = some m.cls := findClass_of_methodNamed B.named
  subst hsz
  have hD := hD0.self (sz := s.heap.size)
  generalize hAe : va_A (wM M S) s.heap.size = A at hD ⊢
  have hA : ∀ q : Nat, s.heap.size ≤ q → A q := fun q h => by rw [← hAe]; exact Or.inr h
  have hS : va_S A s.heap s.heap [] := va_S.rf
  have hP : va_P (dC, dI) classes (wM M S) s.heap := hP
  have hK : va_K (dC, dI) classes (tM M) s := hK
  have hEw : ∀ (H : Heap) (locs : List Loc), va_S A s.heap H locs → ∀ U : State, U.heap = H → s.WarmedH U.vm → E U := fun H locs hS U hU hW => lx_kept X hE hAe hS hU hW
  have hl := lv_entry ([.ref M.o, .int p0]) (n := 2) (Nat.le_of_ble_eq_true rfl)
  rw [lg_entry_eq]
  generalize (lg_sl ([.ref M.o, .int p0]) ++ List.replicate (2 - (lg_sl ([.ref M.o, .int p0])).length) Slot.unset).toArray = ls at hl ⊢
  have hl : lv_has ls 2 [(0, .ref M.o), (1, .int p0)] := hl
  refine qabs (fun Q hQ => ?_)
  rw [f_Mo_fileBlocks] at h
  refine lv_aload_n hx hb d_Mo_fileBlocks_0 rfl (lv_at hl 0 rfl) ?_
  refine lv_aload_n hx hb d_Mo_fileBlocks_1 rfl (lv_at hl 0 rfl) ?_
  refine va_get (D := (dC, dI)) (ci := 12) (v := .ref M.a_at) (C := R_Mo) (T := F_Mo) (N := 66) hx hb hts (fun w h => u_Mq_Mo w (i_Mo w h)) hown hK hP 0 rfl rfl 24 (by decide) (hts _ (u_Mq_Mo _ k_Mo_31)) (fun _ h9 => h9) rfl d_Mo_fileBlocks_2 ?_
  refine lv_iload_n hx hb d_Mo_fileBlocks_5 rfl (lv_at hl 1 rfl) ?_
  obtain ⟨g_1, h⟩ := lf_gE h
  refine va_iald hx hb hK hP 6 5 rfl rfl g_1 d_Mo_fileBlocks_6 ?_
  refine lv_bipush (v := 28) hx hb d_Mo_fileBlocks_7 (by decide) ?_
  refine lv_iadd hx hb d_Mo_fileBlocks_9 ?_
  obtain ⟨r_2, S_2, hc_2, h⟩ := lf_cE h
  have hFc := lx_free hD hS hA
  refine va_calli (va_runV (As := [.int ((S.v_at p0.toNatClampNeg) + 28)]) (rest := []) ⟨hx, hb, hml, hown, hts⟩ (l_Mo_four l dC dI X _ hc_2) (cwV 1 hts (gwV good_Mq (u_Mq_Mo _ k_Mo_100) (u_Mq_Mo _ k_Mo_101) (u_Mq_Mo _ k_Mo_477) (u_Mq_Mo _ k_Mo_0) (wcs (u_Mq_Mo _ k_Mo_102) (fun _ h => h))) rfl rfl rfl (by decide +kernel) ⟨Nat.le_of_ble_eq_true rfl, Nat.le_of_ble_eq_true rfl⟩) (pv_ofE X.same (hEw _ _ hS) hP hK hD (va_recv hK hP (ci := 12) (q0 := 0) rfl rfl)) rfl rfl hl.1 rfl (lv_room (Nat.le_of_ble_eq_true rfl)) d_Mo_fileBlocks_10 ⟨by decide, by decide⟩) hS (fun q _ h => hFc q h) hFc (fun r_ u t H locs ht hvm hw hB hz1 hk1 hS => ?_)
  rw [hw]
  obtain ⟨hP, -, hD⟩ := hB
  rw [ht] at hP
  have hD := lx_dj hD hFc
  refine lv_sipush (v := 1024) hx hb d_Mo_fileBlocks_13 (by decide) ?_
  obtain ⟨r_3, hc_3, h⟩ := lf_bE h
  have hFc := lx_free0 hS hA
  refine va_calli (va_runS (As := [.int r_2, .int 1024]) (rest := []) ⟨hx, hb, hml, hown, hts⟩ (l_Mo_whole l dC dI  _ hc_3) (va_cwS 2 hts (gwS good_Mq (u_Mq_Mo _ k_Mo_178) (u_Mq_Mo _ k_Mo_179) (u_Mq_Mo _ k_Mo_0) (wcs (u_Mq_Mo _ k_Mo_180) (fun _ h => h))) rfl rfl rfl (by decide +kernel) ⟨Nat.le_of_ble_eq_true rfl, Nat.le_of_ble_eq_true rfl⟩) (ps_of (W := []) (tys := []) (hP.sub (ws' := []) [] rfl) (hK.sub [] rfl) (hD.sub (ws' := []) [] (by decide) rfl)) rfl rfl hl.1 rfl (lv_room (Nat.le_of_ble_eq_true rfl)) d_Mo_fileBlocks_16 ⟨by decide, by decide⟩) hS (fun q _ h => hFc q h) hFc (fun r_ u t H locs ht hvm hw hB hz1 hk1 hS => ?_)
  rw [hw]
  have hP := lx_stat (A := A) hP hk1
  rw [hQ]
  have e1 : r_3 = r := congrArg Prod.fst (Option.some.inj h)
  have e2 : S_2 = S' := congrArg Prod.snd (Option.some.inj h)
  have hP := lx_newP e2.symm hP
  have hD := lx_newD e2.symm hD
  exact W.iret (v := r_3) hx hb hr (fun t ht hW => ⟨⟨r_3, (), rfl, e1, by rw [ht]; exact hP, va_K.moved hW.alike hK, hD⟩, hS.F ht⟩) hS.2.2 d_Mo_fileBlocks_19
set_option maxHeartbeats 4000000 in
set_option maxRecDepth 100000 in
theorem l_Mo_groupSize (l : Launch) (dC : Nat → ClassId) (dI : Nat → Nat → Nat) {K : Nat} {M : MA} {E : State → Prop} (X : lx_X l dC dI K M E) (sz : Nat) {S S' : MS} {p0 : Int32} {r : Int32} (h : f_Mo_groupSize K S p0 = some (r, S')) : Met l y_Mo_groupSize (.code y_Mo_groupSize b_Mo_groupSize 2 (some .int) :: V_Mq) ({ frames := 0, cells := 0, slots := 0, locals := 0 }) (va_Pc [.ref M.o, .int p0] (fun U => U.heap.size = sz ∧ at_ (dC, dI) (fun _ => True) (wM M S) (tM M) U ∧ E U)) (va_Qi (fun (r_ : Int32) (u : Unit) => r_ = r) (fun (u : Unit) t => at_ (dC, dI) (va_A (wM M S) sz) (wM M S') (tM M) t) (va_A (wM M S) sz)) 0 0 (va_A (wM M S) sz) := by
  refine Met.ofW (cc := b_Mo_groupSize) (maxL := 2) (ret := (some .int)) (by decide) rfl ?_
  intro p e s m args below meth c s₁ B hml hv
  obtain ⟨rfl, hsz, ⟨hP, hK, hD0⟩, hE⟩ := hv
  have hx := B.exec
  have hb := B.bytes
  have hr := B.returns
  have hts0 := atoms_spec (ws := .code y_Mo_groupSize b_Mo_groupSize 2 (some .int) :: V_Mq) B.pre
  have hts : ∀ w ∈ V_Mq, w.before ([.ref M.o, .int p0] : List Value).toArray s = true := fun w h => hts0 w (List.mem_cons_of_mem _ h)
  have hown : s.vm.findClass R_Mo = some m.cls := findClass_of_methodNamed B.named
  subst hsz
  have hD := hD0.self (sz := s.heap.size)
  generalize hAe : va_A (wM M S) s.heap.size = A at hD ⊢
  have hA : ∀ q : Nat, s.heap.size ≤ q → A q := fun q h => by rw [← hAe]; exact Or.inr h
  have hS : va_S A s.heap s.heap [] := va_S.rf
  have hP : va_P (dC, dI) classes (wM M S) s.heap := hP
  have hK : va_K (dC, dI) classes (tM M) s := hK
  have hEw : ∀ (H : Heap) (locs : List Loc), va_S A s.heap H locs → ∀ U : State, U.heap = H → s.WarmedH U.vm → E U := fun H locs hS U hU hW => lx_kept X hE hAe hS hU hW
  have hl := lv_entry ([.ref M.o, .int p0]) (n := 2) (Nat.le_of_ble_eq_true rfl)
  rw [lg_entry_eq]
  generalize (lg_sl ([.ref M.o, .int p0]) ++ List.replicate (2 - (lg_sl ([.ref M.o, .int p0])).length) Slot.unset).toArray = ls at hl ⊢
  have hl : lv_has ls 2 [(0, .ref M.o), (1, .int p0)] := hl
  refine qabs (fun Q hQ => ?_)
  rw [f_Mo_groupSize] at h
  refine lv_iload_n hx hb d_Mo_groupSize_0 rfl (lv_at hl 1 rfl) ?_
  refine lv_aload_n hx hb d_Mo_groupSize_1 rfl (lv_at hl 0 rfl) ?_
  refine va_get (D := (dC, dI)) (ci := 12) (v := .int S.v_groups) (C := R_Mo) (T := F_Mo) (N := 66) hx hb hts (fun w h => u_Mq_Mo w (i_Mo w h)) hown hK hP 0 rfl rfl 46 (by decide) (hts _ (u_Mq_Mo _ k_Mo_53)) (fun _ h9 => h9) rfl d_Mo_groupSize_2 ?_
  refine lv_iconst (v := 1) hx hb d_Mo_groupSize_5 (by decide) ?_
  refine lv_isub hx hb d_Mo_groupSize_6 ?_
  refine lv_icmp_ge (tgt := 17) hx hb d_Mo_groupSize_7 (by decide) (fun c_1 => ?_) (fun c_1 => ?_)
  · have h := lf_t h c_1
    refine lv_aload_n hx hb d_Mo_groupSize_17 rfl (lv_at hl 0 rfl) ?_
    refine va_get (D := (dC, dI)) (ci := 12) (v := .int S.v_blocks) (C := R_Mo) (T := F_Mo) (N := 66) hx hb hts (fun w h => u_Mq_Mo w (i_Mo w h)) hown hK hP 0 rfl rfl 50 (by decide) (hts _ (u_Mq_Mo _ k_Mo_57)) (fun _ h9 => h9) rfl d_Mo_groupSize_18 ?_
    refine lv_iconst (v := 1) hx hb d_Mo_groupSize_21 (by decide) ?_
    refine lv_isub hx hb d_Mo_groupSize_22 ?_
    refine lv_iload_n hx hb d_Mo_groupSize_23 rfl (lv_at hl 1 rfl) ?_
    refine lv_aload_n hx hb d_Mo_groupSize_24 rfl (lv_at hl 0 rfl) ?_
    refine va_get (D := (dC, dI)) (ci := 12) (v := .int S.v_per) (C := R_Mo) (T := F_Mo) (N := 66) hx hb hts (fun w h => u_Mq_Mo w (i_Mo w h)) hown hK hP 0 rfl rfl 47 (by decide) (hts _ (u_Mq_Mo _ k_Mo_54)) (fun _ h9 => h9) rfl d_Mo_groupSize_25 ?_
    refine lv_imul hx hb d_Mo_groupSize_28 ?_
    refine lv_isub hx hb d_Mo_groupSize_29 ?_
    rw [hQ]
    have e1 : ((S.v_blocks - 1) - (p0 * S.v_per)) = r := congrArg Prod.fst (Option.some.inj h)
    have e2 : S = S' := congrArg Prod.snd (Option.some.inj h)
    have hP := lx_newP e2.symm hP
    have hD := lx_newD e2.symm hD
    exact W.iret (v := ((S.v_blocks - 1) - (p0 * S.v_per))) hx hb hr (fun t ht hW => ⟨⟨((S.v_blocks - 1) - (p0 * S.v_per)), (), rfl, e1, by rw [ht]; exact hP, va_K.moved hW.alike hK, hD⟩, hS.F ht⟩) hS.2.2 d_Mo_groupSize_30
  · have h := lf_f h c_1
    refine lv_aload_n hx hb d_Mo_groupSize_10 rfl (lv_at hl 0 rfl) ?_
    refine va_get (D := (dC, dI)) (ci := 12) (v := .int S.v_per) (C := R_Mo) (T := F_Mo) (N := 66) hx hb hts (fun w h => u_Mq_Mo w (i_Mo w h)) hown hK hP 0 rfl rfl 47 (by decide) (hts _ (u_Mq_Mo _ k_Mo_54)) (fun _ h9 => h9) rfl d_Mo_groupSize_11 ?_
    refine lv_goto (tgt := 30) hx hb d_Mo_groupSize_14 (by decide) ?_
    rw [hQ]
    have e1 : S.v_per = r := congrArg Prod.fst (Option.some.inj h)
    have e2 : S = S' := congrArg Prod.snd (Option.some.inj h)
    have hP := lx_newP e2.symm hP
    have hD := lx_newD e2.symm hD
    exact W.iret (v := S.v_per) hx hb hr (fun t ht hW => ⟨⟨S.v_per, (), rfl, e1, by rw [ht]; exact hP, va_K.moved hW.alike hK, hD⟩, hS.F ht⟩) hS.2.2 d_Mo_groupSize_30
set_option maxHeartbeats 4000000 in
set_option maxRecDepth 100000 in
theorem l_Mo_mapOf (l : Launch) (dC : Nat → ClassId) (dI : Nat → Nat → Nat) {K : Nat} {M : MA} {E : State → Prop} (X : lx_X l dC dI K M E) (sz : Nat) {S S' : MS} {p0 : Int32} {r : Int32} (h : f_Mo_mapOf K S p0 = some (r, S')) : Met l y_Mo_mapOf (.code y_Mo_mapOf b_Mo_mapOf 2 (some .int) :: V_Mq) ({ frames := 0, cells := 0, slots := 0, locals := 0 }) (va_Pc [.ref M.o, .int p0] (fun U => U.heap.size = sz ∧ at_ (dC, dI) (fun _ => True) (wM M S) (tM M) U ∧ E U)) (va_Qi (fun (r_ : Int32) (u : Unit) => r_ = r) (fun (u : Unit) t => at_ (dC, dI) (va_A (wM M S) sz) (wM M S') (tM M) t) (va_A (wM M S) sz)) 0 0 (va_A (wM M S) sz) := by
  refine Met.ofW (cc := b_Mo_mapOf) (maxL := 2) (ret := (some .int)) (by decide) rfl ?_
  intro p e s m args below meth c s₁ B hml hv
  obtain ⟨rfl, hsz, ⟨hP, hK, hD0⟩, hE⟩ := hv
  have hx := B.exec
  have hb := B.bytes
  have hr := B.returns
  have hts0 := atoms_spec (ws := .code y_Mo_mapOf b_Mo_mapOf 2 (some .int) :: V_Mq) B.pre
  have hts : ∀ w ∈ V_Mq, w.before ([.ref M.o, .int p0] : List Value).toArray s = true := fun w h => hts0 w (List.mem_cons_of_mem _ h)
  have hown : s.vm.findClass R_Mo = some m.cls := findClass_of_methodNamed B.named
  subst hsz
  have hD := hD0.self (sz := s.heap.size)
  generalize hAe : va_A (wM M S) s.heap.size = A at hD ⊢
  have hA : ∀ q : Nat, s.heap.size ≤ q → A q := fun q h => by rw [← hAe]; exact Or.inr h
  have hS : va_S A s.heap s.heap [] := va_S.rf
  have hP : va_P (dC, dI) classes (wM M S) s.heap := hP
  have hK : va_K (dC, dI) classes (tM M) s := hK
  have hEw : ∀ (H : Heap) (locs : List Loc), va_S A s.heap H locs → ∀ U : State, U.heap = H → s.WarmedH U.vm → E U := fun H locs hS U hU hW => lx_kept X hE hAe hS hU hW
  have hl := lv_entry ([.ref M.o, .int p0]) (n := 2) (Nat.le_of_ble_eq_true rfl)
  rw [lg_entry_eq]
  generalize (lg_sl ([.ref M.o, .int p0]) ++ List.replicate (2 - (lg_sl ([.ref M.o, .int p0])).length) Slot.unset).toArray = ls at hl ⊢
  have hl : lv_has ls 2 [(0, .ref M.o), (1, .int p0)] := hl
  refine qabs (fun Q hQ => ?_)
  rw [f_Mo_mapOf] at h
  refine lv_iload_n hx hb d_Mo_mapOf_0 rfl (lv_at hl 1 rfl) ?_
  refine lv_if_ne (tgt := 13) hx hb d_Mo_mapOf_1 (by decide) (fun c_1 => ?_) (fun c_1 => ?_)
  · have h := lf_f h c_1
    refine lv_iconst (v := 3) hx hb d_Mo_mapOf_13 (by decide) ?_
    refine lv_iload_n hx hb d_Mo_mapOf_14 rfl (lv_at hl 1 rfl) ?_
    refine lv_aload_n hx hb d_Mo_mapOf_15 rfl (lv_at hl 0 rfl) ?_
    refine va_get (D := (dC, dI)) (ci := 12) (v := .int S.v_per) (C := R_Mo) (T := F_Mo) (N := 66) hx hb hts (fun w h => u_Mq_Mo w (i_Mo w h)) hown hK hP 0 rfl rfl 47 (by decide) (hts _ (u_Mq_Mo _ k_Mo_54)) (fun _ h9 => h9) rfl d_Mo_mapOf_16 ?_
    refine lv_imul hx hb d_Mo_mapOf_19 ?_
    refine lv_iadd hx hb d_Mo_mapOf_20 ?_
    rw [hQ]
    have e1 : (3 + (p0 * S.v_per)) = r := congrArg Prod.fst (Option.some.inj h)
    have e2 : S = S' := congrArg Prod.snd (Option.some.inj h)
    have hP := lx_newP e2.symm hP
    have hD := lx_newD e2.symm hD
    exact W.iret (v := (3 + (p0 * S.v_per))) hx hb hr (fun t ht hW => ⟨⟨(3 + (p0 * S.v_per)), (), rfl, e1, by rw [ht]; exact hP, va_K.moved hW.alike hK, hD⟩, hS.F ht⟩) hS.2.2 d_Mo_mapOf_21
  · have h := lf_t h c_1
    refine lv_aload_n hx hb d_Mo_mapOf_4 rfl (lv_at hl 0 rfl) ?_
    refine va_get (D := (dC, dI)) (ci := 12) (v := .int S.v_a) (C := R_Mo) (T := F_Mo) (N := 66) hx hb hts (fun w h => u_Mq_Mo w (i_Mo w h)) hown hK hP 0 rfl rfl 16 (by decide) (hts _ (u_Mq_Mo _ k_Mo_23)) (fun _ h9 => h9) rfl d_Mo_mapOf_5 ?_
    refine lv_iconst (v := 2) hx hb d_Mo_mapOf_8 (by decide) ?_
    refine lv_idiv hx hb d_Mo_mapOf_9 (by decide) ?_
    refine lv_goto (tgt := 21) hx hb d_Mo_mapOf_10 (by decide) ?_
    rw [hQ]
    have e1 : (S.v_a / 2) = r := congrArg Prod.fst (Option.some.inj h)
    have e2 : S = S' := congrArg Prod.snd (Option.some.inj h)
    have hP := lx_newP e2.symm hP
    have hD := lx_newD e2.symm hD
    exact W.iret (v := (S.v_a / 2)) hx hb hr (fun t ht hW => ⟨⟨(S.v_a / 2), (), rfl, e1, by rw [ht]; exact hP, va_K.moved hW.alike hK, hD⟩, hS.F ht⟩) hS.2.2 d_Mo_mapOf_21
set_option maxHeartbeats 4000000 in
set_option maxRecDepth 100000 in
theorem l_Mo_clusterOf (l : Launch) (dC : Nat → ClassId) (dI : Nat → Nat → Nat) {K : Nat} {M : MA} {E : State → Prop} (X : lx_X l dC dI K M E) (sz : Nat) {S S' : MS} {p0 : Int32} {r : Int32} (h : f_Mo_clusterOf K S p0 = some (r, S')) : Met l y_Mo_clusterOf (.code y_Mo_clusterOf b_Mo_clusterOf 2 (some .int) :: V_Mq) ({ frames := 0, cells := 0, slots := 0, locals := 0 }) (va_Pc [.ref M.o, .int p0] (fun U => U.heap.size = sz ∧ at_ (dC, dI) (fun _ => True) (wM M S) (tM M) U ∧ E U)) (va_Qi (fun (r_ : Int32) (u : Unit) => r_ = r) (fun (u : Unit) t => at_ (dC, dI) (va_A (wM M S) sz) (wM M S') (tM M) t) (va_A (wM M S) sz)) 0 0 (va_A (wM M S) sz) := by
  refine Met.ofW (cc := b_Mo_clusterOf) (maxL := 2) (ret := (some .int)) (by decide) rfl ?_
  intro p e s m args below meth c s₁ B hml hv
  obtain ⟨rfl, hsz, ⟨hP, hK, hD0⟩, hE⟩ := hv
  have hx := B.exec
  have hb := B.bytes
  have hr := B.returns
  have hts0 := atoms_spec (ws := .code y_Mo_clusterOf b_Mo_clusterOf 2 (some .int) :: V_Mq) B.pre
  have hts : ∀ w ∈ V_Mq, w.before ([.ref M.o, .int p0] : List Value).toArray s = true := fun w h => hts0 w (List.mem_cons_of_mem _ h)
  have hown : s.vm.findClass R_Mo = some m.cls := findClass_of_methodNamed B.named
  subst hsz
  have hD := hD0.self (sz := s.heap.size)
  generalize hAe : va_A (wM M S) s.heap.size = A at hD ⊢
  have hA : ∀ q : Nat, s.heap.size ≤ q → A q := fun q h => by rw [← hAe]; exact Or.inr h
  have hS : va_S A s.heap s.heap [] := va_S.rf
  have hP : va_P (dC, dI) classes (wM M S) s.heap := hP
  have hK : va_K (dC, dI) classes (tM M) s := hK
  have hEw : ∀ (H : Heap) (locs : List Loc), va_S A s.heap H locs → ∀ U : State, U.heap = H → s.WarmedH U.vm → E U := fun H locs hS U hU hW => lx_kept X hE hAe hS hU hW
  have hl := lv_entry ([.ref M.o, .int p0]) (n := 2) (Nat.le_of_ble_eq_true rfl)
  rw [lg_entry_eq]
  generalize (lg_sl ([.ref M.o, .int p0]) ++ List.replicate (2 - (lg_sl ([.ref M.o, .int p0])).length) Slot.unset).toArray = ls at hl ⊢
  have hl : lv_has ls 2 [(0, .ref M.o), (1, .int p0)] := hl
  refine qabs (fun Q hQ => ?_)
  rw [f_Mo_clusterOf] at h
  refine lv_iconst (v := 2) hx hb d_Mo_clusterOf_0 (by decide) ?_
  refine lv_iload_n hx hb d_Mo_clusterOf_1 rfl (lv_at hl 1 rfl) ?_
  refine lv_aload_n hx hb d_Mo_clusterOf_2 rfl (lv_at hl 0 rfl) ?_
  refine va_get (D := (dC, dI)) (ci := 12) (v := .int S.v_a) (C := R_Mo) (T := F_Mo) (N := 66) hx hb hts (fun w h => u_Mq_Mo w (i_Mo w h)) hown hK hP 0 rfl rfl 16 (by decide) (hts _ (u_Mq_Mo _ k_Mo_23)) (fun _ h9 => h9) rfl d_Mo_clusterOf_3 ?_
  refine lv_iconst (v := 2) hx hb d_Mo_clusterOf_6 (by decide) ?_
  refine lv_idiv hx hb d_Mo_clusterOf_7 (by decide) ?_
  refine lv_isub hx hb d_Mo_clusterOf_8 ?_
  refine lv_aload_n hx hb d_Mo_clusterOf_9 rfl (lv_at hl 0 rfl) ?_
  refine va_get (D := (dC, dI)) (ci := 12) (v := .int S.v_c) (C := R_Mo) (T := F_Mo) (N := 66) hx hb hts (fun w h => u_Mq_Mo w (i_Mo w h)) hown hK hP 0 rfl rfl 11 (by decide) (hts _ (u_Mq_Mo _ k_Mo_18)) (fun _ h9 => h9) rfl d_Mo_clusterOf_10 ?_
  refine lv_iconst (v := 2) hx hb d_Mo_clusterOf_13 (by decide) ?_
  refine lv_idiv hx hb d_Mo_clusterOf_14 (by decide) ?_
  obtain ⟨g_1, h⟩ := lf_gE h
  refine lv_idiv hx hb d_Mo_clusterOf_15 g_1 ?_
  refine lv_iadd hx hb d_Mo_clusterOf_16 ?_
  rw [hQ]
  have e1 : (2 + ((p0 - (S.v_a / 2)) / (S.v_c / 2))) = r := congrArg Prod.fst (Option.some.inj h)
  have e2 : S = S' := congrArg Prod.snd (Option.some.inj h)
  have hP := lx_newP e2.symm hP
  have hD := lx_newD e2.symm hD
  exact W.iret (v := (2 + ((p0 - (S.v_a / 2)) / (S.v_c / 2)))) hx hb hr (fun t ht hW => ⟨⟨(2 + ((p0 - (S.v_a / 2)) / (S.v_c / 2))), (), rfl, e1, by rw [ht]; exact hP, va_K.moved hW.alike hK, hD⟩, hS.F ht⟩) hS.2.2 d_Mo_clusterOf_17
set_option maxHeartbeats 4000000 in
set_option maxRecDepth 100000 in
theorem l_Mo_isRoomy (l : Launch) (dC : Nat → ClassId) (dI : Nat → Nat → Nat) {K : Nat} {M : MA} {E : State → Prop} (X : lx_X l dC dI K M E) (sz : Nat) {S S' : MS} {r : Int32} (h : f_Mo_isRoomy K S = some (r, S')) : Met l y_Mo_isRoomy (.code y_Mo_isRoomy b_Mo_isRoomy 4 (some .boolean) :: V_Mq) ({ frames := 1, cells := 0, slots := 0, locals := 21 }) (va_Pc [.ref M.o] (fun U => U.heap.size = sz ∧ at_ (dC, dI) (fun _ => True) (wM M S) (tM M) U ∧ E U)) (va_Qi (fun (r_ : Int32) (u : Unit) => r_ = r) (fun (u : Unit) t => at_ (dC, dI) (va_A (wM M S) sz) (wM M S') (tM M) t) (va_A (wM M S) sz)) 0 0 (va_A (wM M S) sz) := by
  refine Met.ofW (cc := b_Mo_isRoomy) (maxL := 4) (ret := (some .boolean)) (by decide) rfl ?_
  intro p e s m args below meth c s₁ B hml hv
  obtain ⟨rfl, hsz, ⟨hP, hK, hD0⟩, hE⟩ := hv
  have hx := B.exec
  have hb := B.bytes
  have hr := B.returns
  have hts0 := atoms_spec (ws := .code y_Mo_isRoomy b_Mo_isRoomy 4 (some .boolean) :: V_Mq) B.pre
  have hts : ∀ w ∈ V_Mq, w.before ([.ref M.o] : List Value).toArray s = true := fun w h => hts0 w (List.mem_cons_of_mem _ h)
  have hown : s.vm.findClass R_Mo = some m.cls := findClass_of_methodNamed B.named
  subst hsz
  have hD := hD0.self (sz := s.heap.size)
  generalize hAe : va_A (wM M S) s.heap.size = A at hD ⊢
  have hA : ∀ q : Nat, s.heap.size ≤ q → A q := fun q h => by rw [← hAe]; exact Or.inr h
  have hS : va_S A s.heap s.heap [] := va_S.rf
  have hP : va_P (dC, dI) classes (wM M S) s.heap := hP
  have hK : va_K (dC, dI) classes (tM M) s := hK
  have hEw : ∀ (H : Heap) (locs : List Loc), va_S A s.heap H locs → ∀ U : State, U.heap = H → s.WarmedH U.vm → E U := fun H locs hS U hU hW => lx_kept X hE hAe hS hU hW
  have hl := lv_entry ([.ref M.o]) (n := 4) (Nat.le_of_ble_eq_true rfl)
  rw [lg_entry_eq]
  generalize (lg_sl ([.ref M.o]) ++ List.replicate (4 - (lg_sl ([.ref M.o])).length) Slot.unset).toArray = ls at hl ⊢
  have hl : lv_has ls 4 [(0, .ref M.o)] := hl
  refine qabs (fun Q hQ => ?_)
  have hB_57 : ∀ (rec_4 : Int32 → Int32 → MS → Option (Int32 × MS)) (hr_4 : ∀ (y_1 : Int32) (y_2 : Int32) (S : MS) (H : Heap) (locs : List Loc) (ls : Array Slot), rec_4 y_1 y_2 S = some (r, S') → va_P (dC, dI) classes (wM M S) H → va_D A (wM M S) → va_S A s.heap H locs → lv_has ls 4 [(0, .ref M.o), (1, .int y_1), (2, .int y_2)] → W p l e ({ frames := 1, cells := 0, slots := 0, locals := 21 }) s m ([.ref M.o] : List Value).toArray below meth c H locs 0 0 Q (F0 m 4 ls [])), ∀ (y_2 : Int32) (z_0 : Int32) (S : MS) (H : Heap) (locs : List Loc) (ls : Array Slot), f_Mo_isRoomy_57 K rec_4 y_2 z_0 S = some (r, S') → va_P (dC, dI) classes (wM M S) H → va_D A (wM M S) → va_S A s.heap H locs → lv_has ls 4 [(0, .ref M.o), (2, .int y_2)] → W p l e ({ frames := 1, cells := 0, slots := 0, locals := 21 }) s m ([.ref M.o] : List Value).toArray below meth c H locs 0 0 Q (F0 m 57 ls [.int z_0]) := by
    intro rec_4 hr_4 y_2 z_0 S H locs ls h hP hD hS hl
    rw [f_Mo_isRoomy_57] at h
    refine lv_istore_n (lv' := [(1, .int z_0), (0, .ref M.o), (2, .int y_2)]) hx hb d_Mo_isRoomy_57 rfl hl (by decide) rfl (fun ls hl => ?_)
    obtain ⟨x_17, ex_17, h⟩ := lf_lX h
    refine lv_iinc (v := x_17) (lv' := [(2, .int x_17), (1, .int z_0), (0, .ref M.o)]) hx hb d_Mo_isRoomy_58 hl (k := 2) rfl (by rw [ex_17]; rfl) (by decide) rfl (fun ls hl => ?_)
    refine lv_goto (tgt := 4) hx hb d_Mo_isRoomy_61 (by decide) ?_
    exact hr_4 z_0 x_17 S _ _ _ h hP hD hS (lv_sub hl [2, 1, 0] rfl)
  have hB_56 : ∀ (rec_4 : Int32 → Int32 → MS → Option (Int32 × MS)) (hr_4 : ∀ (y_1 : Int32) (y_2 : Int32) (S : MS) (H : Heap) (locs : List Loc) (ls : Array Slot), rec_4 y_1 y_2 S = some (r, S') → va_P (dC, dI) classes (wM M S) H → va_D A (wM M S) → va_S A s.heap H locs → lv_has ls 4 [(0, .ref M.o), (1, .int y_1), (2, .int y_2)] → W p l e ({ frames := 1, cells := 0, slots := 0, locals := 21 }) s m ([.ref M.o] : List Value).toArray below meth c H locs 0 0 Q (F0 m 4 ls [])), ∀ (y_2 : Int32) (S : MS) (H : Heap) (locs : List Loc) (ls : Array Slot), f_Mo_isRoomy_56 K rec_4 y_2 S = some (r, S') → va_P (dC, dI) classes (wM M S) H → va_D A (wM M S) → va_S A s.heap H locs → lv_has ls 4 [(0, .ref M.o), (2, .int y_2)] → W p l e ({ frames := 1, cells := 0, slots := 0, locals := 21 }) s m ([.ref M.o] : List Value).toArray below meth c H locs 0 0 Q (F0 m 56 ls []) := by
    intro rec_4 hr_4 y_2 S H locs ls h hP hD hS hl
    rw [f_Mo_isRoomy_56] at h
    refine lv_iconst (v := 0) hx hb d_Mo_isRoomy_56 (by decide) ?_
    exact hB_57 _ hr_4 y_2 0 S _ _ _ h hP hD hS (lv_sub hl [0, 1] rfl)
  have hB_49 : ∀ (rec_4 : Int32 → Int32 → MS → Option (Int32 × MS)) (hr_4 : ∀ (y_1 : Int32) (y_2 : Int32) (S : MS) (H : Heap) (locs : List Loc) (ls : Array Slot), rec_4 y_1 y_2 S = some (r, S') → va_P (dC, dI) classes (wM M S) H → va_D A (wM M S) → va_S A s.heap H locs → lv_has ls 4 [(0, .ref M.o), (1, .int y_1), (2, .int y_2)] → W p l e ({ frames := 1, cells := 0, slots := 0, locals := 21 }) s m ([.ref M.o] : List Value).toArray below meth c H locs 0 0 Q (F0 m 4 ls [])), ∀ (y_2 : Int32) (z_0 : Int32) (z_1 : Int32) (S : MS) (H : Heap) (locs : List Loc) (ls : Array Slot), f_Mo_isRoomy_49 K rec_4 y_2 z_0 z_1 S = some (r, S') → va_P (dC, dI) classes (wM M S) H → va_D A (wM M S) → va_S A s.heap H locs → lv_has ls 4 [(0, .ref M.o), (2, .int y_2)] → W p l e ({ frames := 1, cells := 0, slots := 0, locals := 21 }) s m ([.ref M.o] : List Value).toArray below meth c H locs 0 0 Q (F0 m 49 ls [.int z_1, .int z_0]) := by
    intro rec_4 hr_4 y_2 z_0 z_1 S H locs ls h hP hD hS hl
    rw [f_Mo_isRoomy_49] at h
    refine lv_icmp_lt (tgt := 56) hx hb d_Mo_isRoomy_49 (by decide) (fun c_10 => ?_) (fun c_10 => ?_)
    · have h := lf_t h c_10
      exact hB_56 _ hr_4 y_2 S _ _ _ h hP hD hS (lv_sub hl [0, 1] rfl)
    · have h := lf_f h c_10
      refine lv_iconst (v := 1) hx hb d_Mo_isRoomy_52 (by decide) ?_
      refine lv_goto (tgt := 57) hx hb d_Mo_isRoomy_53 (by decide) ?_
      exact hB_57 _ hr_4 y_2 1 S _ _ _ h hP hD hS (lv_sub hl [0, 1] rfl)
  have hB_132 : ∀ (rec_94 : Int32 → Int32 → MS → Option (Int32 × MS)) (hr_94 : ∀ (y_1 : Int32) (y_2 : Int32) (S : MS) (H : Heap) (locs : List Loc) (ls : Array Slot), rec_94 y_1 y_2 S = some (r, S') → va_P (dC, dI) classes (wM M S) H → va_D A (wM M S) → va_S A s.heap H locs → lv_has ls 4 [(0, .ref M.o), (1, .int y_1), (2, .int y_2)] → W p l e ({ frames := 1, cells := 0, slots := 0, locals := 21 }) s m ([.ref M.o] : List Value).toArray below meth c H locs 0 0 Q (F0 m 94 ls [])) (k : Nat), ∀ (y_1 : Int32) (y_2 : Int32) (y_3 : Int32) (S : MS) (H : Heap) (locs : List Loc) (ls : Array Slot), f_Mo_isRoomy_132 K rec_94 k y_1 y_2 y_3 S = some (r, S') → va_P (dC, dI) classes (wM M S) H → va_D A (wM M S) → va_S A s.heap H locs → lv_has ls 4 [(0, .ref M.o), (1, .int y_1), (2, .int y_2), (3, .int y_3)] → W p l e ({ frames := 1, cells := 0, slots := 0, locals := 21 }) s m ([.ref M.o] : List Value).toArray below meth c H locs 0 0 Q (F0 m 132 ls []) := by
    intro rec_94 hr_94 k
    induction k with
    | zero => intro y_1 y_2 y_3 S H locs ls h; exact lf_no h
    | succ k hr_132 =>
      intro y_1 y_2 y_3 S H locs ls h hP hD hS hl
      rw [f_Mo_isRoomy_132] at h
      refine lv_iload_n hx hb d_Mo_isRoomy_132 rfl (lv_at hl 3 rfl) ?_
      refine lv_iconst (v := 2) hx hb d_Mo_isRoomy_133 (by decide) ?_
      refine lv_aload_n hx hb d_Mo_isRoomy_134 rfl (lv_at hl 0 rfl) ?_
      refine va_get (D := (dC, dI)) (ci := 12) (v := .int S.v_rows) (C := R_Mo) (T := F_Mo) (N := 66) hx hb hts (fun w h => u_Mq_Mo w (i_Mo w h)) hown hK hP 0 rfl rfl 49 (by decide) (hts _ (u_Mq_Mo _ k_Mo_56)) (fun _ h9 => h9) rfl d_Mo_isRoomy_135 ?_
      refine lv_iadd hx hb d_Mo_isRoomy_138 ?_
      refine lv_icmp_ge (tgt := 161) hx hb d_Mo_isRoomy_139 (by decide) (fun c_22 => ?_) (fun c_22 => ?_)
      · have h := lf_t h c_22
        obtain ⟨x_23, ex_23, h⟩ := lf_lX h
        refine lv_iinc (v := x_23) (lv' := [(2, .int x_23), (0, .ref M.o), (1, .int y_1), (3, .int y_3)]) hx hb d_Mo_isRoomy_161 hl (k := 2) rfl (by rw [ex_23]; rfl) (by decide) rfl (fun ls hl => ?_)
        refine lv_goto (tgt := 94) hx hb d_Mo_isRoomy_164 (by decide) ?_
        exact hr_94 y_1 x_23 S _ _ _ h hP hD hS (lv_sub hl [1, 2, 0] rfl)
      · have h := lf_f h c_22
        refine lv_aload_n hx hb d_Mo_isRoomy_142 rfl (lv_at hl 0 rfl) ?_
        refine va_get (D := (dC, dI)) (ci := 12) (v := .ref M.a_fixed) (C := R_Mo) (T := F_Mo) (N := 66) hx hb hts (fun w h => u_Mq_Mo w (i_Mo w h)) hown hK hP 0 rfl rfl 51 (by decide) (hts _ (u_Mq_Mo _ k_Mo_58)) (fun _ h9 => h9) rfl d_Mo_isRoomy_143 ?_
        refine lv_aload_n hx hb d_Mo_isRoomy_146 rfl (lv_at hl 0 rfl) ?_
        refine lv_iload_n hx hb d_Mo_isRoomy_147 rfl (lv_at hl 2 rfl) ?_
        obtain ⟨r_24, S_24, hc_24, h⟩ := lf_cE h
        have hFc := lx_free hD hS hA
        refine va_calli (va_runV (As := [.int y_2]) (rest := [.ref M.a_fixed]) ⟨hx, hb, hml, hown, hts⟩ (l_Mo_mapOf l dC dI X _ hc_24) (cwV 1 hts (gwV good_Mq (u_Mq_Mo _ k_Mo_376) (u_Mq_Mo _ k_Mo_377) (u_Mq_Mo _ k_Mo_530) (u_Mq_Mo _ k_Mo_0) (wcs (u_Mq_Mo _ k_Mo_378) (fun _ h => h))) rfl rfl rfl (by decide +kernel) ⟨Nat.le_of_ble_eq_true rfl, Nat.le_of_ble_eq_true rfl⟩) (pv_ofE X.same (hEw _ _ hS) hP hK hD (va_recv hK hP (ci := 12) (q0 := 0) rfl rfl)) rfl rfl hl.1 rfl (lv_room (Nat.le_of_ble_eq_true rfl)) d_Mo_isRoomy_148 ⟨by decide, by decide⟩) hS (fun q _ h => hFc q h) hFc (fun r_ u t H locs ht hvm hw hB hz1 hk1 hS => ?_)
        rw [hw]
        obtain ⟨hP, -, hD⟩ := hB
        rw [ht] at hP
        have hD := lx_dj hD hFc
        refine lv_iload_n hx hb d_Mo_isRoomy_151 rfl (lv_at hl 3 rfl) ?_
        refine lv_iadd hx hb d_Mo_isRoomy_152 ?_
        refine lv_iconst (v := 1) hx hb d_Mo_isRoomy_153 (by decide) ?_
        obtain ⟨g_25, h⟩ := lf_gE h
        refine va_zast hx hb hK hP hD hS 21 20 rfl rfl g_25 d_Mo_isRoomy_154 (fun H locs hP hD hS => ?_)
        obtain ⟨S_26, eS_26, h⟩ := lf_lX h
        have hP := lx_newP eS_26 hP
        have hD := lx_newD eS_26 hD
        obtain ⟨x_27, ex_27, h⟩ := lf_lX h
        refine lv_iinc (v := x_27) (lv' := [(3, .int x_27), (0, .ref M.o), (1, .int y_1), (2, .int y_2)]) hx hb d_Mo_isRoomy_155 hl (k := 3) rfl (by rw [ex_27]; rfl) (by decide) rfl (fun ls hl => ?_)
        refine lv_goto (tgt := 132) hx hb d_Mo_isRoomy_158 (by decide) ?_
        exact hr_132 y_1 y_2 x_27 S_26 _ _ _ h hP hD hS (lv_sub hl [1, 2, 3, 0] rfl)
  have hB_250 : ∀ (rec_174 : Int32 → Int32 → MS → Option (Int32 × MS)) (hr_174 : ∀ (y_1 : Int32) (y_2 : Int32) (S : MS) (H : Heap) (locs : List Loc) (ls : Array Slot), rec_174 y_1 y_2 S = some (r, S') → va_P (dC, dI) classes (wM M S) H → va_D A (wM M S) → va_S A s.heap H locs → lv_has ls 4 [(0, .ref M.o), (1, .int y_1), (2, .int y_2)] → W p l e ({ frames := 1, cells := 0, slots := 0, locals := 21 }) s m ([.ref M.o] : List Value).toArray below meth c H locs 0 0 Q (F0 m 174 ls [])), ∀ (y_2 : Int32) (z_0 : Int32) (S : MS) (H : Heap) (locs : List Loc) (ls : Array Slot), f_Mo_isRoomy_250 K rec_174 y_2 z_0 S = some (r, S') → va_P (dC, dI) classes (wM M S) H → va_D A (wM M S) → va_S A s.heap H locs → lv_has ls 4 [(0, .ref M.o), (2, .int y_2)] → W p l e ({ frames := 1, cells := 0, slots := 0, locals := 21 }) s m ([.ref M.o] : List Value).toArray below meth c H locs 0 0 Q (F0 m 250 ls [.int z_0]) := by
    intro rec_174 hr_174 y_2 z_0 S H locs ls h hP hD hS hl
    rw [f_Mo_isRoomy_250] at h
    refine lv_istore_n (lv' := [(1, .int z_0), (0, .ref M.o), (2, .int y_2)]) hx hb d_Mo_isRoomy_250 rfl hl (by decide) rfl (fun ls hl => ?_)
    obtain ⟨x_37, ex_37, h⟩ := lf_lX h
    refine lv_iinc (v := x_37) (lv' := [(2, .int x_37), (1, .int z_0), (0, .ref M.o)]) hx hb d_Mo_isRoomy_251 hl (k := 2) rfl (by rw [ex_37]; rfl) (by decide) rfl (fun ls hl => ?_)
    refine lv_goto (tgt := 174) hx hb d_Mo_isRoomy_254 (by decide) ?_
    exact hr_174 z_0 x_37 S _ _ _ h hP hD hS (lv_sub hl [2, 1, 0] rfl)
  have hB_245 : ∀ (rec_174 : Int32 → Int32 → MS → Option (Int32 × MS)) (hr_174 : ∀ (y_1 : Int32) (y_2 : Int32) (S : MS) (H : Heap) (locs : List Loc) (ls : Array Slot), rec_174 y_1 y_2 S = some (r, S') → va_P (dC, dI) classes (wM M S) H → va_D A (wM M S) → va_S A s.heap H locs → lv_has ls 4 [(0, .ref M.o), (1, .int y_1), (2, .int y_2)] → W p l e ({ frames := 1, cells := 0, slots := 0, locals := 21 }) s m ([.ref M.o] : List Value).toArray below meth c H locs 0 0 Q (F0 m 174 ls [])), ∀ (y_2 : Int32) (S : MS) (H : Heap) (locs : List Loc) (ls : Array Slot), f_Mo_isRoomy_245 K rec_174 y_2 S = some (r, S') → va_P (dC, dI) classes (wM M S) H → va_D A (wM M S) → va_S A s.heap H locs → lv_has ls 4 [(0, .ref M.o), (2, .int y_2)] → W p l e ({ frames := 1, cells := 0, slots := 0, locals := 21 }) s m ([.ref M.o] : List Value).toArray below meth c H locs 0 0 Q (F0 m 245 ls []) := by
    intro rec_174 hr_174 y_2 S H locs ls h hP hD hS hl
    rw [f_Mo_isRoomy_245] at h
    refine lv_iconst (v := 1) hx hb d_Mo_isRoomy_245 (by decide) ?_
    refine lv_goto (tgt := 250) hx hb d_Mo_isRoomy_246 (by decide) ?_
    exact hB_250 _ hr_174 y_2 1 S _ _ _ h hP hD hS (lv_sub hl [0, 1] rfl)
  have hB_249 : ∀ (rec_174 : Int32 → Int32 → MS → Option (Int32 × MS)) (hr_174 : ∀ (y_1 : Int32) (y_2 : Int32) (S : MS) (H : Heap) (locs : List Loc) (ls : Array Slot), rec_174 y_1 y_2 S = some (r, S') → va_P (dC, dI) classes (wM M S) H → va_D A (wM M S) → va_S A s.heap H locs → lv_has ls 4 [(0, .ref M.o), (1, .int y_1), (2, .int y_2)] → W p l e ({ frames := 1, cells := 0, slots := 0, locals := 21 }) s m ([.ref M.o] : List Value).toArray below meth c H locs 0 0 Q (F0 m 174 ls [])), ∀ (y_2 : Int32) (S : MS) (H : Heap) (locs : List Loc) (ls : Array Slot), f_Mo_isRoomy_249 K rec_174 y_2 S = some (r, S') → va_P (dC, dI) classes (wM M S) H → va_D A (wM M S) → va_S A s.heap H locs → lv_has ls 4 [(0, .ref M.o), (2, .int y_2)] → W p l e ({ frames := 1, cells := 0, slots := 0, locals := 21 }) s m ([.ref M.o] : List Value).toArray below meth c H locs 0 0 Q (F0 m 249 ls []) := by
    intro rec_174 hr_174 y_2 S H locs ls h hP hD hS hl
    rw [f_Mo_isRoomy_249] at h
    refine lv_iconst (v := 0) hx hb d_Mo_isRoomy_249 (by decide) ?_
    exact hB_250 _ hr_174 y_2 0 S _ _ _ h hP hD hS (lv_sub hl [0, 1] rfl)
  have hB_201 : ∀ (rec_174 : Int32 → Int32 → MS → Option (Int32 × MS)) (hr_174 : ∀ (y_1 : Int32) (y_2 : Int32) (S : MS) (H : Heap) (locs : List Loc) (ls : Array Slot), rec_174 y_1 y_2 S = some (r, S') → va_P (dC, dI) classes (wM M S) H → va_D A (wM M S) → va_S A s.heap H locs → lv_has ls 4 [(0, .ref M.o), (1, .int y_1), (2, .int y_2)] → W p l e ({ frames := 1, cells := 0, slots := 0, locals := 21 }) s m ([.ref M.o] : List Value).toArray below meth c H locs 0 0 Q (F0 m 174 ls [])), ∀ (y_1 : Int32) (y_2 : Int32) (z_1 : Int32) (z_2 : Int32) (S : MS) (H : Heap) (locs : List Loc) (ls : Array Slot), f_Mo_isRoomy_201 K rec_174 y_1 y_2 z_1 z_2 S = some (r, S') → va_P (dC, dI) classes (wM M S) H → va_D A (wM M S) → va_S A s.heap H locs → lv_has ls 4 [(0, .ref M.o), (1, .int y_1), (2, .int y_2)] → W p l e ({ frames := 1, cells := 0, slots := 0, locals := 21 }) s m ([.ref M.o] : List Value).toArray below meth c H locs 0 0 Q (F0 m 201 ls [.int z_2, .int z_1, .ref M.o]) := by
    intro rec_174 hr_174 y_1 y_2 z_1 z_2 S H locs ls h hP hD hS hl
    rw [f_Mo_isRoomy_201] at h
    refine lv_iadd hx hb d_Mo_isRoomy_201 ?_
    refine va_put (D := (dC, dI)) (ci := 12) (v := .int (z_1 + z_2)) (ty := .int) (C := R_Mo) (T := F_Mo) (N := 66) hx hb hts (fun w h => u_Mq_Mo w (i_Mo w h)) t_Mo t_Mo_ok n_Mo hown hK hP hD hS 0 rfl rfl 56 (by decide) (hts _ (u_Mq_Mo _ k_Mo_63)) (fun _ h9 => h9) rfl (by decide +kernel) rfl rfl (Nat.le_of_ble_eq_true rfl) d_Mo_isRoomy_202 (fun H locs hP hD hS => ?_)
    obtain ⟨S_28, eS_28, h⟩ := lf_lX h
    have hP := lx_newP eS_28 hP
    have hD := lx_newD eS_28 hD
    refine lv_iload_n hx hb d_Mo_isRoomy_205 rfl (lv_at hl 1 rfl) ?_
    refine lv_if_eq (tgt := 249) hx hb d_Mo_isRoomy_206 (by decide) (fun c_29 => ?_) (fun c_29 => ?_)
    · have h := lf_t h c_29
      exact hB_249 _ hr_174 y_2 S_28 _ _ _ h hP hD hS (lv_sub hl [0, 2] rfl)
    · have h := lf_f h c_29
      refine lv_aload_n hx hb d_Mo_isRoomy_209 rfl (lv_at hl 0 rfl) ?_
      refine va_get (D := (dC, dI)) (ci := 12) (v := .ref M.a_fixed) (C := R_Mo) (T := F_Mo) (N := 66) hx hb hts (fun w h => u_Mq_Mo w (i_Mo w h)) hown hK hP 0 rfl rfl 51 (by decide) (hts _ (u_Mq_Mo _ k_Mo_58)) (fun _ h9 => h9) rfl d_Mo_isRoomy_210 ?_
      refine lv_iload_n hx hb d_Mo_isRoomy_213 rfl (lv_at hl 2 rfl) ?_
      obtain ⟨g_30, h⟩ := lf_gE h
      refine va_zald hx hb hK hP 21 20 rfl rfl g_30 d_Mo_isRoomy_214 ?_
      refine lv_if_eq (tgt := 245) hx hb d_Mo_isRoomy_215 (by decide) (fun c_31 => ?_) (fun c_31 => ?_)
      · have h := lf_t h c_31
        exact hB_245 _ hr_174 y_2 S_28 _ _ _ h hP hD hS (lv_sub hl [0, 2] rfl)
      · have h := lf_f h c_31
        refine lv_iload_n hx hb d_Mo_isRoomy_218 rfl (lv_at hl 2 rfl) ?_
        refine lv_iconst (v := 3) hx hb d_Mo_isRoomy_219 (by decide) ?_
        refine lv_icmp_lt (tgt := 245) hx hb d_Mo_isRoomy_220 (by decide) (fun c_32 => ?_) (fun c_32 => ?_)
        · have h := lf_t h c_32
          exact hB_245 _ hr_174 y_2 S_28 _ _ _ h hP hD hS (lv_sub hl [0, 2] rfl)
        · have h := lf_f h c_32
          refine lv_iload_n hx hb d_Mo_isRoomy_223 rfl (lv_at hl 2 rfl) ?_
          refine lv_aload_n hx hb d_Mo_isRoomy_224 rfl (lv_at hl 0 rfl) ?_
          refine va_get (D := (dC, dI)) (ci := 12) (v := .int S_28.v_a) (C := R_Mo) (T := F_Mo) (N := 66) hx hb hts (fun w h => u_Mq_Mo w (i_Mo w h)) hown hK hP 0 rfl rfl 16 (by decide) (hts _ (u_Mq_Mo _ k_Mo_23)) (fun _ h9 => h9) rfl d_Mo_isRoomy_225 ?_
          refine lv_iconst (v := 2) hx hb d_Mo_isRoomy_228 (by decide) ?_
          refine lv_idiv hx hb d_Mo_isRoomy_229 (by decide) ?_
          refine lv_icmp_lt (tgt := 249) hx hb d_Mo_isRoomy_230 (by decide) (fun c_33 => ?_) (fun c_33 => ?_)
          · have h := lf_t h c_33
            exact hB_249 _ hr_174 y_2 S_28 _ _ _ h hP hD hS (lv_sub hl [0, 2] rfl)
          · have h := lf_f h c_33
            refine lv_aload_n hx hb d_Mo_isRoomy_233 rfl (lv_at hl 0 rfl) ?_
            refine lv_aload_n hx hb d_Mo_isRoomy_234 rfl (lv_at hl 0 rfl) ?_
            refine lv_iload_n hx hb d_Mo_isRoomy_235 rfl (lv_at hl 2 rfl) ?_
            obtain ⟨r_34, S_34, hc_34, h⟩ := lf_cE h
            have hFc := lx_free hD hS hA
            refine va_calli (va_runV (As := [.int y_2]) (rest := [.ref M.o]) ⟨hx, hb, hml, hown, hts⟩ (l_Mo_clusterOf l dC dI X _ hc_34) (cwV 1 hts (gwV good_Mq (u_Mq_Mo _ k_Mo_379) (u_Mq_Mo _ k_Mo_380) (u_Mq_Mo _ k_Mo_531) (u_Mq_Mo _ k_Mo_0) (wcs (u_Mq_Mo _ k_Mo_381) (fun _ h => h))) rfl rfl rfl (by decide +kernel) ⟨Nat.le_of_ble_eq_true rfl, Nat.le_of_ble_eq_true rfl⟩) (pv_ofE X.same (hEw _ _ hS) hP hK hD (va_recv hK hP (ci := 12) (q0 := 0) rfl rfl)) rfl rfl hl.1 rfl (lv_room (Nat.le_of_ble_eq_true rfl)) d_Mo_isRoomy_236 ⟨by decide, by decide⟩) hS (fun q _ h => hFc q h) hFc (fun r_ u t H locs ht hvm hw hB hz1 hk1 hS => ?_)
            rw [hw]
            obtain ⟨hP, -, hD⟩ := hB
            rw [ht] at hP
            have hD := lx_dj hD hFc
            obtain ⟨r_35, S_35, hc_35, h⟩ := lf_cE h
            have hFc := lx_free hD hS hA
            refine va_calli (va_runV (As := [.int r_34]) (rest := []) ⟨hx, hb, hml, hown, hts⟩ (l_Mo_isCluster l dC dI X _ hc_35) (cwV 1 hts (gwV good_Mq (u_Mq_Mo _ k_Mo_104) (u_Mq_Mo _ k_Mo_105) (u_Mq_Mo _ k_Mo_482) (u_Mq_Mo _ k_Mo_0) (wcs (u_Mq_Mo _ k_Mo_106) (fun _ h => h))) rfl rfl rfl (by decide +kernel) ⟨Nat.le_of_ble_eq_true rfl, Nat.le_of_ble_eq_true rfl⟩) (pv_ofE X.same (hEw _ _ hS) hP hK hD (va_recv hK hP (ci := 12) (q0 := 0) rfl rfl)) rfl rfl hl.1 rfl (lv_room (Nat.le_of_ble_eq_true rfl)) d_Mo_isRoomy_239 ⟨by decide, by decide⟩) hS (fun q _ h => hFc q h) hFc (fun r_ u t H locs ht hvm hw hB hz1 hk1 hS => ?_)
            rw [hw]
            obtain ⟨hP, -, hD⟩ := hB
            rw [ht] at hP
            have hD := lx_dj hD hFc
            refine lv_if_eq (tgt := 249) hx hb d_Mo_isRoomy_242 (by decide) (fun c_36 => ?_) (fun c_36 => ?_)
            · have h := lf_t h c_36
              exact hB_249 _ hr_174 y_2 S_35 _ _ _ h hP hD hS (lv_sub hl [0, 2] rfl)
            · have h := lf_f h c_36
              exact hB_245 _ hr_174 y_2 S_35 _ _ _ h hP hD hS (lv_sub hl [0, 2] rfl)
  have hB_174 : ∀ (k : Nat), ∀ (y_1 : Int32) (y_2 : Int32) (S : MS) (H : Heap) (locs : List Loc) (ls : Array Slot), f_Mo_isRoomy_174 K k y_1 y_2 S = some (r, S') → va_P (dC, dI) classes (wM M S) H → va_D A (wM M S) → va_S A s.heap H locs → lv_has ls 4 [(0, .ref M.o), (1, .int y_1), (2, .int y_2)] → W p l e ({ frames := 1, cells := 0, slots := 0, locals := 21 }) s m ([.ref M.o] : List Value).toArray below meth c H locs 0 0 Q (F0 m 174 ls []) := by
    intro k
    induction k with
    | zero => intro y_1 y_2 S H locs ls h; exact lf_no h
    | succ k hr_174 =>
      intro y_1 y_2 S H locs ls h hP hD hS hl
      rw [f_Mo_isRoomy_174] at h
      refine lv_iload_n hx hb d_Mo_isRoomy_174 rfl (lv_at hl 2 rfl) ?_
      refine lv_aload_n hx hb d_Mo_isRoomy_175 rfl (lv_at hl 0 rfl) ?_
      refine va_get (D := (dC, dI)) (ci := 12) (v := .int S.v_blocks) (C := R_Mo) (T := F_Mo) (N := 66) hx hb hts (fun w h => u_Mq_Mo w (i_Mo w h)) hown hK hP 0 rfl rfl 50 (by decide) (hts _ (u_Mq_Mo _ k_Mo_57)) (fun _ h9 => h9) rfl d_Mo_isRoomy_176 ?_
      refine lv_icmp_ge (tgt := 257) hx hb d_Mo_isRoomy_179 (by decide) (fun c_18 => ?_) (fun c_18 => ?_)
      · have h := lf_t h c_18
        refine lv_iload_n hx hb d_Mo_isRoomy_257 rfl (lv_at hl 1 rfl) ?_
        obtain ⟨g_19, h⟩ := lf_gE h
        rw [hQ]
        have e1 : y_1 = r := congrArg Prod.fst (Option.some.inj h)
        have e2 : S = S' := congrArg Prod.snd (Option.some.inj h)
        have hP := lx_newP e2.symm hP
        have hD := lx_newD e2.symm hD
        exact W.zret (v := y_1) hx hb hr (lf_nz g_19) (fun t ht hW => ⟨⟨y_1, (), rfl, e1, by rw [ht]; exact hP, va_K.moved hW.alike hK, hD⟩, hS.F ht⟩) hS.2.2 d_Mo_isRoomy_258
      · have h := lf_f h c_18
        refine lv_aload_n hx hb d_Mo_isRoomy_182 rfl (lv_at hl 0 rfl) ?_
        refine lv_dup hx hb d_Mo_isRoomy_183 rfl ?_
        refine va_get (D := (dC, dI)) (ci := 12) (v := .int S.v_fixedBlocks) (C := R_Mo) (T := F_Mo) (N := 66) hx hb hts (fun w h => u_Mq_Mo w (i_Mo w h)) hown hK hP 0 rfl rfl 56 (by decide) (hts _ (u_Mq_Mo _ k_Mo_63)) (fun _ h9 => h9) rfl d_Mo_isRoomy_184 ?_
        refine lv_aload_n hx hb d_Mo_isRoomy_187 rfl (lv_at hl 0 rfl) ?_
        refine va_get (D := (dC, dI)) (ci := 12) (v := .ref M.a_fixed) (C := R_Mo) (T := F_Mo) (N := 66) hx hb hts (fun w h => u_Mq_Mo w (i_Mo w h)) hown hK hP 0 rfl rfl 51 (by decide) (hts _ (u_Mq_Mo _ k_Mo_58)) (fun _ h9 => h9) rfl d_Mo_isRoomy_188 ?_
        refine lv_iload_n hx hb d_Mo_isRoomy_191 rfl (lv_at hl 2 rfl) ?_
        obtain ⟨g_20, h⟩ := lf_gE h
        refine va_zald hx hb hK hP 21 20 rfl rfl g_20 d_Mo_isRoomy_192 ?_
        refine lv_if_eq (tgt := 200) hx hb d_Mo_isRoomy_193 (by decide) (fun c_21 => ?_) (fun c_21 => ?_)
        · have h := lf_t h c_21
          refine lv_iconst (v := 0) hx hb d_Mo_isRoomy_200 (by decide) ?_
          exact hB_201 _ hr_174 y_1 y_2 S.v_fixedBlocks 0 S _ _ _ h hP hD hS (lv_sub hl [0, 1, 2] rfl)
        · have h := lf_f h c_21
          refine lv_iconst (v := 1) hx hb d_Mo_isRoomy_196 (by decide) ?_
          refine lv_goto (tgt := 201) hx hb d_Mo_isRoomy_197 (by decide) ?_
          exact hB_201 _ hr_174 y_1 y_2 S.v_fixedBlocks 1 S _ _ _ h hP hD hS (lv_sub hl [0, 1, 2] rfl)
  have hB_94 : ∀ (k : Nat), ∀ (y_1 : Int32) (y_2 : Int32) (S : MS) (H : Heap) (locs : List Loc) (ls : Array Slot), f_Mo_isRoomy_94 K k y_1 y_2 S = some (r, S') → va_P (dC, dI) classes (wM M S) H → va_D A (wM M S) → va_S A s.heap H locs → lv_has ls 4 [(0, .ref M.o), (1, .int y_1), (2, .int y_2)] → W p l e ({ frames := 1, cells := 0, slots := 0, locals := 21 }) s m ([.ref M.o] : List Value).toArray below meth c H locs 0 0 Q (F0 m 94 ls []) := by
    intro k
    induction k with
    | zero => intro y_1 y_2 S H locs ls h; exact lf_no h
    | succ k hr_94 =>
      intro y_1 y_2 S H locs ls h hP hD hS hl
      rw [f_Mo_isRoomy_94] at h
      refine lv_iload_n hx hb d_Mo_isRoomy_94 rfl (lv_at hl 2 rfl) ?_
      refine lv_aload_n hx hb d_Mo_isRoomy_95 rfl (lv_at hl 0 rfl) ?_
      refine va_get (D := (dC, dI)) (ci := 12) (v := .int S.v_groups) (C := R_Mo) (T := F_Mo) (N := 66) hx hb hts (fun w h => u_Mq_Mo w (i_Mo w h)) hown hK hP 0 rfl rfl 46 (by decide) (hts _ (u_Mq_Mo _ k_Mo_53)) (fun _ h9 => h9) rfl d_Mo_isRoomy_96 ?_
      refine lv_icmp_ge (tgt := 167) hx hb d_Mo_isRoomy_99 (by decide) (fun c_11 => ?_) (fun c_11 => ?_)
      · have h := lf_t h c_11
        refine lv_aload_n hx hb d_Mo_isRoomy_167 rfl (lv_at hl 0 rfl) ?_
        refine lv_iconst (v := 0) hx hb d_Mo_isRoomy_168 (by decide) ?_
        refine va_put (D := (dC, dI)) (ci := 12) (v := .int 0) (ty := .int) (C := R_Mo) (T := F_Mo) (N := 66) hx hb hts (fun w h => u_Mq_Mo w (i_Mo w h)) t_Mo t_Mo_ok n_Mo hown hK hP hD hS 0 rfl rfl 56 (by decide) (hts _ (u_Mq_Mo _ k_Mo_63)) (fun _ h9 => h9) rfl (by decide +kernel) rfl rfl (Nat.le_of_ble_eq_true rfl) d_Mo_isRoomy_169 (fun H locs hP hD hS => ?_)
        obtain ⟨S_12, eS_12, h⟩ := lf_lX h
        have hP := lx_newP eS_12 hP
        have hD := lx_newD eS_12 hD
        refine lv_iconst (v := 0) hx hb d_Mo_isRoomy_172 (by decide) ?_
        refine lv_istore_n (lv' := [(2, .int 0), (0, .ref M.o), (1, .int y_1)]) hx hb d_Mo_isRoomy_173 rfl hl (by decide) rfl (fun ls hl => ?_)
        exact hB_174 K y_1 0 S_12 _ _ _ h hP hD hS (lv_sub hl [1, 2, 0] rfl)
      · have h := lf_f h c_11
        refine lv_aload_n hx hb d_Mo_isRoomy_102 rfl (lv_at hl 0 rfl) ?_
        refine va_get (D := (dC, dI)) (ci := 12) (v := .ref M.a_fixed) (C := R_Mo) (T := F_Mo) (N := 66) hx hb hts (fun w h => u_Mq_Mo w (i_Mo w h)) hown hK hP 0 rfl rfl 51 (by decide) (hts _ (u_Mq_Mo _ k_Mo_58)) (fun _ h9 => h9) rfl d_Mo_isRoomy_103 ?_
        refine lv_iconst (v := 1) hx hb d_Mo_isRoomy_106 (by decide) ?_
        refine lv_iload_n hx hb d_Mo_isRoomy_107 rfl (lv_at hl 2 rfl) ?_
        refine lv_aload_n hx hb d_Mo_isRoomy_108 rfl (lv_at hl 0 rfl) ?_
        refine va_get (D := (dC, dI)) (ci := 12) (v := .int S.v_per) (C := R_Mo) (T := F_Mo) (N := 66) hx hb hts (fun w h => u_Mq_Mo w (i_Mo w h)) hown hK hP 0 rfl rfl 47 (by decide) (hts _ (u_Mq_Mo _ k_Mo_54)) (fun _ h9 => h9) rfl d_Mo_isRoomy_109 ?_
        refine lv_imul hx hb d_Mo_isRoomy_112 ?_
        refine lv_iadd hx hb d_Mo_isRoomy_113 ?_
        refine lv_iconst (v := 1) hx hb d_Mo_isRoomy_114 (by decide) ?_
        obtain ⟨g_13, h⟩ := lf_gE h
        refine va_zast hx hb hK hP hD hS 21 20 rfl rfl g_13 d_Mo_isRoomy_115 (fun H locs hP hD hS => ?_)
        obtain ⟨S_14, eS_14, h⟩ := lf_lX h
        have hP := lx_newP eS_14 hP
        have hD := lx_newD eS_14 hD
        refine lv_aload_n hx hb d_Mo_isRoomy_116 rfl (lv_at hl 0 rfl) ?_
        refine va_get (D := (dC, dI)) (ci := 12) (v := .ref M.a_fixed) (C := R_Mo) (T := F_Mo) (N := 66) hx hb hts (fun w h => u_Mq_Mo w (i_Mo w h)) hown hK hP 0 rfl rfl 51 (by decide) (hts _ (u_Mq_Mo _ k_Mo_58)) (fun _ h9 => h9) rfl d_Mo_isRoomy_117 ?_
        refine lv_iconst (v := 2) hx hb d_Mo_isRoomy_120 (by decide) ?_
        refine lv_iload_n hx hb d_Mo_isRoomy_121 rfl (lv_at hl 2 rfl) ?_
        refine lv_aload_n hx hb d_Mo_isRoomy_122 rfl (lv_at hl 0 rfl) ?_
        refine va_get (D := (dC, dI)) (ci := 12) (v := .int S_14.v_per) (C := R_Mo) (T := F_Mo) (N := 66) hx hb hts (fun w h => u_Mq_Mo w (i_Mo w h)) hown hK hP 0 rfl rfl 47 (by decide) (hts _ (u_Mq_Mo _ k_Mo_54)) (fun _ h9 => h9) rfl d_Mo_isRoomy_123 ?_
        refine lv_imul hx hb d_Mo_isRoomy_126 ?_
        refine lv_iadd hx hb d_Mo_isRoomy_127 ?_
        refine lv_iconst (v := 1) hx hb d_Mo_isRoomy_128 (by decide) ?_
        obtain ⟨g_15, h⟩ := lf_gE h
        refine va_zast hx hb hK hP hD hS 21 20 rfl rfl g_15 d_Mo_isRoomy_129 (fun H locs hP hD hS => ?_)
        obtain ⟨S_16, eS_16, h⟩ := lf_lX h
        have hP := lx_newP eS_16 hP
        have hD := lx_newD eS_16 hD
        refine lv_iconst (v := 0) hx hb d_Mo_isRoomy_130 (by decide) ?_
        refine lv_istore_n (lv' := [(3, .int 0), (0, .ref M.o), (1, .int y_1), (2, .int y_2)]) hx hb d_Mo_isRoomy_131 rfl hl (by decide) rfl (fun ls hl => ?_)
        exact hB_132 _ hr_94 K y_1 y_2 0 S_16 _ _ _ h hP hD hS (lv_sub hl [1, 2, 3, 0] rfl)
  have hB_72 : ∀ (k : Nat), ∀ (y_1 : Int32) (y_2 : Int32) (S : MS) (H : Heap) (locs : List Loc) (ls : Array Slot), f_Mo_isRoomy_72 K k y_1 y_2 S = some (r, S') → va_P (dC, dI) classes (wM M S) H → va_D A (wM M S) → va_S A s.heap H locs → lv_has ls 4 [(0, .ref M.o), (1, .int y_1), (2, .int y_2)] → W p l e ({ frames := 1, cells := 0, slots := 0, locals := 21 }) s m ([.ref M.o] : List Value).toArray below meth c H locs 0 0 Q (F0 m 72 ls []) := by
    intro k
    induction k with
    | zero => intro y_1 y_2 S H locs ls h; exact lf_no h
    | succ k hr_72 =>
      intro y_1 y_2 S H locs ls h hP hD hS hl
      rw [f_Mo_isRoomy_72] at h
      refine lv_iload_n hx hb d_Mo_isRoomy_72 rfl (lv_at hl 2 rfl) ?_
      refine lv_sipush (v := 512) hx hb d_Mo_isRoomy_73 (by decide) ?_
      refine lv_icmp_ge (tgt := 92) hx hb d_Mo_isRoomy_76 (by decide) (fun c_6 => ?_) (fun c_6 => ?_)
      · have h := lf_t h c_6
        refine lv_iconst (v := 0) hx hb d_Mo_isRoomy_92 (by decide) ?_
        refine lv_istore_n (lv' := [(2, .int 0), (0, .ref M.o), (1, .int y_1)]) hx hb d_Mo_isRoomy_93 rfl hl (by decide) rfl (fun ls hl => ?_)
        exact hB_94 K y_1 0 S _ _ _ h hP hD hS (lv_sub hl [1, 2, 0] rfl)
      · have h := lf_f h c_6
        refine lv_aload_n hx hb d_Mo_isRoomy_79 rfl (lv_at hl 0 rfl) ?_
        refine va_get (D := (dC, dI)) (ci := 12) (v := .ref M.a_fixed) (C := R_Mo) (T := F_Mo) (N := 66) hx hb hts (fun w h => u_Mq_Mo w (i_Mo w h)) hown hK hP 0 rfl rfl 51 (by decide) (hts _ (u_Mq_Mo _ k_Mo_58)) (fun _ h9 => h9) rfl d_Mo_isRoomy_80 ?_
        refine lv_iload_n hx hb d_Mo_isRoomy_83 rfl (lv_at hl 2 rfl) ?_
        refine lv_iconst (v := 0) hx hb d_Mo_isRoomy_84 (by decide) ?_
        obtain ⟨g_7, h⟩ := lf_gE h
        refine va_zast hx hb hK hP hD hS 21 20 rfl rfl g_7 d_Mo_isRoomy_85 (fun H locs hP hD hS => ?_)
        obtain ⟨S_8, eS_8, h⟩ := lf_lX h
        have hP := lx_newP eS_8 hP
        have hD := lx_newD eS_8 hD
        obtain ⟨x_9, ex_9, h⟩ := lf_lX h
        refine lv_iinc (v := x_9) (lv' := [(2, .int x_9), (0, .ref M.o), (1, .int y_1)]) hx hb d_Mo_isRoomy_86 hl (k := 2) rfl (by rw [ex_9]; rfl) (by decide) rfl (fun ls hl => ?_)
        refine lv_goto (tgt := 72) hx hb d_Mo_isRoomy_89 (by decide) ?_
        exact hr_72 y_1 x_9 S_8 _ _ _ h hP hD hS (lv_sub hl [1, 2, 0] rfl)
  have hB_4 : ∀ (k : Nat), ∀ (y_1 : Int32) (y_2 : Int32) (S : MS) (H : Heap) (locs : List Loc) (ls : Array Slot), f_Mo_isRoomy_4 K k y_1 y_2 S = some (r, S') → va_P (dC, dI) classes (wM M S) H → va_D A (wM M S) → va_S A s.heap H locs → lv_has ls 4 [(0, .ref M.o), (1, .int y_1), (2, .int y_2)] → W p l e ({ frames := 1, cells := 0, slots := 0, locals := 21 }) s m ([.ref M.o] : List Value).toArray below meth c H locs 0 0 Q (F0 m 4 ls []) := by
    intro k
    induction k with
    | zero => intro y_1 y_2 S H locs ls h; exact lf_no h
    | succ k hr_4 =>
      intro y_1 y_2 S H locs ls h hP hD hS hl
      rw [f_Mo_isRoomy_4] at h
      refine lv_iload_n hx hb d_Mo_isRoomy_4 rfl (lv_at hl 2 rfl) ?_
      refine lv_aload_n hx hb d_Mo_isRoomy_5 rfl (lv_at hl 0 rfl) ?_
      refine va_get (D := (dC, dI)) (ci := 12) (v := .int S.v_groups) (C := R_Mo) (T := F_Mo) (N := 66) hx hb hts (fun w h => u_Mq_Mo w (i_Mo w h)) hown hK hP 0 rfl rfl 46 (by decide) (hts _ (u_Mq_Mo _ k_Mo_53)) (fun _ h9 => h9) rfl d_Mo_isRoomy_6 ?_
      refine lv_icmp_ge (tgt := 64) hx hb d_Mo_isRoomy_9 (by decide) (fun c_1 => ?_) (fun c_1 => ?_)
      · have h := lf_t h c_1
        refine lv_iload_n hx hb d_Mo_isRoomy_64 rfl (lv_at hl 1 rfl) ?_
        refine lv_if_ne (tgt := 70) hx hb d_Mo_isRoomy_65 (by decide) (fun c_2 => ?_) (fun c_2 => ?_)
        · have h := lf_f h c_2
          refine lv_iconst (v := 0) hx hb d_Mo_isRoomy_70 (by decide) ?_
          refine lv_istore_n (lv' := [(2, .int 0), (0, .ref M.o), (1, .int y_1)]) hx hb d_Mo_isRoomy_71 rfl hl (by decide) rfl (fun ls hl => ?_)
          exact hB_72 K y_1 0 S _ _ _ h hP hD hS (lv_sub hl [1, 2, 0] rfl)
        · have h := lf_t h c_2
          refine lv_iconst (v := 0) hx hb d_Mo_isRoomy_68 (by decide) ?_
          rw [hQ]
          have e1 : (0 : Int32) = r := congrArg Prod.fst (Option.some.inj h)
          have e2 : S = S' := congrArg Prod.snd (Option.some.inj h)
          have hP := lx_newP e2.symm hP
          have hD := lx_newD e2.symm hD
          exact W.zret (v := 0) hx hb hr rfl (fun t ht hW => ⟨⟨0, (), rfl, e1, by rw [ht]; exact hP, va_K.moved hW.alike hK, hD⟩, hS.F ht⟩) hS.2.2 d_Mo_isRoomy_69
      · have h := lf_f h c_1
        refine lv_iload_n hx hb d_Mo_isRoomy_12 rfl (lv_at hl 1 rfl) ?_
        refine lv_if_eq (tgt := 56) hx hb d_Mo_isRoomy_13 (by decide) (fun c_3 => ?_) (fun c_3 => ?_)
        · have h := lf_t h c_3
          exact hB_56 _ hr_4 y_2 S _ _ _ h hP hD hS (lv_sub hl [0, 2] rfl)
        · have h := lf_f h c_3
          refine lv_aload_n hx hb d_Mo_isRoomy_16 rfl (lv_at hl 0 rfl) ?_
          refine lv_iload_n hx hb d_Mo_isRoomy_17 rfl (lv_at hl 2 rfl) ?_
          obtain ⟨r_4, S_4, hc_4, h⟩ := lf_cE h
          have hFc := lx_free hD hS hA
          refine va_calli (va_runV (As := [.int y_2]) (rest := []) ⟨hx, hb, hml, hown, hts⟩ (l_Mo_groupSize l dC dI X _ hc_4) (cwV 1 hts (gwV good_Mq (u_Mq_Mo _ k_Mo_373) (u_Mq_Mo _ k_Mo_374) (u_Mq_Mo _ k_Mo_529) (u_Mq_Mo _ k_Mo_0) (wcs (u_Mq_Mo _ k_Mo_375) (fun _ h => h))) rfl rfl rfl (by decide +kernel) ⟨Nat.le_of_ble_eq_true rfl, Nat.le_of_ble_eq_true rfl⟩) (pv_ofE X.same (hEw _ _ hS) hP hK hD (va_recv hK hP (ci := 12) (q0 := 0) rfl rfl)) rfl rfl hl.1 rfl (lv_room (Nat.le_of_ble_eq_true rfl)) d_Mo_isRoomy_18 ⟨by decide, by decide⟩) hS (fun q _ h => hFc q h) hFc (fun r_ u t H locs ht hvm hw hB hz1 hk1 hS => ?_)
          rw [hw]
          obtain ⟨hP, -, hD⟩ := hB
          rw [ht] at hP
          have hD := lx_dj hD hFc
          refine lv_iload_n hx hb d_Mo_isRoomy_21 rfl (lv_at hl 2 rfl) ?_
          refine lv_if_ne (tgt := 42) hx hb d_Mo_isRoomy_22 (by decide) (fun c_5 => ?_) (fun c_5 => ?_)
          · have h := lf_f h c_5
            refine lv_aload_n hx hb d_Mo_isRoomy_42 rfl (lv_at hl 0 rfl) ?_
            refine va_get (D := (dC, dI)) (ci := 12) (v := .int S_4.v_rows) (C := R_Mo) (T := F_Mo) (N := 66) hx hb hts (fun w h => u_Mq_Mo w (i_Mo w h)) hown hK hP 0 rfl rfl 49 (by decide) (hts _ (u_Mq_Mo _ k_Mo_56)) (fun _ h9 => h9) rfl d_Mo_isRoomy_43 ?_
            refine lv_bipush (v := 12) hx hb d_Mo_isRoomy_46 (by decide) ?_
            refine lv_iadd hx hb d_Mo_isRoomy_48 ?_
            exact hB_49 _ hr_4 y_2 r_4 (S_4.v_rows + 12) S_4 _ _ _ h hP hD hS (lv_sub hl [0, 2] rfl)
          · have h := lf_t h c_5
            refine lv_aload_n hx hb d_Mo_isRoomy_25 rfl (lv_at hl 0 rfl) ?_
            refine va_get (D := (dC, dI)) (ci := 12) (v := .int S_4.v_a) (C := R_Mo) (T := F_Mo) (N := 66) hx hb hts (fun w h => u_Mq_Mo w (i_Mo w h)) hown hK hP 0 rfl rfl 16 (by decide) (hts _ (u_Mq_Mo _ k_Mo_23)) (fun _ h9 => h9) rfl d_Mo_isRoomy_26 ?_
            refine lv_iconst (v := 2) hx hb d_Mo_isRoomy_29 (by decide) ?_
            refine lv_idiv hx hb d_Mo_isRoomy_30 (by decide) ?_
            refine lv_aload_n hx hb d_Mo_isRoomy_31 rfl (lv_at hl 0 rfl) ?_
            refine va_get (D := (dC, dI)) (ci := 12) (v := .int S_4.v_rows) (C := R_Mo) (T := F_Mo) (N := 66) hx hb hts (fun w h => u_Mq_Mo w (i_Mo w h)) hown hK hP 0 rfl rfl 49 (by decide) (hts _ (u_Mq_Mo _ k_Mo_56)) (fun _ h9 => h9) rfl d_Mo_isRoomy_32 ?_
            refine lv_iadd hx hb d_Mo_isRoomy_35 ?_
            refine lv_bipush (v := 9) hx hb d_Mo_isRoomy_36 (by decide) ?_
            refine lv_iadd hx hb d_Mo_isRoomy_38 ?_
            refine lv_goto (tgt := 49) hx hb d_Mo_isRoomy_39 (by decide) ?_
            exact hB_49 _ hr_4 y_2 r_4 (((S_4.v_a / 2) + S_4.v_rows) + 9) S_4 _ _ _ h hP hD hS (lv_sub hl [0, 2] rfl)
  rw [f_Mo_isRoomy] at h
  refine lv_iconst (v := 1) hx hb d_Mo_isRoomy_0 (by decide) ?_
  refine lv_istore_n (lv' := [(1, .int 1), (0, .ref M.o)]) hx hb d_Mo_isRoomy_1 rfl hl (by decide) rfl (fun ls hl => ?_)
  refine lv_iconst (v := 0) hx hb d_Mo_isRoomy_2 (by decide) ?_
  refine lv_istore_n (lv' := [(2, .int 0), (1, .int 1), (0, .ref M.o)]) hx hb d_Mo_isRoomy_3 rfl hl (by decide) rfl (fun ls hl => ?_)
  exact hB_4 K 1 0 S _ _ _ h hP hD hS (lv_sub hl [2, 1, 0] rfl)
set_option maxHeartbeats 4000000 in
set_option maxRecDepth 100000 in
theorem l_Mo_isFixed (l : Launch) (dC : Nat → ClassId) (dI : Nat → Nat → Nat) {K : Nat} {M : MA} {E : State → Prop} (X : lx_X l dC dI K M E) (sz : Nat) {S S' : MS} {p0 : Int32} {r : Int32} (h : f_Mo_isFixed K S p0 = some (r, S')) : Met l y_Mo_isFixed (.code y_Mo_isFixed b_Mo_isFixed 4 (some .boolean) :: V_Mq) ({ frames := 0, cells := 0, slots := 0, locals := 0 }) (va_Pc [.ref M.o, .int p0] (fun U => U.heap.size = sz ∧ at_ (dC, dI) (fun _ => True) (wM M S) (tM M) U ∧ E U)) (va_Qi (fun (r_ : Int32) (u : Unit) => r_ = r) (fun (u : Unit) t => at_ (dC, dI) (va_A (wM M S) sz) (wM M S') (tM M) t) (va_A (wM M S) sz)) 0 0 (va_A (wM M S) sz) := by
  refine Met.ofW (cc := b_Mo_isFixed) (maxL := 4) (ret := (some .boolean)) (by decide) rfl ?_
  intro p e s m args below meth c s₁ B hml hv
  obtain ⟨rfl, hsz, ⟨hP, hK, hD0⟩, hE⟩ := hv
  have hx := B.exec
  have hb := B.bytes
  have hr := B.returns
  have hts0 := atoms_spec (ws := .code y_Mo_isFixed b_Mo_isFixed 4 (some .boolean) :: V_Mq) B.pre
  have hts : ∀ w ∈ V_Mq, w.before ([.ref M.o, .int p0] : List Value).toArray s = true := fun w h => hts0 w (List.mem_cons_of_mem _ h)
  have hown : s.vm.findClass R_Mo = some m.cls := findClass_of_methodNamed B.named
  subst hsz
  have hD := hD0.self (sz := s.heap.size)
  generalize hAe : va_A (wM M S) s.heap.size = A at hD ⊢
  have hA : ∀ q : Nat, s.heap.size ≤ q → A q := fun q h => by rw [← hAe]; exact Or.inr h
  have hS : va_S A s.heap s.heap [] := va_S.rf
  have hP : va_P (dC, dI) classes (wM M S) s.heap := hP
  have hK : va_K (dC, dI) classes (tM M) s := hK
  have hEw : ∀ (H : Heap) (locs : List Loc), va_S A s.heap H locs → ∀ U : State, U.heap = H → s.WarmedH U.vm → E U := fun H locs hS U hU hW => lx_kept X hE hAe hS hU hW
  have hl := lv_entry ([.ref M.o, .int p0]) (n := 4) (Nat.le_of_ble_eq_true rfl)
  rw [lg_entry_eq]
  generalize (lg_sl ([.ref M.o, .int p0]) ++ List.replicate (4 - (lg_sl ([.ref M.o, .int p0])).length) Slot.unset).toArray = ls at hl ⊢
  have hl : lv_has ls 4 [(0, .ref M.o), (1, .int p0)] := hl
  refine qabs (fun Q hQ => ?_)
  have hB_50 : ∀ (rec_4 : Int32 → Int32 → Int32 → MS → Option (Int32 × MS)) (hr_4 : ∀ (y_1 : Int32) (y_2 : Int32) (y_3 : Int32) (S : MS) (H : Heap) (locs : List Loc) (ls : Array Slot), rec_4 y_1 y_2 y_3 S = some (r, S') → va_P (dC, dI) classes (wM M S) H → va_D A (wM M S) → va_S A s.heap H locs → lv_has ls 4 [(0, .ref M.o), (1, .int y_1), (2, .int y_2), (3, .int y_3)] → W p l e ({ frames := 0, cells := 0, slots := 0, locals := 0 }) s m ([.ref M.o, .int p0] : List Value).toArray below meth c H locs 0 0 Q (F0 m 4 ls [])), ∀ (y_1 : Int32) (y_3 : Int32) (z_0 : Int32) (S : MS) (H : Heap) (locs : List Loc) (ls : Array Slot), f_Mo_isFixed_50 K rec_4 y_1 y_3 z_0 S = some (r, S') → va_P (dC, dI) classes (wM M S) H → va_D A (wM M S) → va_S A s.heap H locs → lv_has ls 4 [(0, .ref M.o), (1, .int y_1), (3, .int y_3)] → W p l e ({ frames := 0, cells := 0, slots := 0, locals := 0 }) s m ([.ref M.o, .int p0] : List Value).toArray below meth c H locs 0 0 Q (F0 m 50 ls [.int z_0]) := by
    intro rec_4 hr_4 y_1 y_3 z_0 S H locs ls h hP hD hS hl
    rw [f_Mo_isFixed_50] at h
    refine lv_istore_n (lv' := [(2, .int z_0), (0, .ref M.o), (1, .int y_1), (3, .int y_3)]) hx hb d_Mo_isFixed_50 rfl hl (by decide) rfl (fun ls hl => ?_)
    obtain ⟨x_6, ex_6, h⟩ := lf_lX h
    refine lv_iinc (v := x_6) (lv' := [(3, .int x_6), (2, .int z_0), (0, .ref M.o), (1, .int y_1)]) hx hb d_Mo_isFixed_51 hl (k := 3) rfl (by rw [ex_6]; rfl) (by decide) rfl (fun ls hl => ?_)
    refine lv_goto (tgt := 4) hx hb d_Mo_isFixed_54 (by decide) ?_
    exact hr_4 y_1 z_0 x_6 S _ _ _ h hP hD hS (lv_sub hl [2, 3, 1, 0] rfl)
  have hB_45 : ∀ (rec_4 : Int32 → Int32 → Int32 → MS → Option (Int32 × MS)) (hr_4 : ∀ (y_1 : Int32) (y_2 : Int32) (y_3 : Int32) (S : MS) (H : Heap) (locs : List Loc) (ls : Array Slot), rec_4 y_1 y_2 y_3 S = some (r, S') → va_P (dC, dI) classes (wM M S) H → va_D A (wM M S) → va_S A s.heap H locs → lv_has ls 4 [(0, .ref M.o), (1, .int y_1), (2, .int y_2), (3, .int y_3)] → W p l e ({ frames := 0, cells := 0, slots := 0, locals := 0 }) s m ([.ref M.o, .int p0] : List Value).toArray below meth c H locs 0 0 Q (F0 m 4 ls [])), ∀ (y_1 : Int32) (y_3 : Int32) (S : MS) (H : Heap) (locs : List Loc) (ls : Array Slot), f_Mo_isFixed_45 K rec_4 y_1 y_3 S = some (r, S') → va_P (dC, dI) classes (wM M S) H → va_D A (wM M S) → va_S A s.heap H locs → lv_has ls 4 [(0, .ref M.o), (1, .int y_1), (3, .int y_3)] → W p l e ({ frames := 0, cells := 0, slots := 0, locals := 0 }) s m ([.ref M.o, .int p0] : List Value).toArray below meth c H locs 0 0 Q (F0 m 45 ls []) := by
    intro rec_4 hr_4 y_1 y_3 S H locs ls h hP hD hS hl
    rw [f_Mo_isFixed_45] at h
    refine lv_iconst (v := 1) hx hb d_Mo_isFixed_45 (by decide) ?_
    refine lv_goto (tgt := 50) hx hb d_Mo_isFixed_46 (by decide) ?_
    exact hB_50 _ hr_4 y_1 y_3 1 S _ _ _ h hP hD hS (lv_sub hl [0, 1, 2] rfl)
  have hB_4 : ∀ (k : Nat), ∀ (y_1 : Int32) (y_2 : Int32) (y_3 : Int32) (S : MS) (H : Heap) (locs : List Loc) (ls : Array Slot), f_Mo_isFixed_4 K k y_1 y_2 y_3 S = some (r, S') → va_P (dC, dI) classes (wM M S) H → va_D A (wM M S) → va_S A s.heap H locs → lv_has ls 4 [(0, .ref M.o), (1, .int y_1), (2, .int y_2), (3, .int y_3)] → W p l e ({ frames := 0, cells := 0, slots := 0, locals := 0 }) s m ([.ref M.o, .int p0] : List Value).toArray below meth c H locs 0 0 Q (F0 m 4 ls []) := by
    intro k
    induction k with
    | zero => intro y_1 y_2 y_3 S H locs ls h; exact lf_no h
    | succ k hr_4 =>
      intro y_1 y_2 y_3 S H locs ls h hP hD hS hl
      rw [f_Mo_isFixed_4] at h
      refine lv_iload_n hx hb d_Mo_isFixed_4 rfl (lv_at hl 3 rfl) ?_
      refine lv_aload_n hx hb d_Mo_isFixed_5 rfl (lv_at hl 0 rfl) ?_
      refine va_get (D := (dC, dI)) (ci := 12) (v := .int S.v_c) (C := R_Mo) (T := F_Mo) (N := 66) hx hb hts (fun w h => u_Mq_Mo w (i_Mo w h)) hown hK hP 0 rfl rfl 11 (by decide) (hts _ (u_Mq_Mo _ k_Mo_18)) (fun _ h9 => h9) rfl d_Mo_isFixed_6 ?_
      refine lv_iconst (v := 2) hx hb d_Mo_isFixed_9 (by decide) ?_
      refine lv_idiv hx hb d_Mo_isFixed_10 (by decide) ?_
      refine lv_icmp_ge (tgt := 57) hx hb d_Mo_isFixed_11 (by decide) (fun c_1 => ?_) (fun c_1 => ?_)
      · have h := lf_t h c_1
        refine lv_iload_n hx hb d_Mo_isFixed_57 rfl (lv_at hl 2 rfl) ?_
        obtain ⟨g_2, h⟩ := lf_gE h
        rw [hQ]
        have e1 : y_2 = r := congrArg Prod.fst (Option.some.inj h)
        have e2 : S = S' := congrArg Prod.snd (Option.some.inj h)
        have hP := lx_newP e2.symm hP
        have hD := lx_newD e2.symm hD
        exact W.zret (v := y_2) hx hb hr (lf_nz g_2) (fun t ht hW => ⟨⟨y_2, (), rfl, e1, by rw [ht]; exact hP, va_K.moved hW.alike hK, hD⟩, hS.F ht⟩) hS.2.2 d_Mo_isFixed_58
      · have h := lf_f h c_1
        refine lv_iload_n hx hb d_Mo_isFixed_14 rfl (lv_at hl 2 rfl) ?_
        refine lv_if_ne (tgt := 45) hx hb d_Mo_isFixed_15 (by decide) (fun c_3 => ?_) (fun c_3 => ?_)
        · have h := lf_f h c_3
          exact hB_45 _ hr_4 y_1 y_3 S _ _ _ h hP hD hS (lv_sub hl [0, 1, 3] rfl)
        · have h := lf_t h c_3
          refine lv_aload_n hx hb d_Mo_isFixed_18 rfl (lv_at hl 0 rfl) ?_
          refine va_get (D := (dC, dI)) (ci := 12) (v := .ref M.a_fixed) (C := R_Mo) (T := F_Mo) (N := 66) hx hb hts (fun w h => u_Mq_Mo w (i_Mo w h)) hown hK hP 0 rfl rfl 51 (by decide) (hts _ (u_Mq_Mo _ k_Mo_58)) (fun _ h9 => h9) rfl d_Mo_isFixed_19 ?_
          refine lv_aload_n hx hb d_Mo_isFixed_22 rfl (lv_at hl 0 rfl) ?_
          refine va_get (D := (dC, dI)) (ci := 12) (v := .int S.v_a) (C := R_Mo) (T := F_Mo) (N := 66) hx hb hts (fun w h => u_Mq_Mo w (i_Mo w h)) hown hK hP 0 rfl rfl 16 (by decide) (hts _ (u_Mq_Mo _ k_Mo_23)) (fun _ h9 => h9) rfl d_Mo_isFixed_23 ?_
          refine lv_iconst (v := 2) hx hb d_Mo_isFixed_26 (by decide) ?_
          refine lv_idiv hx hb d_Mo_isFixed_27 (by decide) ?_
          refine lv_iload_n hx hb d_Mo_isFixed_28 rfl (lv_at hl 1 rfl) ?_
          refine lv_iconst (v := 2) hx hb d_Mo_isFixed_29 (by decide) ?_
          refine lv_isub hx hb d_Mo_isFixed_30 ?_
          refine lv_aload_n hx hb d_Mo_isFixed_31 rfl (lv_at hl 0 rfl) ?_
          refine va_get (D := (dC, dI)) (ci := 12) (v := .int S.v_c) (C := R_Mo) (T := F_Mo) (N := 66) hx hb hts (fun w h => u_Mq_Mo w (i_Mo w h)) hown hK hP 0 rfl rfl 11 (by decide) (hts _ (u_Mq_Mo _ k_Mo_18)) (fun _ h9 => h9) rfl d_Mo_isFixed_32 ?_
          refine lv_iconst (v := 2) hx hb d_Mo_isFixed_35 (by decide) ?_
          refine lv_idiv hx hb d_Mo_isFixed_36 (by decide) ?_
          refine lv_imul hx hb d_Mo_isFixed_37 ?_
          refine lv_iadd hx hb d_Mo_isFixed_38 ?_
          refine lv_iload_n hx hb d_Mo_isFixed_39 rfl (lv_at hl 3 rfl) ?_
          refine lv_iadd hx hb d_Mo_isFixed_40 ?_
          obtain ⟨g_4, h⟩ := lf_gE h
          refine va_zald hx hb hK hP 21 20 rfl rfl g_4 d_Mo_isFixed_41 ?_
          refine lv_if_eq (tgt := 49) hx hb d_Mo_isFixed_42 (by decide) (fun c_5 => ?_) (fun c_5 => ?_)
          · have h := lf_t h c_5
            refine lv_iconst (v := 0) hx hb d_Mo_isFixed_49 (by decide) ?_
            exact hB_50 _ hr_4 y_1 y_3 0 S _ _ _ h hP hD hS (lv_sub hl [0, 1, 3] rfl)
          · have h := lf_f h c_5
            exact hB_45 _ hr_4 y_1 y_3 S _ _ _ h hP hD hS (lv_sub hl [0, 1, 3] rfl)
  rw [f_Mo_isFixed] at h
  refine lv_iconst (v := 0) hx hb d_Mo_isFixed_0 (by decide) ?_
  refine lv_istore_n (lv' := [(2, .int 0), (0, .ref M.o), (1, .int p0)]) hx hb d_Mo_isFixed_1 rfl hl (by decide) rfl (fun ls hl => ?_)
  refine lv_iconst (v := 0) hx hb d_Mo_isFixed_2 (by decide) ?_
  refine lv_istore_n (lv' := [(3, .int 0), (2, .int 0), (0, .ref M.o), (1, .int p0)]) hx hb d_Mo_isFixed_3 rfl hl (by decide) rfl (fun ls hl => ?_)
  exact hB_4 K p0 0 0 S _ _ _ h hP hD hS (lv_sub hl [2, 3, 1, 0] rfl)
set_option maxHeartbeats 4000000 in
set_option maxRecDepth 100000 in
theorem l_Mo_badTimes (l : Launch) (dC : Nat → ClassId) (dI : Nat → Nat → Nat) {K : Nat} {M : MA} {E : State → Prop} (X : lx_X l dC dI K M E) (sz : Nat) {S S' : MS} {r : Int32} (h : f_Mo_badTimes K S = some (r, S')) : Met l y_Mo_badTimes (.code y_Mo_badTimes b_Mo_badTimes 4 (some .boolean) :: V_Mq) ({ frames := 4, cells := 0, slots := 0, locals := 90 }) (va_Pc [.ref M.o] (fun U => U.heap.size = sz ∧ at_ (dC, dI) (fun _ => True) (wM M S) (tM M) U ∧ E U)) (va_Qi (fun (r_ : Int32) (u : Unit) => r_ = r) (fun (u : Unit) t => at_ (dC, dI) (va_A (wM M S) sz) (wM M S') (tM M) t) (va_A (wM M S) sz)) 0 0 (va_A (wM M S) sz) := by
  refine Met.ofW (cc := b_Mo_badTimes) (maxL := 4) (ret := (some .boolean)) (by decide) rfl ?_
  intro p e s m args below meth c s₁ B hml hv
  obtain ⟨rfl, hsz, ⟨hP, hK, hD0⟩, hE⟩ := hv
  have hx := B.exec
  have hb := B.bytes
  have hr := B.returns
  have hts0 := atoms_spec (ws := .code y_Mo_badTimes b_Mo_badTimes 4 (some .boolean) :: V_Mq) B.pre
  have hts : ∀ w ∈ V_Mq, w.before ([.ref M.o] : List Value).toArray s = true := fun w h => hts0 w (List.mem_cons_of_mem _ h)
  have hown : s.vm.findClass R_Mo = some m.cls := findClass_of_methodNamed B.named
  subst hsz
  have hD := hD0.self (sz := s.heap.size)
  generalize hAe : va_A (wM M S) s.heap.size = A at hD ⊢
  have hA : ∀ q : Nat, s.heap.size ≤ q → A q := fun q h => by rw [← hAe]; exact Or.inr h
  have hS : va_S A s.heap s.heap [] := va_S.rf
  have hP : va_P (dC, dI) classes (wM M S) s.heap := hP
  have hK : va_K (dC, dI) classes (tM M) s := hK
  have hEw : ∀ (H : Heap) (locs : List Loc), va_S A s.heap H locs → ∀ U : State, U.heap = H → s.WarmedH U.vm → E U := fun H locs hS U hU hW => lx_kept X hE hAe hS hU hW
  have hl := lv_entry ([.ref M.o]) (n := 4) (Nat.le_of_ble_eq_true rfl)
  rw [lg_entry_eq]
  generalize (lg_sl ([.ref M.o]) ++ List.replicate (4 - (lg_sl ([.ref M.o])).length) Slot.unset).toArray = ls at hl ⊢
  have hl : lv_has ls 4 [(0, .ref M.o)] := hl
  refine qabs (fun Q hQ => ?_)
  have hB_41 : ∀ (rec_4 : Int32 → Int32 → MS → Option (Int32 × MS)) (hr_4 : ∀ (y_1 : Int32) (y_2 : Int32) (S : MS) (H : Heap) (locs : List Loc) (ls : Array Slot), rec_4 y_1 y_2 S = some (r, S') → va_P (dC, dI) classes (wM M S) H → va_D A (wM M S) → va_S A s.heap H locs → lv_has ls 4 [(0, .ref M.o), (1, .int y_1), (2, .int y_2)] → W p l e ({ frames := 4, cells := 0, slots := 0, locals := 90 }) s m ([.ref M.o] : List Value).toArray below meth c H locs 0 0 Q (F0 m 4 ls [])) (rec_14 : Int32 → Int32 → Int32 → MS → Option (Int32 × MS)) (hr_14 : ∀ (y_1 : Int32) (y_2 : Int32) (y_3 : Int32) (S : MS) (H : Heap) (locs : List Loc) (ls : Array Slot), rec_14 y_1 y_2 y_3 S = some (r, S') → va_P (dC, dI) classes (wM M S) H → va_D A (wM M S) → va_S A s.heap H locs → lv_has ls 4 [(0, .ref M.o), (1, .int y_1), (2, .int y_2), (3, .int y_3)] → W p l e ({ frames := 4, cells := 0, slots := 0, locals := 90 }) s m ([.ref M.o] : List Value).toArray below meth c H locs 0 0 Q (F0 m 14 ls [])), ∀ (y_2 : Int32) (y_3 : Int32) (z_0 : Int32) (S : MS) (H : Heap) (locs : List Loc) (ls : Array Slot), f_Mo_badTimes_41 K rec_4 rec_14 y_2 y_3 z_0 S = some (r, S') → va_P (dC, dI) classes (wM M S) H → va_D A (wM M S) → va_S A s.heap H locs → lv_has ls 4 [(0, .ref M.o), (2, .int y_2), (3, .int y_3)] → W p l e ({ frames := 4, cells := 0, slots := 0, locals := 90 }) s m ([.ref M.o] : List Value).toArray below meth c H locs 0 0 Q (F0 m 41 ls [.int z_0]) := by
    intro rec_4 hr_4 rec_14 hr_14 y_2 y_3 z_0 S H locs ls h hP hD hS hl
    rw [f_Mo_badTimes_41] at h
    refine lv_istore_n (lv' := [(1, .int z_0), (0, .ref M.o), (2, .int y_2), (3, .int y_3)]) hx hb d_Mo_badTimes_41 rfl hl (by decide) rfl (fun ls hl => ?_)
    obtain ⟨x_8, ex_8, h⟩ := lf_lX h
    refine lv_iinc (v := x_8) (lv' := [(3, .int x_8), (1, .int z_0), (0, .ref M.o), (2, .int y_2)]) hx hb d_Mo_badTimes_42 hl (k := 3) rfl (by rw [ex_8]; rfl) (by decide) rfl (fun ls hl => ?_)
    refine lv_goto (tgt := 14) hx hb d_Mo_badTimes_45 (by decide) ?_
    exact hr_14 z_0 y_2 x_8 S _ _ _ h hP hD hS (lv_sub hl [2, 1, 3, 0] rfl)
  have hB_36 : ∀ (rec_4 : Int32 → Int32 → MS → Option (Int32 × MS)) (hr_4 : ∀ (y_1 : Int32) (y_2 : Int32) (S : MS) (H : Heap) (locs : List Loc) (ls : Array Slot), rec_4 y_1 y_2 S = some (r, S') → va_P (dC, dI) classes (wM M S) H → va_D A (wM M S) → va_S A s.heap H locs → lv_has ls 4 [(0, .ref M.o), (1, .int y_1), (2, .int y_2)] → W p l e ({ frames := 4, cells := 0, slots := 0, locals := 90 }) s m ([.ref M.o] : List Value).toArray below meth c H locs 0 0 Q (F0 m 4 ls [])) (rec_14 : Int32 → Int32 → Int32 → MS → Option (Int32 × MS)) (hr_14 : ∀ (y_1 : Int32) (y_2 : Int32) (y_3 : Int32) (S : MS) (H : Heap) (locs : List Loc) (ls : Array Slot), rec_14 y_1 y_2 y_3 S = some (r, S') → va_P (dC, dI) classes (wM M S) H → va_D A (wM M S) → va_S A s.heap H locs → lv_has ls 4 [(0, .ref M.o), (1, .int y_1), (2, .int y_2), (3, .int y_3)] → W p l e ({ frames := 4, cells := 0, slots := 0, locals := 90 }) s m ([.ref M.o] : List Value).toArray below meth c H locs 0 0 Q (F0 m 14 ls [])), ∀ (y_2 : Int32) (y_3 : Int32) (S : MS) (H : Heap) (locs : List Loc) (ls : Array Slot), f_Mo_badTimes_36 K rec_4 rec_14 y_2 y_3 S = some (r, S') → va_P (dC, dI) classes (wM M S) H → va_D A (wM M S) → va_S A s.heap H locs → lv_has ls 4 [(0, .ref M.o), (2, .int y_2), (3, .int y_3)] → W p l e ({ frames := 4, cells := 0, slots := 0, locals := 90 }) s m ([.ref M.o] : List Value).toArray below meth c H locs 0 0 Q (F0 m 36 ls []) := by
    intro rec_4 hr_4 rec_14 hr_14 y_2 y_3 S H locs ls h hP hD hS hl
    rw [f_Mo_badTimes_36] at h
    refine lv_iconst (v := 1) hx hb d_Mo_badTimes_36 (by decide) ?_
    refine lv_goto (tgt := 41) hx hb d_Mo_badTimes_37 (by decide) ?_
    exact hB_41 _ hr_4 _ hr_14 y_2 y_3 1 S _ _ _ h hP hD hS (lv_sub hl [0, 1, 2] rfl)
  have hB_14 : ∀ (rec_4 : Int32 → Int32 → MS → Option (Int32 × MS)) (hr_4 : ∀ (y_1 : Int32) (y_2 : Int32) (S : MS) (H : Heap) (locs : List Loc) (ls : Array Slot), rec_4 y_1 y_2 S = some (r, S') → va_P (dC, dI) classes (wM M S) H → va_D A (wM M S) → va_S A s.heap H locs → lv_has ls 4 [(0, .ref M.o), (1, .int y_1), (2, .int y_2)] → W p l e ({ frames := 4, cells := 0, slots := 0, locals := 90 }) s m ([.ref M.o] : List Value).toArray below meth c H locs 0 0 Q (F0 m 4 ls [])) (k : Nat), ∀ (y_1 : Int32) (y_2 : Int32) (y_3 : Int32) (S : MS) (H : Heap) (locs : List Loc) (ls : Array Slot), f_Mo_badTimes_14 K rec_4 k y_1 y_2 y_3 S = some (r, S') → va_P (dC, dI) classes (wM M S) H → va_D A (wM M S) → va_S A s.heap H locs → lv_has ls 4 [(0, .ref M.o), (1, .int y_1), (2, .int y_2), (3, .int y_3)] → W p l e ({ frames := 4, cells := 0, slots := 0, locals := 90 }) s m ([.ref M.o] : List Value).toArray below meth c H locs 0 0 Q (F0 m 14 ls []) := by
    intro rec_4 hr_4 k
    induction k with
    | zero => intro y_1 y_2 y_3 S H locs ls h; exact lf_no h
    | succ k hr_14 =>
      intro y_1 y_2 y_3 S H locs ls h hP hD hS hl
      rw [f_Mo_badTimes_14] at h
      refine lv_iload_n hx hb d_Mo_badTimes_14 rfl (lv_at hl 3 rfl) ?_
      refine lv_iconst (v := 3) hx hb d_Mo_badTimes_15 (by decide) ?_
      refine lv_icmp_ge (tgt := 48) hx hb d_Mo_badTimes_16 (by decide) (fun c_3 => ?_) (fun c_3 => ?_)
      · have h := lf_t h c_3
        obtain ⟨x_4, ex_4, h⟩ := lf_lX h
        refine lv_iinc (v := x_4) (lv' := [(2, .int x_4), (0, .ref M.o), (1, .int y_1), (3, .int y_3)]) hx hb d_Mo_badTimes_48 hl (k := 2) rfl (by rw [ex_4]; rfl) (by decide) rfl (fun ls hl => ?_)
        refine lv_goto (tgt := 4) hx hb d_Mo_badTimes_51 (by decide) ?_
        exact hr_4 y_1 x_4 S _ _ _ h hP hD hS (lv_sub hl [1, 2, 0] rfl)
      · have h := lf_f h c_3
        refine lv_iload_n hx hb d_Mo_badTimes_19 rfl (lv_at hl 1 rfl) ?_
        refine lv_if_ne (tgt := 36) hx hb d_Mo_badTimes_20 (by decide) (fun c_5 => ?_) (fun c_5 => ?_)
        · have h := lf_f h c_5
          exact hB_36 _ hr_4 _ hr_14 y_2 y_3 S _ _ _ h hP hD hS (lv_sub hl [0, 2, 3] rfl)
        · have h := lf_t h c_5
          refine lv_aload_n hx hb d_Mo_badTimes_23 rfl (lv_at hl 0 rfl) ?_
          refine lv_iload_n hx hb d_Mo_badTimes_24 rfl (lv_at hl 2 rfl) ?_
          refine lv_iload_n hx hb d_Mo_badTimes_25 rfl (lv_at hl 3 rfl) ?_
          obtain ⟨r_6, S_6, hc_6, h⟩ := lf_cE h
          have hFc := lx_free hD hS hA
          refine va_calll (va_runV (As := [.int y_2, .int y_3]) (rest := []) ⟨hx, hb, hml, hown, hts⟩ (l_Mo_timeOf l dC dI X _ hc_6) (cwV 2 hts (gwV good_Mq (u_Mq_Mo _ k_Mo_278) (u_Mq_Mo _ k_Mo_279) (u_Mq_Mo _ k_Mo_514) (u_Mq_Mo _ k_Mo_0) (wcs (u_Mq_Mo _ k_Mo_280) (fun _ h => h))) rfl rfl rfl (by decide +kernel) ⟨Nat.le_of_ble_eq_true rfl, Nat.le_of_ble_eq_true rfl⟩) (pv_ofE X.same (hEw _ _ hS) hP hK hD (va_recv hK hP (ci := 12) (q0 := 0) rfl rfl)) rfl rfl hl.1 rfl (lv_room (Nat.le_of_ble_eq_true rfl)) d_Mo_badTimes_26 ⟨by decide, by decide⟩) hS (fun q _ h => hFc q h) hFc (fun r_ u t H locs ht hvm hw hB hz1 hk1 hS => ?_)
          rw [hw]
          obtain ⟨hP, -, hD⟩ := hB
          rw [ht] at hP
          have hD := lx_dj hD hFc
          refine lv_ldc2 (v := 4294967295) hx hb hown (hts _ (u_Mq_Mo _ k_Mo_229)) d_Mo_badTimes_29 ?_
          refine W.lcmp hx hb d_Mo_badTimes_32 ?_
          refine lv_if_le (tgt := 40) hx hb d_Mo_badTimes_33 (by decide) (fun c_7 => ?_) (fun c_7 => ?_)
          · have h := lf_t h c_7
            refine lv_iconst (v := 0) hx hb d_Mo_badTimes_40 (by decide) ?_
            exact hB_41 _ hr_4 _ hr_14 y_2 y_3 0 S_6 _ _ _ h hP hD hS (lv_sub hl [0, 2, 3] rfl)
          · have h := lf_f h c_7
            exact hB_36 _ hr_4 _ hr_14 y_2 y_3 S_6 _ _ _ h hP hD hS (lv_sub hl [0, 2, 3] rfl)
  have hB_4 : ∀ (k : Nat), ∀ (y_1 : Int32) (y_2 : Int32) (S : MS) (H : Heap) (locs : List Loc) (ls : Array Slot), f_Mo_badTimes_4 K k y_1 y_2 S = some (r, S') → va_P (dC, dI) classes (wM M S) H → va_D A (wM M S) → va_S A s.heap H locs → lv_has ls 4 [(0, .ref M.o), (1, .int y_1), (2, .int y_2)] → W p l e ({ frames := 4, cells := 0, slots := 0, locals := 90 }) s m ([.ref M.o] : List Value).toArray below meth c H locs 0 0 Q (F0 m 4 ls []) := by
    intro k
    induction k with
    | zero => intro y_1 y_2 S H locs ls h; exact lf_no h
    | succ k hr_4 =>
      intro y_1 y_2 S H locs ls h hP hD hS hl
      rw [f_Mo_badTimes_4] at h
      refine lv_iload_n hx hb d_Mo_badTimes_4 rfl (lv_at hl 2 rfl) ?_
      refine lv_aload_n hx hb d_Mo_badTimes_5 rfl (lv_at hl 0 rfl) ?_
      refine va_get (D := (dC, dI)) (ci := 12) (v := .int S.v_items) (C := R_Mo) (T := F_Mo) (N := 66) hx hb hts (fun w h => u_Mq_Mo w (i_Mo w h)) hown hK hP 0 rfl rfl 21 (by decide) (hts _ (u_Mq_Mo _ k_Mo_28)) (fun _ h9 => h9) rfl d_Mo_badTimes_6 ?_
      refine lv_icmp_ge (tgt := 54) hx hb d_Mo_badTimes_9 (by decide) (fun c_1 => ?_) (fun c_1 => ?_)
      · have h := lf_t h c_1
        refine lv_iload_n hx hb d_Mo_badTimes_54 rfl (lv_at hl 1 rfl) ?_
        obtain ⟨g_2, h⟩ := lf_gE h
        rw [hQ]
        have e1 : y_1 = r := congrArg Prod.fst (Option.some.inj h)
        have e2 : S = S' := congrArg Prod.snd (Option.some.inj h)
        have hP := lx_newP e2.symm hP
        have hD := lx_newD e2.symm hD
        exact W.zret (v := y_1) hx hb hr (lf_nz g_2) (fun t ht hW => ⟨⟨y_1, (), rfl, e1, by rw [ht]; exact hP, va_K.moved hW.alike hK, hD⟩, hS.F ht⟩) hS.2.2 d_Mo_badTimes_55
      · have h := lf_f h c_1
        refine lv_iconst (v := 0) hx hb d_Mo_badTimes_12 (by decide) ?_
        refine lv_istore_n (lv' := [(3, .int 0), (0, .ref M.o), (1, .int y_1), (2, .int y_2)]) hx hb d_Mo_badTimes_13 rfl hl (by decide) rfl (fun ls hl => ?_)
        exact hB_14 _ hr_4 K y_1 y_2 0 S _ _ _ h hP hD hS (lv_sub hl [1, 2, 3, 0] rfl)
  rw [f_Mo_badTimes] at h
  refine lv_iconst (v := 0) hx hb d_Mo_badTimes_0 (by decide) ?_
  refine lv_istore_n (lv' := [(1, .int 0), (0, .ref M.o)]) hx hb d_Mo_badTimes_1 rfl hl (by decide) rfl (fun ls hl => ?_)
  refine lv_iconst (v := 1) hx hb d_Mo_badTimes_2 (by decide) ?_
  refine lv_istore_n (lv' := [(2, .int 1), (1, .int 0), (0, .ref M.o)]) hx hb d_Mo_badTimes_3 rfl hl (by decide) rfl (fun ls hl => ?_)
  exact hB_4 K 0 1 S _ _ _ h hP hD hS (lv_sub hl [2, 1, 0] rfl)
set_option maxHeartbeats 4000000 in
set_option maxRecDepth 100000 in
theorem l_Mo_finds (l : Launch) (dC : Nat → ClassId) (dI : Nat → Nat → Nat) {K : Nat} {M : MA} {E : State → Prop} (X : lx_X l dC dI K M E) (sz : Nat) {S S' : MS} {r : Int32} (h : f_Mo_finds K S = some (r, S')) : Met l y_Mo_finds (.code y_Mo_finds b_Mo_finds 5 (some .boolean) :: V_Mq) ({ frames := 7, cells := 0, slots := 0, locals := 149 }) (va_Pc [.ref M.o] (fun U => U.heap.size = sz ∧ at_ (dC, dI) (fun _ => True) (wM M S) (tM M) U ∧ E U)) (va_Qi (fun (r_ : Int32) (u : Unit) => r_ = r) (fun (u : Unit) t => at_ (dC, dI) (va_A (wM M S) sz) (wM M S') (tM M) t) (va_A (wM M S) sz)) 0 0 (va_A (wM M S) sz) := by
  refine Met.ofW (cc := b_Mo_finds) (maxL := 5) (ret := (some .boolean)) (by decide) rfl ?_
  intro p e s m args below meth c s₁ B hml hv
  obtain ⟨rfl, hsz, ⟨hP, hK, hD0⟩, hE⟩ := hv
  have hx := B.exec
  have hb := B.bytes
  have hr := B.returns
  have hts0 := atoms_spec (ws := .code y_Mo_finds b_Mo_finds 5 (some .boolean) :: V_Mq) B.pre
  have hts : ∀ w ∈ V_Mq, w.before ([.ref M.o] : List Value).toArray s = true := fun w h => hts0 w (List.mem_cons_of_mem _ h)
  have hown : s.vm.findClass R_Mo = some m.cls := findClass_of_methodNamed B.named
  subst hsz
  have hD := hD0.self (sz := s.heap.size)
  generalize hAe : va_A (wM M S) s.heap.size = A at hD ⊢
  have hA : ∀ q : Nat, s.heap.size ≤ q → A q := fun q h => by rw [← hAe]; exact Or.inr h
  have hS : va_S A s.heap s.heap [] := va_S.rf
  have hP : va_P (dC, dI) classes (wM M S) s.heap := hP
  have hK : va_K (dC, dI) classes (tM M) s := hK
  have hEw : ∀ (H : Heap) (locs : List Loc), va_S A s.heap H locs → ∀ U : State, U.heap = H → s.WarmedH U.vm → E U := fun H locs hS U hU hW => lx_kept X hE hAe hS hU hW
  have hl := lv_entry ([.ref M.o]) (n := 5) (Nat.le_of_ble_eq_true rfl)
  rw [lg_entry_eq]
  generalize (lg_sl ([.ref M.o]) ++ List.replicate (5 - (lg_sl ([.ref M.o])).length) Slot.unset).toArray = ls at hl ⊢
  have hl : lv_has ls 5 [(0, .ref M.o)] := hl
  refine qabs (fun Q hQ => ?_)
  have hB_102 : ∀ (rec_36 : Int32 → MS → Option (Int32 × MS)) (hr_36 : ∀ (y_1 : Int32) (S : MS) (H : Heap) (locs : List Loc) (ls : Array Slot), rec_36 y_1 S = some (r, S') → va_P (dC, dI) classes (wM M S) H → va_D A (wM M S) → va_S A s.heap H locs → lv_has ls 5 [(0, .ref M.o), (1, .int y_1)] → W p l e ({ frames := 7, cells := 0, slots := 0, locals := 149 }) s m ([.ref M.o] : List Value).toArray below meth c H locs 0 0 Q (F0 m 36 ls [])) (rec_67 : Int32 → Int32 → MS → Option (Int32 × MS)) (hr_67 : ∀ (y_1 : Int32) (y_2 : Int32) (S : MS) (H : Heap) (locs : List Loc) (ls : Array Slot), rec_67 y_1 y_2 S = some (r, S') → va_P (dC, dI) classes (wM M S) H → va_D A (wM M S) → va_S A s.heap H locs → lv_has ls 5 [(0, .ref M.o), (1, .int y_1), (2, .int y_2)] → W p l e ({ frames := 7, cells := 0, slots := 0, locals := 149 }) s m ([.ref M.o] : List Value).toArray below meth c H locs 0 0 Q (F0 m 67 ls [])), ∀ (y_1 : Int32) (y_2 : Int32) (S : MS) (H : Heap) (locs : List Loc) (ls : Array Slot), f_Mo_finds_102 K rec_36 rec_67 y_1 y_2 S = some (r, S') → va_P (dC, dI) classes (wM M S) H → va_D A (wM M S) → va_S A s.heap H locs → lv_has ls 5 [(0, .ref M.o), (1, .int y_1), (2, .int y_2)] → W p l e ({ frames := 7, cells := 0, slots := 0, locals := 149 }) s m ([.ref M.o] : List Value).toArray below meth c H locs 0 0 Q (F0 m 102 ls []) := by
    intro rec_36 hr_36 rec_67 hr_67 y_1 y_2 S H locs ls h hP hD hS hl
    rw [f_Mo_finds_102] at h
    obtain ⟨x_46, ex_46, h⟩ := lf_lX h
    refine lv_iinc (v := x_46) (lv' := [(2, .int x_46), (0, .ref M.o), (1, .int y_1)]) hx hb d_Mo_finds_102 hl (k := 2) rfl (by rw [ex_46]; rfl) (by decide) rfl (fun ls hl => ?_)
    refine lv_goto (tgt := 67) hx hb d_Mo_finds_105 (by decide) ?_
    exact hr_67 y_1 x_46 S _ _ _ h hP hD hS (lv_sub hl [1, 2, 0] rfl)
  have hB_144 : ∀ (rec_36 : Int32 → MS → Option (Int32 × MS)) (hr_36 : ∀ (y_1 : Int32) (S : MS) (H : Heap) (locs : List Loc) (ls : Array Slot), rec_36 y_1 S = some (r, S') → va_P (dC, dI) classes (wM M S) H → va_D A (wM M S) → va_S A s.heap H locs → lv_has ls 5 [(0, .ref M.o), (1, .int y_1)] → W p l e ({ frames := 7, cells := 0, slots := 0, locals := 149 }) s m ([.ref M.o] : List Value).toArray below meth c H locs 0 0 Q (F0 m 36 ls [])), ∀ (y_1 : Int32) (S : MS) (H : Heap) (locs : List Loc) (ls : Array Slot), f_Mo_finds_144 K rec_36 y_1 S = some (r, S') → va_P (dC, dI) classes (wM M S) H → va_D A (wM M S) → va_S A s.heap H locs → lv_has ls 5 [(0, .ref M.o), (1, .int y_1)] → W p l e ({ frames := 7, cells := 0, slots := 0, locals := 149 }) s m ([.ref M.o] : List Value).toArray below meth c H locs 0 0 Q (F0 m 144 ls []) := by
    intro rec_36 hr_36 y_1 S H locs ls h hP hD hS hl
    rw [f_Mo_finds_144] at h
    obtain ⟨x_25, ex_25, h⟩ := lf_lX h
    refine lv_iinc (v := x_25) (lv' := [(1, .int x_25), (0, .ref M.o)]) hx hb d_Mo_finds_144 hl (k := 1) rfl (by rw [ex_25]; rfl) (by decide) rfl (fun ls hl => ?_)
    refine lv_goto (tgt := 36) hx hb d_Mo_finds_147 (by decide) ?_
    exact hr_36 x_25 S _ _ _ h hP hD hS (lv_sub hl [1, 0] rfl)
  have hB_108 : ∀ (rec_36 : Int32 → MS → Option (Int32 × MS)) (hr_36 : ∀ (y_1 : Int32) (S : MS) (H : Heap) (locs : List Loc) (ls : Array Slot), rec_36 y_1 S = some (r, S') → va_P (dC, dI) classes (wM M S) H → va_D A (wM M S) → va_S A s.heap H locs → lv_has ls 5 [(0, .ref M.o), (1, .int y_1)] → W p l e ({ frames := 7, cells := 0, slots := 0, locals := 149 }) s m ([.ref M.o] : List Value).toArray below meth c H locs 0 0 Q (F0 m 36 ls [])), ∀ (y_1 : Int32) (y_2 : Int32) (S : MS) (H : Heap) (locs : List Loc) (ls : Array Slot), f_Mo_finds_108 K rec_36 y_1 y_2 S = some (r, S') → va_P (dC, dI) classes (wM M S) H → va_D A (wM M S) → va_S A s.heap H locs → lv_has ls 5 [(0, .ref M.o), (1, .int y_1), (2, .int y_2)] → W p l e ({ frames := 7, cells := 0, slots := 0, locals := 149 }) s m ([.ref M.o] : List Value).toArray below meth c H locs 0 0 Q (F0 m 108 ls []) := by
    intro rec_36 hr_36 y_1 y_2 S H locs ls h hP hD hS hl
    rw [f_Mo_finds_108] at h
    refine lv_iload_n hx hb d_Mo_finds_108 rfl (lv_at hl 2 rfl) ?_
    refine lv_aload_n hx hb d_Mo_finds_109 rfl (lv_at hl 0 rfl) ?_
    refine va_get (D := (dC, dI)) (ci := 12) (v := .int S.v_k) (C := R_Mo) (T := F_Mo) (N := 66) hx hb hts (fun w h => u_Mq_Mo w (i_Mo w h)) hown hK hP 0 rfl rfl 17 (by decide) (hts _ (u_Mq_Mo _ k_Mo_24)) (fun _ h9 => h9) rfl d_Mo_finds_110 ?_
    refine lv_iconst (v := 2) hx hb d_Mo_finds_113 (by decide) ?_
    refine lv_iadd hx hb d_Mo_finds_114 ?_
    refine lv_icmp_ne (tgt := 120) hx hb d_Mo_finds_115 (by decide) (fun c_40 => ?_) (fun c_40 => ?_)
    · have h := lf_f h c_40
      refine lv_aload_n hx hb d_Mo_finds_120 rfl (lv_at hl 0 rfl) ?_
      refine va_get (D := (dC, dI)) (ci := 12) (v := .ref M.a_moved) (C := R_Mo) (T := F_Mo) (N := 66) hx hb hts (fun w h => u_Mq_Mo w (i_Mo w h)) hown hK hP 0 rfl rfl 53 (by decide) (hts _ (u_Mq_Mo _ k_Mo_60)) (fun _ h9 => h9) rfl d_Mo_finds_121 ?_
      refine lv_iload_n hx hb d_Mo_finds_124 rfl (lv_at hl 1 rfl) ?_
      refine lv_iload_n hx hb d_Mo_finds_125 rfl (lv_at hl 2 rfl) ?_
      obtain ⟨g_41, h⟩ := lf_gE h
      refine va_iast hx hb hK hP hD hS 23 22 rfl rfl g_41 d_Mo_finds_126 (fun H locs hP hD hS => ?_)
      obtain ⟨S_42, eS_42, h⟩ := lf_lX h
      have hP := lx_newP eS_42 hP
      have hD := lx_newD eS_42 hD
      refine lv_aload_n hx hb d_Mo_finds_127 rfl (lv_at hl 0 rfl) ?_
      refine va_get (D := (dC, dI)) (ci := 12) (v := .ref M.a_aimed) (C := R_Mo) (T := F_Mo) (N := 66) hx hb hts (fun w h => u_Mq_Mo w (i_Mo w h)) hown hK hP 0 rfl rfl 54 (by decide) (hts _ (u_Mq_Mo _ k_Mo_61)) (fun _ h9 => h9) rfl d_Mo_finds_128 ?_
      refine lv_iload_n hx hb d_Mo_finds_131 rfl (lv_at hl 2 rfl) ?_
      refine lv_iload_n hx hb d_Mo_finds_132 rfl (lv_at hl 1 rfl) ?_
      obtain ⟨g_43, h⟩ := lf_gE h
      refine va_iast hx hb hK hP hD hS 24 23 rfl rfl g_43 d_Mo_finds_133 (fun H locs hP hD hS => ?_)
      obtain ⟨S_44, eS_44, h⟩ := lf_lX h
      have hP := lx_newP eS_44 hP
      have hD := lx_newD eS_44 hD
      refine lv_aload_n hx hb d_Mo_finds_134 rfl (lv_at hl 0 rfl) ?_
      refine lv_dup hx hb d_Mo_finds_135 rfl ?_
      refine va_get (D := (dC, dI)) (ci := 12) (v := .int S_44.v_moves) (C := R_Mo) (T := F_Mo) (N := 66) hx hb hts (fun w h => u_Mq_Mo w (i_Mo w h)) hown hK hP 0 rfl rfl 57 (by decide) (hts _ (u_Mq_Mo _ k_Mo_64)) (fun _ h9 => h9) rfl d_Mo_finds_136 ?_
      refine lv_iconst (v := 1) hx hb d_Mo_finds_139 (by decide) ?_
      refine lv_iadd hx hb d_Mo_finds_140 ?_
      refine va_put (D := (dC, dI)) (ci := 12) (v := .int (S_44.v_moves + 1)) (ty := .int) (C := R_Mo) (T := F_Mo) (N := 66) hx hb hts (fun w h => u_Mq_Mo w (i_Mo w h)) t_Mo t_Mo_ok n_Mo hown hK hP hD hS 0 rfl rfl 57 (by decide) (hts _ (u_Mq_Mo _ k_Mo_64)) (fun _ h9 => h9) rfl (by decide +kernel) rfl rfl (Nat.le_of_ble_eq_true rfl) d_Mo_finds_141 (fun H locs hP hD hS => ?_)
      obtain ⟨S_45, eS_45, h⟩ := lf_lX h
      have hP := lx_newP eS_45 hP
      have hD := lx_newD eS_45 hD
      exact hB_144 _ hr_36 y_1 S_45 _ _ _ h hP hD hS (lv_sub hl [0, 1] rfl)
    · have h := lf_t h c_40
      refine lv_iconst (v := 0) hx hb d_Mo_finds_118 (by decide) ?_
      rw [hQ]
      have e1 : (0 : Int32) = r := congrArg Prod.fst (Option.some.inj h)
      have e2 : S = S' := congrArg Prod.snd (Option.some.inj h)
      have hP := lx_newP e2.symm hP
      have hD := lx_newD e2.symm hD
      exact W.zret (v := 0) hx hb hr rfl (fun t ht hW => ⟨⟨0, (), rfl, e1, by rw [ht]; exact hP, va_K.moved hW.alike hK, hD⟩, hS.F ht⟩) hS.2.2 d_Mo_finds_119
  have hB_67 : ∀ (rec_36 : Int32 → MS → Option (Int32 × MS)) (hr_36 : ∀ (y_1 : Int32) (S : MS) (H : Heap) (locs : List Loc) (ls : Array Slot), rec_36 y_1 S = some (r, S') → va_P (dC, dI) classes (wM M S) H → va_D A (wM M S) → va_S A s.heap H locs → lv_has ls 5 [(0, .ref M.o), (1, .int y_1)] → W p l e ({ frames := 7, cells := 0, slots := 0, locals := 149 }) s m ([.ref M.o] : List Value).toArray below meth c H locs 0 0 Q (F0 m 36 ls [])) (k : Nat), ∀ (y_1 : Int32) (y_2 : Int32) (S : MS) (H : Heap) (locs : List Loc) (ls : Array Slot), f_Mo_finds_67 K rec_36 k y_1 y_2 S = some (r, S') → va_P (dC, dI) classes (wM M S) H → va_D A (wM M S) → va_S A s.heap H locs → lv_has ls 5 [(0, .ref M.o), (1, .int y_1), (2, .int y_2)] → W p l e ({ frames := 7, cells := 0, slots := 0, locals := 149 }) s m ([.ref M.o] : List Value).toArray below meth c H locs 0 0 Q (F0 m 67 ls []) := by
    intro rec_36 hr_36 k
    induction k with
    | zero => intro y_1 y_2 S H locs ls h; exact lf_no h
    | succ k hr_67 =>
      intro y_1 y_2 S H locs ls h hP hD hS hl
      rw [f_Mo_finds_67] at h
      refine lv_iload_n hx hb d_Mo_finds_67 rfl (lv_at hl 2 rfl) ?_
      refine lv_aload_n hx hb d_Mo_finds_68 rfl (lv_at hl 0 rfl) ?_
      refine va_get (D := (dC, dI)) (ci := 12) (v := .int S.v_k) (C := R_Mo) (T := F_Mo) (N := 66) hx hb hts (fun w h => u_Mq_Mo w (i_Mo w h)) hown hK hP 0 rfl rfl 17 (by decide) (hts _ (u_Mq_Mo _ k_Mo_24)) (fun _ h9 => h9) rfl d_Mo_finds_69 ?_
      refine lv_iconst (v := 2) hx hb d_Mo_finds_72 (by decide) ?_
      refine lv_iadd hx hb d_Mo_finds_73 ?_
      refine lv_icmp_ge (tgt := 108) hx hb d_Mo_finds_74 (by decide) (fun c_26 => ?_) (fun c_26 => ?_)
      · have h := lf_t h c_26
        exact hB_108 _ hr_36 y_1 y_2 S _ _ _ h hP hD hS (lv_sub hl [0, 1, 2] rfl)
      · have h := lf_f h c_26
        refine lv_aload_n hx hb d_Mo_finds_77 rfl (lv_at hl 0 rfl) ?_
        refine lv_iload_n hx hb d_Mo_finds_78 rfl (lv_at hl 2 rfl) ?_
        obtain ⟨r_27, S_27, hc_27, h⟩ := lf_cE h
        have hFc := lx_free hD hS hA
        refine va_calli (va_runV (As := [.int y_2]) (rest := []) ⟨hx, hb, hml, hown, hts⟩ (l_Mo_entry l dC dI X _ hc_27) (cwV 1 hts (gwV good_Mq (u_Mq_Mo _ k_Mo_110) (u_Mq_Mo _ k_Mo_111) (u_Mq_Mo _ k_Mo_480) (u_Mq_Mo _ k_Mo_0) (wcs (u_Mq_Mo _ k_Mo_112) (fun _ h => h))) rfl rfl rfl (by decide +kernel) ⟨Nat.le_of_ble_eq_true rfl, Nat.le_of_ble_eq_true rfl⟩) (pv_ofE X.same (hEw _ _ hS) hP hK hD (va_recv hK hP (ci := 12) (q0 := 0) rfl rfl)) rfl rfl hl.1 rfl (lv_room (Nat.le_of_ble_eq_true rfl)) d_Mo_finds_79 ⟨by decide, by decide⟩) hS (fun q _ h => hFc q h) hFc (fun r_ u t H locs ht hvm hw hB hz1 hk1 hS => ?_)
        rw [hw]
        obtain ⟨hP, -, hD⟩ := hB
        rw [ht] at hP
        have hD := lx_dj hD hFc
        refine lv_if_ne (tgt := 102) hx hb d_Mo_finds_82 (by decide) (fun c_28 => ?_) (fun c_28 => ?_)
        · have h := lf_f h c_28
          exact hB_102 _ hr_36 _ hr_67 y_1 y_2 S_27 _ _ _ h hP hD hS (lv_sub hl [0, 1, 2] rfl)
        · have h := lf_t h c_28
          refine lv_aload_n hx hb d_Mo_finds_85 rfl (lv_at hl 0 rfl) ?_
          refine lv_iload_n hx hb d_Mo_finds_86 rfl (lv_at hl 2 rfl) ?_
          obtain ⟨r_29, S_29, hc_29, h⟩ := lf_cE h
          have hFc := lx_free hD hS hA
          refine va_calli (va_runV (As := [.int y_2]) (rest := []) ⟨hx, hb, hml, hown, hts⟩ (l_Mo_isFixed l dC dI X _ hc_29) (cwV 1 hts (gwV good_Mq (u_Mq_Mo _ k_Mo_391) (u_Mq_Mo _ k_Mo_392) (u_Mq_Mo _ k_Mo_533) (u_Mq_Mo _ k_Mo_0) (wcs (u_Mq_Mo _ k_Mo_393) (fun _ h => h))) rfl rfl rfl (by decide +kernel) ⟨Nat.le_of_ble_eq_true rfl, Nat.le_of_ble_eq_true rfl⟩) (pv_ofE X.same (hEw _ _ hS) hP hK hD (va_recv hK hP (ci := 12) (q0 := 0) rfl rfl)) rfl rfl hl.1 rfl (lv_room (Nat.le_of_ble_eq_true rfl)) d_Mo_finds_87 ⟨by decide, by decide⟩) hS (fun q _ h => hFc q h) hFc (fun r_ u t H locs ht hvm hw hB hz1 hk1 hS => ?_)
          rw [hw]
          obtain ⟨hP, -, hD⟩ := hB
          rw [ht] at hP
          have hD := lx_dj hD hFc
          refine lv_if_ne (tgt := 102) hx hb d_Mo_finds_90 (by decide) (fun c_30 => ?_) (fun c_30 => ?_)
          · have h := lf_f h c_30
            exact hB_102 _ hr_36 _ hr_67 y_1 y_2 S_29 _ _ _ h hP hD hS (lv_sub hl [0, 1, 2] rfl)
          · have h := lf_t h c_30
            refine lv_aload_n hx hb d_Mo_finds_93 rfl (lv_at hl 0 rfl) ?_
            refine va_get (D := (dC, dI)) (ci := 12) (v := .ref M.a_aimed) (C := R_Mo) (T := F_Mo) (N := 66) hx hb hts (fun w h => u_Mq_Mo w (i_Mo w h)) hown hK hP 0 rfl rfl 54 (by decide) (hts _ (u_Mq_Mo _ k_Mo_61)) (fun _ h9 => h9) rfl d_Mo_finds_94 ?_
            refine lv_iload_n hx hb d_Mo_finds_97 rfl (lv_at hl 2 rfl) ?_
            obtain ⟨g_31, h⟩ := lf_gE h
            refine va_iald hx hb hK hP 24 23 rfl rfl g_31 d_Mo_finds_98 ?_
            refine lv_if_eq (tgt := 108) hx hb d_Mo_finds_99 (by decide) (fun c_32 => ?_) (fun c_32 => ?_)
            · have h := lf_t h c_32
              exact hB_108 _ hr_36 y_1 y_2 S_29 _ _ _ h hP hD hS (lv_sub hl [0, 1, 2] rfl)
            · have h := lf_f h c_32
              exact hB_102 _ hr_36 _ hr_67 y_1 y_2 S_29 _ _ _ h hP hD hS (lv_sub hl [0, 1, 2] rfl)
  have hB_260 : ∀ (rec_177 : Int32 → MS → Option (Int32 × MS)) (hr_177 : ∀ (y_1 : Int32) (S : MS) (H : Heap) (locs : List Loc) (ls : Array Slot), rec_177 y_1 S = some (r, S') → va_P (dC, dI) classes (wM M S) H → va_D A (wM M S) → va_S A s.heap H locs → lv_has ls 5 [(0, .ref M.o), (1, .int y_1)] → W p l e ({ frames := 7, cells := 0, slots := 0, locals := 149 }) s m ([.ref M.o] : List Value).toArray below meth c H locs 0 0 Q (F0 m 177 ls [])), ∀ (y_1 : Int32) (z_1 : Int32) (z_2 : Int32) (S : MS) (H : Heap) (locs : List Loc) (ls : Array Slot), f_Mo_finds_260 K rec_177 y_1 z_1 z_2 S = some (r, S') → va_P (dC, dI) classes (wM M S) H → va_D A (wM M S) → va_S A s.heap H locs → lv_has ls 5 [(0, .ref M.o), (1, .int y_1)] → W p l e ({ frames := 7, cells := 0, slots := 0, locals := 149 }) s m ([.ref M.o] : List Value).toArray below meth c H locs 0 0 Q (F0 m 260 ls [.int z_2, .int z_1, .ref M.o]) := by
    intro rec_177 hr_177 y_1 z_1 z_2 S H locs ls h hP hD hS hl
    rw [f_Mo_finds_260] at h
    refine lv_iadd hx hb d_Mo_finds_260 ?_
    refine va_put (D := (dC, dI)) (ci := 12) (v := .int (z_1 + z_2)) (ty := .int) (C := R_Mo) (T := F_Mo) (N := 66) hx hb hts (fun w h => u_Mq_Mo w (i_Mo w h)) t_Mo t_Mo_ok n_Mo hown hK hP hD hS 0 rfl rfl 59 (by decide) (hts _ (u_Mq_Mo _ k_Mo_66)) (fun _ h9 => h9) rfl (by decide +kernel) rfl rfl (Nat.le_of_ble_eq_true rfl) d_Mo_finds_261 (fun H locs hP hD hS => ?_)
    obtain ⟨S_58, eS_58, h⟩ := lf_lX h
    have hP := lx_newP eS_58 hP
    have hD := lx_newD eS_58 hD
    obtain ⟨x_59, ex_59, h⟩ := lf_lX h
    refine lv_iinc (v := x_59) (lv' := [(1, .int x_59), (0, .ref M.o)]) hx hb d_Mo_finds_264 hl (k := 1) rfl (by rw [ex_59]; rfl) (by decide) rfl (fun ls hl => ?_)
    refine lv_goto (tgt := 177) hx hb d_Mo_finds_267 (by decide) ?_
    exact hr_177 x_59 S_58 _ _ _ h hP hD hS (lv_sub hl [1, 0] rfl)
  have hB_223 : ∀ (rec_177 : Int32 → MS → Option (Int32 × MS)) (hr_177 : ∀ (y_1 : Int32) (S : MS) (H : Heap) (locs : List Loc) (ls : Array Slot), rec_177 y_1 S = some (r, S') → va_P (dC, dI) classes (wM M S) H → va_D A (wM M S) → va_S A s.heap H locs → lv_has ls 5 [(0, .ref M.o), (1, .int y_1)] → W p l e ({ frames := 7, cells := 0, slots := 0, locals := 149 }) s m ([.ref M.o] : List Value).toArray below meth c H locs 0 0 Q (F0 m 177 ls [])), ∀ (y_1 : Int32) (z_1 : Int32) (z_2 : Int32) (S : MS) (H : Heap) (locs : List Loc) (ls : Array Slot), f_Mo_finds_223 K rec_177 y_1 z_1 z_2 S = some (r, S') → va_P (dC, dI) classes (wM M S) H → va_D A (wM M S) → va_S A s.heap H locs → lv_has ls 5 [(0, .ref M.o), (1, .int y_1)] → W p l e ({ frames := 7, cells := 0, slots := 0, locals := 149 }) s m ([.ref M.o] : List Value).toArray below meth c H locs 0 0 Q (F0 m 223 ls [.int z_2, .int z_1, .ref M.o]) := by
    intro rec_177 hr_177 y_1 z_1 z_2 S H locs ls h hP hD hS hl
    rw [f_Mo_finds_223] at h
    refine lv_iadd hx hb d_Mo_finds_223 ?_
    refine va_put (D := (dC, dI)) (ci := 12) (v := .int (z_1 + z_2)) (ty := .int) (C := R_Mo) (T := F_Mo) (N := 66) hx hb hts (fun w h => u_Mq_Mo w (i_Mo w h)) t_Mo t_Mo_ok n_Mo hown hK hP hD hS 0 rfl rfl 58 (by decide) (hts _ (u_Mq_Mo _ k_Mo_65)) (fun _ h9 => h9) rfl (by decide +kernel) rfl rfl (Nat.le_of_ble_eq_true rfl) d_Mo_finds_224 (fun H locs hP hD hS => ?_)
    obtain ⟨S_35, eS_35, h⟩ := lf_lX h
    have hP := lx_newP eS_35 hP
    have hD := lx_newD eS_35 hD
    refine lv_aload_n hx hb d_Mo_finds_227 rfl (lv_at hl 0 rfl) ?_
    refine lv_dup hx hb d_Mo_finds_228 rfl ?_
    refine va_get (D := (dC, dI)) (ci := 12) (v := .int S_35.v_kept) (C := R_Mo) (T := F_Mo) (N := 66) hx hb hts (fun w h => u_Mq_Mo w (i_Mo w h)) hown hK hP 0 rfl rfl 59 (by decide) (hts _ (u_Mq_Mo _ k_Mo_66)) (fun _ h9 => h9) rfl d_Mo_finds_229 ?_
    refine lv_aload_n hx hb d_Mo_finds_232 rfl (lv_at hl 0 rfl) ?_
    refine lv_iload_n hx hb d_Mo_finds_233 rfl (lv_at hl 1 rfl) ?_
    obtain ⟨r_36, S_36, hc_36, h⟩ := lf_cE h
    have hFc := lx_free hD hS hA
    refine va_calli (va_runV (As := [.int y_1]) (rest := [.int S_35.v_kept, .ref M.o]) ⟨hx, hb, hml, hown, hts⟩ (l_Mo_isFolder l dC dI X _ hc_36) (cwV 1 hts (gwV good_Mq (u_Mq_Mo _ k_Mo_118) (u_Mq_Mo _ k_Mo_119) (u_Mq_Mo _ k_Mo_489) (u_Mq_Mo _ k_Mo_0) (wcs (u_Mq_Mo _ k_Mo_120) (fun _ h => h))) rfl rfl rfl (by decide +kernel) ⟨Nat.le_of_ble_eq_true rfl, Nat.le_of_ble_eq_true rfl⟩) (pv_ofE X.same (hEw _ _ hS) hP hK hD (va_recv hK hP (ci := 12) (q0 := 0) rfl rfl)) rfl rfl hl.1 rfl (lv_room (Nat.le_of_ble_eq_true rfl)) d_Mo_finds_234 ⟨by decide, by decide⟩) hS (fun q _ h => hFc q h) hFc (fun r_ u t H locs ht hvm hw hB hz1 hk1 hS => ?_)
    rw [hw]
    obtain ⟨hP, -, hD⟩ := hB
    rw [ht] at hP
    have hD := lx_dj hD hFc
    refine lv_if_eq (tgt := 255) hx hb d_Mo_finds_237 (by decide) (fun c_37 => ?_) (fun c_37 => ?_)
    · have h := lf_t h c_37
      refine lv_aload_n hx hb d_Mo_finds_255 rfl (lv_at hl 0 rfl) ?_
      refine lv_iload_n hx hb d_Mo_finds_256 rfl (lv_at hl 1 rfl) ?_
      obtain ⟨r_38, S_38, hc_38, h⟩ := lf_cE h
      have hFc := lx_free hD hS hA
      refine va_calli (va_runV (As := [.int y_1]) (rest := [.int S_35.v_kept, .ref M.o]) ⟨hx, hb, hml, hown, hts⟩ (l_Mo_fileBlocks l dC dI X _ hc_38) (cwV 1 hts (gwV good_Mq (u_Mq_Mo _ k_Mo_397) (u_Mq_Mo _ k_Mo_398) (u_Mq_Mo _ k_Mo_528) (u_Mq_Mo _ k_Mo_0) (wcs (u_Mq_Mo _ k_Mo_399) (fun _ h => h))) rfl rfl rfl (by decide +kernel) ⟨Nat.le_of_ble_eq_true rfl, Nat.le_of_ble_eq_true rfl⟩) (pv_ofE X.same (hEw _ _ hS) hP hK hD (va_recv hK hP (ci := 12) (q0 := 0) rfl rfl)) rfl rfl hl.1 rfl (lv_room (Nat.le_of_ble_eq_true rfl)) d_Mo_finds_257 ⟨by decide, by decide⟩) hS (fun q _ h => hFc q h) hFc (fun r_ u t H locs ht hvm hw hB hz1 hk1 hS => ?_)
      rw [hw]
      obtain ⟨hP, -, hD⟩ := hB
      rw [ht] at hP
      have hD := lx_dj hD hFc
      exact hB_260 _ hr_177 y_1 S_35.v_kept r_38 S_38 _ _ _ h hP hD hS (lv_sub hl [0, 1] rfl)
    · have h := lf_f h c_37
      refine lv_aload_n hx hb d_Mo_finds_240 rfl (lv_at hl 0 rfl) ?_
      refine lv_iload_n hx hb d_Mo_finds_241 rfl (lv_at hl 1 rfl) ?_
      obtain ⟨r_39, S_39, hc_39, h⟩ := lf_cE h
      have hFc := lx_free hD hS hA
      refine va_calli (va_runV (As := [.int y_1]) (rest := [.int S_35.v_kept, .ref M.o]) ⟨hx, hb, hml, hown, hts⟩ (l_Mo_clustersOf l dC dI X _ hc_39) (cwV 1 hts (gwV good_Mq (u_Mq_Mo _ k_Mo_272) (u_Mq_Mo _ k_Mo_273) (u_Mq_Mo _ k_Mo_526) (u_Mq_Mo _ k_Mo_0) (wcs (u_Mq_Mo _ k_Mo_274) (fun _ h => h))) rfl rfl rfl (by decide +kernel) ⟨Nat.le_of_ble_eq_true rfl, Nat.le_of_ble_eq_true rfl⟩) (pv_ofE X.same (hEw _ _ hS) hP hK hD (va_recv hK hP (ci := 12) (q0 := 0) rfl rfl)) rfl rfl hl.1 rfl (lv_room (Nat.le_of_ble_eq_true rfl)) d_Mo_finds_242 ⟨by decide, by decide⟩) hS (fun q _ h => hFc q h) hFc (fun r_ u t H locs ht hvm hw hB hz1 hk1 hS => ?_)
      rw [hw]
      obtain ⟨hP, -, hD⟩ := hB
      rw [ht] at hP
      have hD := lx_dj hD hFc
      refine lv_aload_n hx hb d_Mo_finds_245 rfl (lv_at hl 0 rfl) ?_
      refine va_get (D := (dC, dI)) (ci := 12) (v := .int S_39.v_c) (C := R_Mo) (T := F_Mo) (N := 66) hx hb hts (fun w h => u_Mq_Mo w (i_Mo w h)) hown hK hP 0 rfl rfl 11 (by decide) (hts _ (u_Mq_Mo _ k_Mo_18)) (fun _ h9 => h9) rfl d_Mo_finds_246 ?_
      refine lv_iconst (v := 2) hx hb d_Mo_finds_249 (by decide) ?_
      refine lv_idiv hx hb d_Mo_finds_250 (by decide) ?_
      refine lv_imul hx hb d_Mo_finds_251 ?_
      refine lv_goto (tgt := 260) hx hb d_Mo_finds_252 (by decide) ?_
      exact hB_260 _ hr_177 y_1 S_35.v_kept (r_39 * (S_39.v_c / 2)) S_39 _ _ _ h hP hD hS (lv_sub hl [0, 1] rfl)
  have hB_358 : ∀ (rec_274 : Int32 → Int32 → MS → Option (Int32 × MS)) (hr_274 : ∀ (y_1 : Int32) (y_2 : Int32) (S : MS) (H : Heap) (locs : List Loc) (ls : Array Slot), rec_274 y_1 y_2 S = some (r, S') → va_P (dC, dI) classes (wM M S) H → va_D A (wM M S) → va_S A s.heap H locs → lv_has ls 5 [(0, .ref M.o), (1, .int y_1), (2, .int y_2)] → W p l e ({ frames := 7, cells := 0, slots := 0, locals := 149 }) s m ([.ref M.o] : List Value).toArray below meth c H locs 0 0 Q (F0 m 274 ls [])) (rec_286 : Int32 → Int32 → Int32 → MS → Option (Int32 × MS)) (hr_286 : ∀ (y_1 : Int32) (y_2 : Int32) (y_3 : Int32) (S : MS) (H : Heap) (locs : List Loc) (ls : Array Slot), rec_286 y_1 y_2 y_3 S = some (r, S') → va_P (dC, dI) classes (wM M S) H → va_D A (wM M S) → va_S A s.heap H locs → lv_has ls 5 [(0, .ref M.o), (1, .int y_1), (2, .int y_2), (3, .int y_3)] → W p l e ({ frames := 7, cells := 0, slots := 0, locals := 149 }) s m ([.ref M.o] : List Value).toArray below meth c H locs 0 0 Q (F0 m 286 ls [])), ∀ (y_1 : Int32) (y_2 : Int32) (y_3 : Int32) (S : MS) (H : Heap) (locs : List Loc) (ls : Array Slot), f_Mo_finds_358 K rec_274 rec_286 y_1 y_2 y_3 S = some (r, S') → va_P (dC, dI) classes (wM M S) H → va_D A (wM M S) → va_S A s.heap H locs → lv_has ls 5 [(0, .ref M.o), (1, .int y_1), (2, .int y_2), (3, .int y_3)] → W p l e ({ frames := 7, cells := 0, slots := 0, locals := 149 }) s m ([.ref M.o] : List Value).toArray below meth c H locs 0 0 Q (F0 m 358 ls []) := by
    intro rec_274 hr_274 rec_286 hr_286 y_1 y_2 y_3 S H locs ls h hP hD hS hl
    rw [f_Mo_finds_358] at h
    obtain ⟨x_61, ex_61, h⟩ := lf_lX h
    refine lv_iinc (v := x_61) (lv' := [(3, .int x_61), (0, .ref M.o), (1, .int y_1), (2, .int y_2)]) hx hb d_Mo_finds_358 hl (k := 3) rfl (by rw [ex_61]; rfl) (by decide) rfl (fun ls hl => ?_)
    refine lv_goto (tgt := 286) hx hb d_Mo_finds_361 (by decide) ?_
    exact hr_286 y_1 y_2 x_61 S _ _ _ h hP hD hS (lv_sub hl [1, 2, 3, 0] rfl)
  have hB_364 : ∀ (rec_274 : Int32 → Int32 → MS → Option (Int32 × MS)) (hr_274 : ∀ (y_1 : Int32) (y_2 : Int32) (S : MS) (H : Heap) (locs : List Loc) (ls : Array Slot), rec_274 y_1 y_2 S = some (r, S') → va_P (dC, dI) classes (wM M S) H → va_D A (wM M S) → va_S A s.heap H locs → lv_has ls 5 [(0, .ref M.o), (1, .int y_1), (2, .int y_2)] → W p l e ({ frames := 7, cells := 0, slots := 0, locals := 149 }) s m ([.ref M.o] : List Value).toArray below meth c H locs 0 0 Q (F0 m 274 ls [])), ∀ (y_1 : Int32) (y_2 : Int32) (S : MS) (H : Heap) (locs : List Loc) (ls : Array Slot), f_Mo_finds_364 K rec_274 y_1 y_2 S = some (r, S') → va_P (dC, dI) classes (wM M S) H → va_D A (wM M S) → va_S A s.heap H locs → lv_has ls 5 [(0, .ref M.o), (1, .int y_1), (2, .int y_2)] → W p l e ({ frames := 7, cells := 0, slots := 0, locals := 149 }) s m ([.ref M.o] : List Value).toArray below meth c H locs 0 0 Q (F0 m 364 ls []) := by
    intro rec_274 hr_274 y_1 y_2 S H locs ls h hP hD hS hl
    rw [f_Mo_finds_364] at h
    obtain ⟨x_60, ex_60, h⟩ := lf_lX h
    refine lv_iinc (v := x_60) (lv' := [(2, .int x_60), (0, .ref M.o), (1, .int y_1)]) hx hb d_Mo_finds_364 hl (k := 2) rfl (by rw [ex_60]; rfl) (by decide) rfl (fun ls hl => ?_)
    refine lv_goto (tgt := 274) hx hb d_Mo_finds_367 (by decide) ?_
    exact hr_274 y_1 x_60 S _ _ _ h hP hD hS (lv_sub hl [1, 2, 0] rfl)
  have hB_286 : ∀ (rec_274 : Int32 → Int32 → MS → Option (Int32 × MS)) (hr_274 : ∀ (y_1 : Int32) (y_2 : Int32) (S : MS) (H : Heap) (locs : List Loc) (ls : Array Slot), rec_274 y_1 y_2 S = some (r, S') → va_P (dC, dI) classes (wM M S) H → va_D A (wM M S) → va_S A s.heap H locs → lv_has ls 5 [(0, .ref M.o), (1, .int y_1), (2, .int y_2)] → W p l e ({ frames := 7, cells := 0, slots := 0, locals := 149 }) s m ([.ref M.o] : List Value).toArray below meth c H locs 0 0 Q (F0 m 274 ls [])) (k : Nat), ∀ (y_1 : Int32) (y_2 : Int32) (y_3 : Int32) (S : MS) (H : Heap) (locs : List Loc) (ls : Array Slot), f_Mo_finds_286 K rec_274 k y_1 y_2 y_3 S = some (r, S') → va_P (dC, dI) classes (wM M S) H → va_D A (wM M S) → va_S A s.heap H locs → lv_has ls 5 [(0, .ref M.o), (1, .int y_1), (2, .int y_2), (3, .int y_3)] → W p l e ({ frames := 7, cells := 0, slots := 0, locals := 149 }) s m ([.ref M.o] : List Value).toArray below meth c H locs 0 0 Q (F0 m 286 ls []) := by
    intro rec_274 hr_274 k
    induction k with
    | zero => intro y_1 y_2 y_3 S H locs ls h; exact lf_no h
    | succ k hr_286 =>
      intro y_1 y_2 y_3 S H locs ls h hP hD hS hl
      rw [f_Mo_finds_286] at h
      refine lv_iload_n hx hb d_Mo_finds_286 rfl (lv_at hl 3 rfl) ?_
      refine lv_aload_n hx hb d_Mo_finds_287 rfl (lv_at hl 0 rfl) ?_
      refine va_get (D := (dC, dI)) (ci := 12) (v := .int S.v_c) (C := R_Mo) (T := F_Mo) (N := 66) hx hb hts (fun w h => u_Mq_Mo w (i_Mo w h)) hown hK hP 0 rfl rfl 11 (by decide) (hts _ (u_Mq_Mo _ k_Mo_18)) (fun _ h9 => h9) rfl d_Mo_finds_288 ?_
      refine lv_iconst (v := 2) hx hb d_Mo_finds_291 (by decide) ?_
      refine lv_idiv hx hb d_Mo_finds_292 (by decide) ?_
      refine lv_icmp_ge (tgt := 364) hx hb d_Mo_finds_293 (by decide) (fun c_47 => ?_) (fun c_47 => ?_)
      · have h := lf_t h c_47
        exact hB_364 _ hr_274 y_1 y_2 S _ _ _ h hP hD hS (lv_sub hl [0, 1, 2] rfl)
      · have h := lf_f h c_47
        refine lv_aload_n hx hb d_Mo_finds_296 rfl (lv_at hl 0 rfl) ?_
        refine lv_iload_n hx hb d_Mo_finds_297 rfl (lv_at hl 2 rfl) ?_
        obtain ⟨r_48, S_48, hc_48, h⟩ := lf_cE h
        have hFc := lx_free hD hS hA
        refine va_calli (va_runV (As := [.int y_2]) (rest := []) ⟨hx, hb, hml, hown, hts⟩ (l_Mo_entry l dC dI X _ hc_48) (cwV 1 hts (gwV good_Mq (u_Mq_Mo _ k_Mo_110) (u_Mq_Mo _ k_Mo_111) (u_Mq_Mo _ k_Mo_480) (u_Mq_Mo _ k_Mo_0) (wcs (u_Mq_Mo _ k_Mo_112) (fun _ h => h))) rfl rfl rfl (by decide +kernel) ⟨Nat.le_of_ble_eq_true rfl, Nat.le_of_ble_eq_true rfl⟩) (pv_ofE X.same (hEw _ _ hS) hP hK hD (va_recv hK hP (ci := 12) (q0 := 0) rfl rfl)) rfl rfl hl.1 rfl (lv_room (Nat.le_of_ble_eq_true rfl)) d_Mo_finds_298 ⟨by decide, by decide⟩) hS (fun q _ h => hFc q h) hFc (fun r_ u t H locs ht hvm hw hB hz1 hk1 hS => ?_)
        rw [hw]
        obtain ⟨hP, -, hD⟩ := hB
        rw [ht] at hP
        have hD := lx_dj hD hFc
        refine lv_if_ne (tgt := 364) hx hb d_Mo_finds_301 (by decide) (fun c_49 => ?_) (fun c_49 => ?_)
        · have h := lf_f h c_49
          exact hB_364 _ hr_274 y_1 y_2 S_48 _ _ _ h hP hD hS (lv_sub hl [0, 1, 2] rfl)
        · have h := lf_t h c_49
          refine lv_aload_n hx hb d_Mo_finds_304 rfl (lv_at hl 0 rfl) ?_
          refine va_get (D := (dC, dI)) (ci := 12) (v := .ref M.a_aimed) (C := R_Mo) (T := F_Mo) (N := 66) hx hb hts (fun w h => u_Mq_Mo w (i_Mo w h)) hown hK hP 0 rfl rfl 54 (by decide) (hts _ (u_Mq_Mo _ k_Mo_61)) (fun _ h9 => h9) rfl d_Mo_finds_305 ?_
          refine lv_iload_n hx hb d_Mo_finds_308 rfl (lv_at hl 2 rfl) ?_
          obtain ⟨g_50, h⟩ := lf_gE h
          refine va_iald hx hb hK hP 24 23 rfl rfl g_50 d_Mo_finds_309 ?_
          refine lv_if_ne (tgt := 364) hx hb d_Mo_finds_310 (by decide) (fun c_51 => ?_) (fun c_51 => ?_)
          · have h := lf_f h c_51
            exact hB_364 _ hr_274 y_1 y_2 S_48 _ _ _ h hP hD hS (lv_sub hl [0, 1, 2] rfl)
          · have h := lf_t h c_51
            refine lv_aload_n hx hb d_Mo_finds_313 rfl (lv_at hl 0 rfl) ?_
            refine va_get (D := (dC, dI)) (ci := 12) (v := .int S_48.v_a) (C := R_Mo) (T := F_Mo) (N := 66) hx hb hts (fun w h => u_Mq_Mo w (i_Mo w h)) hown hK hP 0 rfl rfl 16 (by decide) (hts _ (u_Mq_Mo _ k_Mo_23)) (fun _ h9 => h9) rfl d_Mo_finds_314 ?_
            refine lv_iconst (v := 2) hx hb d_Mo_finds_317 (by decide) ?_
            refine lv_idiv hx hb d_Mo_finds_318 (by decide) ?_
            refine lv_iload_n hx hb d_Mo_finds_319 rfl (lv_at hl 2 rfl) ?_
            refine lv_iconst (v := 2) hx hb d_Mo_finds_320 (by decide) ?_
            refine lv_isub hx hb d_Mo_finds_321 ?_
            refine lv_aload_n hx hb d_Mo_finds_322 rfl (lv_at hl 0 rfl) ?_
            refine va_get (D := (dC, dI)) (ci := 12) (v := .int S_48.v_c) (C := R_Mo) (T := F_Mo) (N := 66) hx hb hts (fun w h => u_Mq_Mo w (i_Mo w h)) hown hK hP 0 rfl rfl 11 (by decide) (hts _ (u_Mq_Mo _ k_Mo_18)) (fun _ h9 => h9) rfl d_Mo_finds_323 ?_
            refine lv_iconst (v := 2) hx hb d_Mo_finds_326 (by decide) ?_
            refine lv_idiv hx hb d_Mo_finds_327 (by decide) ?_
            refine lv_imul hx hb d_Mo_finds_328 ?_
            refine lv_iadd hx hb d_Mo_finds_329 ?_
            refine lv_iload_n hx hb d_Mo_finds_330 rfl (lv_at hl 3 rfl) ?_
            refine lv_iadd hx hb d_Mo_finds_331 ?_
            refine lv_topi (fun x_52 ex_52 => ?_)
            have h := lf_lE h ex_52
            refine lv_istore (lv' := [(4, .int x_52), (0, .ref M.o), (1, .int y_1), (2, .int y_2), (3, .int y_3)]) hx hb d_Mo_finds_332 hl (by decide) rfl (fun ls hl => ?_)
            refine lv_aload_n hx hb d_Mo_finds_334 rfl (lv_at hl 1 rfl) ?_
            refine va_get (D := (dC, dI)) (ci := 12) (v := .ref M.a_fixed) (C := R_Mo) (T := F_Mo) (N := 66) hx hb hts (fun w h => u_Mq_Mo w (i_Mo w h)) hown hK hP 0 rfl rfl 51 (by decide) (hts _ (u_Mq_Mo _ k_Mo_58)) (fun _ h9 => h9) rfl d_Mo_finds_335 ?_
            refine lv_iload hx hb d_Mo_finds_338 (lv_at hl 0 rfl) ?_
            obtain ⟨g_53, h⟩ := lf_gE h
            refine va_zald hx hb hK hP 21 20 rfl rfl g_53 d_Mo_finds_340 ?_
            refine lv_if_eq (tgt := 347) hx hb d_Mo_finds_341 (by decide) (fun c_54 => ?_) (fun c_54 => ?_)
            · have h := lf_t h c_54
              refine lv_aload_n hx hb d_Mo_finds_347 rfl (lv_at hl 1 rfl) ?_
              refine va_get (D := (dC, dI)) (ci := 12) (v := .ref M.a_built) (C := R_Mo) (T := F_Mo) (N := 66) hx hb hts (fun w h => u_Mq_Mo w (i_Mo w h)) hown hK hP 0 rfl rfl 55 (by decide) (hts _ (u_Mq_Mo _ k_Mo_62)) (fun _ h9 => h9) rfl d_Mo_finds_348 ?_
              refine lv_iload_n hx hb d_Mo_finds_351 rfl (lv_at hl 2 rfl) ?_
              refine lv_iload hx hb d_Mo_finds_352 (lv_at hl 0 rfl) ?_
              obtain ⟨g_55, h⟩ := lf_gE h
              refine va_iast hx hb hK hP hD hS 25 24 rfl rfl g_55 d_Mo_finds_354 (fun H locs hP hD hS => ?_)
              obtain ⟨S_56, eS_56, h⟩ := lf_lX h
              have hP := lx_newP eS_56 hP
              have hD := lx_newD eS_56 hD
              obtain ⟨x_57, ex_57, h⟩ := lf_lX h
              refine lv_iinc (v := x_57) (lv' := [(1, .int x_57), (4, .int x_52), (0, .ref M.o), (2, .int y_2), (3, .int y_3)]) hx hb d_Mo_finds_355 hl (k := 2) rfl (by rw [ex_57]; rfl) (by decide) rfl (fun ls hl => ?_)
              exact hB_358 _ hr_274 _ hr_286 x_57 y_2 y_3 S_56 _ _ _ h hP hD hS (lv_sub hl [2, 0, 3, 4] rfl)
            · have h := lf_f h c_54
              refine lv_goto (tgt := 358) hx hb d_Mo_finds_344 (by decide) ?_
              exact hB_358 _ hr_274 _ hr_286 y_1 y_2 y_3 S_48 _ _ _ h hP hD hS (lv_sub hl [1, 2, 3, 4] rfl)
  have hB_274 : ∀ (k : Nat), ∀ (y_1 : Int32) (y_2 : Int32) (S : MS) (H : Heap) (locs : List Loc) (ls : Array Slot), f_Mo_finds_274 K k y_1 y_2 S = some (r, S') → va_P (dC, dI) classes (wM M S) H → va_D A (wM M S) → va_S A s.heap H locs → lv_has ls 5 [(0, .ref M.o), (1, .int y_1), (2, .int y_2)] → W p l e ({ frames := 7, cells := 0, slots := 0, locals := 149 }) s m ([.ref M.o] : List Value).toArray below meth c H locs 0 0 Q (F0 m 274 ls []) := by
    intro k
    induction k with
    | zero => intro y_1 y_2 S H locs ls h; exact lf_no h
    | succ k hr_274 =>
      intro y_1 y_2 S H locs ls h hP hD hS hl
      rw [f_Mo_finds_274] at h
      refine lv_iload_n hx hb d_Mo_finds_274 rfl (lv_at hl 2 rfl) ?_
      refine lv_aload_n hx hb d_Mo_finds_275 rfl (lv_at hl 0 rfl) ?_
      refine va_get (D := (dC, dI)) (ci := 12) (v := .int S.v_k) (C := R_Mo) (T := F_Mo) (N := 66) hx hb hts (fun w h => u_Mq_Mo w (i_Mo w h)) hown hK hP 0 rfl rfl 17 (by decide) (hts _ (u_Mq_Mo _ k_Mo_24)) (fun _ h9 => h9) rfl d_Mo_finds_276 ?_
      refine lv_iconst (v := 2) hx hb d_Mo_finds_279 (by decide) ?_
      refine lv_iadd hx hb d_Mo_finds_280 ?_
      refine lv_icmp_ge (tgt := 370) hx hb d_Mo_finds_281 (by decide) (fun c_33 => ?_) (fun c_33 => ?_)
      · have h := lf_t h c_33
        refine lv_aload_n hx hb d_Mo_finds_370 rfl (lv_at hl 0 rfl) ?_
        refine va_get (D := (dC, dI)) (ci := 12) (v := .int S.v_builds) (C := R_Mo) (T := F_Mo) (N := 66) hx hb hts (fun w h => u_Mq_Mo w (i_Mo w h)) hown hK hP 0 rfl rfl 58 (by decide) (hts _ (u_Mq_Mo _ k_Mo_65)) (fun _ h9 => h9) rfl d_Mo_finds_371 ?_
        refine lv_iload_n hx hb d_Mo_finds_374 rfl (lv_at hl 1 rfl) ?_
        refine lv_icmp_gt (tgt := 382) hx hb d_Mo_finds_375 (by decide) (fun c_34 => ?_) (fun c_34 => ?_)
        · have h := lf_t h c_34
          refine lv_iconst (v := 0) hx hb d_Mo_finds_382 (by decide) ?_
          rw [hQ]
          have e1 : (0 : Int32) = r := congrArg Prod.fst (Option.some.inj h)
          have e2 : S = S' := congrArg Prod.snd (Option.some.inj h)
          have hP := lx_newP e2.symm hP
          have hD := lx_newD e2.symm hD
          exact W.zret (v := 0) hx hb hr rfl (fun t ht hW => ⟨⟨0, (), rfl, e1, by rw [ht]; exact hP, va_K.moved hW.alike hK, hD⟩, hS.F ht⟩) hS.2.2 d_Mo_finds_383
        · have h := lf_f h c_34
          refine lv_iconst (v := 1) hx hb d_Mo_finds_378 (by decide) ?_
          refine lv_goto (tgt := 383) hx hb d_Mo_finds_379 (by decide) ?_
          rw [hQ]
          have e1 : (1 : Int32) = r := congrArg Prod.fst (Option.some.inj h)
          have e2 : S = S' := congrArg Prod.snd (Option.some.inj h)
          have hP := lx_newP e2.symm hP
          have hD := lx_newD e2.symm hD
          exact W.zret (v := 1) hx hb hr rfl (fun t ht hW => ⟨⟨1, (), rfl, e1, by rw [ht]; exact hP, va_K.moved hW.alike hK, hD⟩, hS.F ht⟩) hS.2.2 d_Mo_finds_383
      · have h := lf_f h c_33
        refine lv_iconst (v := 0) hx hb d_Mo_finds_284 (by decide) ?_
        refine lv_istore_n (lv' := [(3, .int 0), (0, .ref M.o), (1, .int y_1), (2, .int y_2)]) hx hb d_Mo_finds_285 rfl hl (by decide) rfl (fun ls hl => ?_)
        exact hB_286 _ hr_274 K y_1 y_2 0 S _ _ _ h hP hD hS (lv_sub hl [1, 2, 3, 0] rfl)
  have hB_177 : ∀ (k : Nat), ∀ (y_1 : Int32) (S : MS) (H : Heap) (locs : List Loc) (ls : Array Slot), f_Mo_finds_177 K k y_1 S = some (r, S') → va_P (dC, dI) classes (wM M S) H → va_D A (wM M S) → va_S A s.heap H locs → lv_has ls 5 [(0, .ref M.o), (1, .int y_1)] → W p l e ({ frames := 7, cells := 0, slots := 0, locals := 149 }) s m ([.ref M.o] : List Value).toArray below meth c H locs 0 0 Q (F0 m 177 ls []) := by
    intro k
    induction k with
    | zero => intro y_1 S H locs ls h; exact lf_no h
    | succ k hr_177 =>
      intro y_1 S H locs ls h hP hD hS hl
      rw [f_Mo_finds_177] at h
      refine lv_iload_n hx hb d_Mo_finds_177 rfl (lv_at hl 1 rfl) ?_
      refine lv_aload_n hx hb d_Mo_finds_178 rfl (lv_at hl 0 rfl) ?_
      refine va_get (D := (dC, dI)) (ci := 12) (v := .int S.v_items) (C := R_Mo) (T := F_Mo) (N := 66) hx hb hts (fun w h => u_Mq_Mo w (i_Mo w h)) hown hK hP 0 rfl rfl 21 (by decide) (hts _ (u_Mq_Mo _ k_Mo_28)) (fun _ h9 => h9) rfl d_Mo_finds_179 ?_
      refine lv_icmp_ge (tgt := 270) hx hb d_Mo_finds_182 (by decide) (fun c_17 => ?_) (fun c_17 => ?_)
      · have h := lf_t h c_17
        refine lv_iconst (v := 0) hx hb d_Mo_finds_270 (by decide) ?_
        refine lv_istore_n (lv' := [(1, .int 0), (0, .ref M.o)]) hx hb d_Mo_finds_271 rfl hl (by decide) rfl (fun ls hl => ?_)
        refine lv_iconst (v := 2) hx hb d_Mo_finds_272 (by decide) ?_
        refine lv_istore_n (lv' := [(2, .int 2), (1, .int 0), (0, .ref M.o)]) hx hb d_Mo_finds_273 rfl hl (by decide) rfl (fun ls hl => ?_)
        exact hB_274 K 0 2 S _ _ _ h hP hD hS (lv_sub hl [2, 1, 0] rfl)
      · have h := lf_f h c_17
        refine lv_aload_n hx hb d_Mo_finds_185 rfl (lv_at hl 0 rfl) ?_
        refine lv_dup hx hb d_Mo_finds_186 rfl ?_
        refine va_get (D := (dC, dI)) (ci := 12) (v := .int S.v_builds) (C := R_Mo) (T := F_Mo) (N := 66) hx hb hts (fun w h => u_Mq_Mo w (i_Mo w h)) hown hK hP 0 rfl rfl 58 (by decide) (hts _ (u_Mq_Mo _ k_Mo_65)) (fun _ h9 => h9) rfl d_Mo_finds_187 ?_
        refine lv_aload_n hx hb d_Mo_finds_190 rfl (lv_at hl 0 rfl) ?_
        refine lv_iload_n hx hb d_Mo_finds_191 rfl (lv_at hl 1 rfl) ?_
        obtain ⟨r_18, S_18, hc_18, h⟩ := lf_cE h
        have hFc := lx_free hD hS hA
        refine va_calli (va_runV (As := [.int y_1]) (rest := [.int S.v_builds, .ref M.o]) ⟨hx, hb, hml, hown, hts⟩ (l_Mo_isFolder l dC dI X _ hc_18) (cwV 1 hts (gwV good_Mq (u_Mq_Mo _ k_Mo_118) (u_Mq_Mo _ k_Mo_119) (u_Mq_Mo _ k_Mo_489) (u_Mq_Mo _ k_Mo_0) (wcs (u_Mq_Mo _ k_Mo_120) (fun _ h => h))) rfl rfl rfl (by decide +kernel) ⟨Nat.le_of_ble_eq_true rfl, Nat.le_of_ble_eq_true rfl⟩) (pv_ofE X.same (hEw _ _ hS) hP hK hD (va_recv hK hP (ci := 12) (q0 := 0) rfl rfl)) rfl rfl hl.1 rfl (lv_room (Nat.le_of_ble_eq_true rfl)) d_Mo_finds_192 ⟨by decide, by decide⟩) hS (fun q _ h => hFc q h) hFc (fun r_ u t H locs ht hvm hw hB hz1 hk1 hS => ?_)
        rw [hw]
        obtain ⟨hP, -, hD⟩ := hB
        rw [ht] at hP
        have hD := lx_dj hD hFc
        refine lv_if_eq (tgt := 215) hx hb d_Mo_finds_195 (by decide) (fun c_19 => ?_) (fun c_19 => ?_)
        · have h := lf_t h c_19
          refine lv_aload_n hx hb d_Mo_finds_215 rfl (lv_at hl 0 rfl) ?_
          refine lv_iload_n hx hb d_Mo_finds_216 rfl (lv_at hl 1 rfl) ?_
          obtain ⟨r_20, S_20, hc_20, h⟩ := lf_cE h
          have hFc := lx_free hD hS hA
          refine va_calli (va_runV (As := [.int y_1]) (rest := [.int S.v_builds, .ref M.o]) ⟨hx, hb, hml, hown, hts⟩ (l_Mo_fileBlocks l dC dI X _ hc_20) (cwV 1 hts (gwV good_Mq (u_Mq_Mo _ k_Mo_397) (u_Mq_Mo _ k_Mo_398) (u_Mq_Mo _ k_Mo_528) (u_Mq_Mo _ k_Mo_0) (wcs (u_Mq_Mo _ k_Mo_399) (fun _ h => h))) rfl rfl rfl (by decide +kernel) ⟨Nat.le_of_ble_eq_true rfl, Nat.le_of_ble_eq_true rfl⟩) (pv_ofE X.same (hEw _ _ hS) hP hK hD (va_recv hK hP (ci := 12) (q0 := 0) rfl rfl)) rfl rfl hl.1 rfl (lv_room (Nat.le_of_ble_eq_true rfl)) d_Mo_finds_217 ⟨by decide, by decide⟩) hS (fun q _ h => hFc q h) hFc (fun r_ u t H locs ht hvm hw hB hz1 hk1 hS => ?_)
          rw [hw]
          obtain ⟨hP, -, hD⟩ := hB
          rw [ht] at hP
          have hD := lx_dj hD hFc
          obtain ⟨r_21, hc_21, h⟩ := lf_bE h
          have hFc := lx_free0 hS hA
          refine va_calli (va_runS (As := [.int r_20]) (rest := [.int S.v_builds, .ref M.o]) ⟨hx, hb, hml, hown, hts⟩ (l_Mo_indirect l dC dI  _ hc_21) (va_cwS 1 hts (gwS good_Mq (u_Mq_Mo _ k_Mo_394) (u_Mq_Mo _ k_Mo_395) (u_Mq_Mo _ k_Mo_0) (wcs (u_Mq_Mo _ k_Mo_396) (fun _ h => h))) rfl rfl rfl (by decide +kernel) ⟨Nat.le_of_ble_eq_true rfl, Nat.le_of_ble_eq_true rfl⟩) (ps_of (W := []) (tys := []) (hP.sub (ws' := []) [] rfl) (hK.sub [] rfl) (hD.sub (ws' := []) [] (by decide) rfl)) rfl rfl hl.1 rfl (lv_room (Nat.le_of_ble_eq_true rfl)) d_Mo_finds_220 ⟨by decide, by decide⟩) hS (fun q _ h => hFc q h) hFc (fun r_ u t H locs ht hvm hw hB hz1 hk1 hS => ?_)
          rw [hw]
          have hP := lx_stat (A := A) hP hk1
          exact hB_223 _ hr_177 y_1 S.v_builds r_21 S_20 _ _ _ h hP hD hS (lv_sub hl [0, 1] rfl)
        · have h := lf_f h c_19
          refine lv_aload_n hx hb d_Mo_finds_198 rfl (lv_at hl 0 rfl) ?_
          refine lv_iload_n hx hb d_Mo_finds_199 rfl (lv_at hl 1 rfl) ?_
          obtain ⟨r_22, S_22, hc_22, h⟩ := lf_cE h
          have hFc := lx_free hD hS hA
          refine va_calli (va_runV (As := [.int y_1]) (rest := [.int S.v_builds, .ref M.o]) ⟨hx, hb, hml, hown, hts⟩ (l_Mo_folderBlocks l dC dI X _ hc_22) (cwV 1 hts (gwV good_Mq (u_Mq_Mo _ k_Mo_289) (u_Mq_Mo _ k_Mo_290) (u_Mq_Mo _ k_Mo_525) (u_Mq_Mo _ k_Mo_0) (wcs (u_Mq_Mo _ k_Mo_291) (fun _ h => h))) rfl rfl rfl (by decide +kernel) ⟨Nat.le_of_ble_eq_true rfl, Nat.le_of_ble_eq_true rfl⟩) (pv_ofE X.same (hEw _ _ hS) hP hK hD (va_recv hK hP (ci := 12) (q0 := 0) rfl rfl)) rfl rfl hl.1 rfl (lv_room (Nat.le_of_ble_eq_true rfl)) d_Mo_finds_200 ⟨by decide, by decide⟩) hS (fun q _ h => hFc q h) hFc (fun r_ u t H locs ht hvm hw hB hz1 hk1 hS => ?_)
          rw [hw]
          obtain ⟨hP, -, hD⟩ := hB
          rw [ht] at hP
          have hD := lx_dj hD hFc
          refine lv_aload_n hx hb d_Mo_finds_203 rfl (lv_at hl 0 rfl) ?_
          refine lv_iload_n hx hb d_Mo_finds_204 rfl (lv_at hl 1 rfl) ?_
          obtain ⟨r_23, S_23, hc_23, h⟩ := lf_cE h
          have hFc := lx_free hD hS hA
          refine va_calli (va_runV (As := [.int y_1]) (rest := [.int r_22, .int S.v_builds, .ref M.o]) ⟨hx, hb, hml, hown, hts⟩ (l_Mo_folderBlocks l dC dI X _ hc_23) (cwV 1 hts (gwV good_Mq (u_Mq_Mo _ k_Mo_289) (u_Mq_Mo _ k_Mo_290) (u_Mq_Mo _ k_Mo_525) (u_Mq_Mo _ k_Mo_0) (wcs (u_Mq_Mo _ k_Mo_291) (fun _ h => h))) rfl rfl rfl (by decide +kernel) ⟨Nat.le_of_ble_eq_true rfl, Nat.le_of_ble_eq_true rfl⟩) (pv_ofE X.same (hEw _ _ hS) hP hK hD (va_recv hK hP (ci := 12) (q0 := 0) rfl rfl)) rfl rfl hl.1 rfl (lv_room (Nat.le_of_ble_eq_true rfl)) d_Mo_finds_205 ⟨by decide, by decide⟩) hS (fun q _ h => hFc q h) hFc (fun r_ u t H locs ht hvm hw hB hz1 hk1 hS => ?_)
          rw [hw]
          obtain ⟨hP, -, hD⟩ := hB
          rw [ht] at hP
          have hD := lx_dj hD hFc
          obtain ⟨r_24, hc_24, h⟩ := lf_bE h
          have hFc := lx_free0 hS hA
          refine va_calli (va_runS (As := [.int r_23]) (rest := [.int r_22, .int S.v_builds, .ref M.o]) ⟨hx, hb, hml, hown, hts⟩ (l_Mo_indirect l dC dI  _ hc_24) (va_cwS 1 hts (gwS good_Mq (u_Mq_Mo _ k_Mo_394) (u_Mq_Mo _ k_Mo_395) (u_Mq_Mo _ k_Mo_0) (wcs (u_Mq_Mo _ k_Mo_396) (fun _ h => h))) rfl rfl rfl (by decide +kernel) ⟨Nat.le_of_ble_eq_true rfl, Nat.le_of_ble_eq_true rfl⟩) (ps_of (W := []) (tys := []) (hP.sub (ws' := []) [] rfl) (hK.sub [] rfl) (hD.sub (ws' := []) [] (by decide) rfl)) rfl rfl hl.1 rfl (lv_room (Nat.le_of_ble_eq_true rfl)) d_Mo_finds_208 ⟨by decide, by decide⟩) hS (fun q _ h => hFc q h) hFc (fun r_ u t H locs ht hvm hw hB hz1 hk1 hS => ?_)
          rw [hw]
          have hP := lx_stat (A := A) hP hk1
          refine lv_iadd hx hb d_Mo_finds_211 ?_
          refine lv_goto (tgt := 223) hx hb d_Mo_finds_212 (by decide) ?_
          exact hB_223 _ hr_177 y_1 S.v_builds (r_22 + r_24) S_23 _ _ _ h hP hD hS (lv_sub hl [0, 1] rfl)
  have hB_36 : ∀ (k : Nat), ∀ (y_1 : Int32) (S : MS) (H : Heap) (locs : List Loc) (ls : Array Slot), f_Mo_finds_36 K k y_1 S = some (r, S') → va_P (dC, dI) classes (wM M S) H → va_D A (wM M S) → va_S A s.heap H locs → lv_has ls 5 [(0, .ref M.o), (1, .int y_1)] → W p l e ({ frames := 7, cells := 0, slots := 0, locals := 149 }) s m ([.ref M.o] : List Value).toArray below meth c H locs 0 0 Q (F0 m 36 ls []) := by
    intro k
    induction k with
    | zero => intro y_1 S H locs ls h; exact lf_no h
    | succ k hr_36 =>
      intro y_1 S H locs ls h hP hD hS hl
      rw [f_Mo_finds_36] at h
      refine lv_iload_n hx hb d_Mo_finds_36 rfl (lv_at hl 1 rfl) ?_
      refine lv_aload_n hx hb d_Mo_finds_37 rfl (lv_at hl 0 rfl) ?_
      refine va_get (D := (dC, dI)) (ci := 12) (v := .int S.v_k) (C := R_Mo) (T := F_Mo) (N := 66) hx hb hts (fun w h => u_Mq_Mo w (i_Mo w h)) hown hK hP 0 rfl rfl 17 (by decide) (hts _ (u_Mq_Mo _ k_Mo_24)) (fun _ h9 => h9) rfl d_Mo_finds_38 ?_
      refine lv_iconst (v := 2) hx hb d_Mo_finds_41 (by decide) ?_
      refine lv_iadd hx hb d_Mo_finds_42 ?_
      refine lv_icmp_ge (tgt := 150) hx hb d_Mo_finds_43 (by decide) (fun c_8 => ?_) (fun c_8 => ?_)
      · have h := lf_t h c_8
        refine lv_aload_n hx hb d_Mo_finds_150 rfl (lv_at hl 0 rfl) ?_
        refine lv_iconst (v := 3) hx hb d_Mo_finds_151 (by decide) ?_
        refine lv_aload_n hx hb d_Mo_finds_152 rfl (lv_at hl 0 rfl) ?_
        obtain ⟨r_9, S_9, hc_9, h⟩ := lf_cE h
        have hFc := lx_free hD hS hA
        refine va_calli (va_runV (As := []) (rest := [.int 3, .ref M.o]) ⟨hx, hb, hml, hown, hts⟩ (l_Mo_recordBlocks l dC dI X _ hc_9) (cwV 0 hts (gwV good_Mq (u_Mq_Mo _ k_Mo_269) (u_Mq_Mo _ k_Mo_270) (u_Mq_Mo _ k_Mo_527) (u_Mq_Mo _ k_Mo_0) (wcs (u_Mq_Mo _ k_Mo_271) (fun _ h => h))) rfl rfl rfl (by decide +kernel) ⟨Nat.le_of_ble_eq_true rfl, Nat.le_of_ble_eq_true rfl⟩) (pv_ofE X.same (hEw _ _ hS) hP hK hD (va_recv hK hP (ci := 12) (q0 := 0) rfl rfl)) rfl rfl hl.1 rfl (lv_room (Nat.le_of_ble_eq_true rfl)) d_Mo_finds_153 ⟨by decide, by decide⟩) hS (fun q _ h => hFc q h) hFc (fun r_ u t H locs ht hvm hw hB hz1 hk1 hS => ?_)
        rw [hw]
        obtain ⟨hP, -, hD⟩ := hB
        rw [ht] at hP
        have hD := lx_dj hD hFc
        obtain ⟨r_10, hc_10, h⟩ := lf_bE h
        have hFc := lx_free0 hS hA
        refine va_calli (va_runS (As := [.int r_9]) (rest := [.int 3, .ref M.o]) ⟨hx, hb, hml, hown, hts⟩ (l_Mo_indirect l dC dI  _ hc_10) (va_cwS 1 hts (gwS good_Mq (u_Mq_Mo _ k_Mo_394) (u_Mq_Mo _ k_Mo_395) (u_Mq_Mo _ k_Mo_0) (wcs (u_Mq_Mo _ k_Mo_396) (fun _ h => h))) rfl rfl rfl (by decide +kernel) ⟨Nat.le_of_ble_eq_true rfl, Nat.le_of_ble_eq_true rfl⟩) (ps_of (W := []) (tys := []) (hP.sub (ws' := []) [] rfl) (hK.sub [] rfl) (hD.sub (ws' := []) [] (by decide) rfl)) rfl rfl hl.1 rfl (lv_room (Nat.le_of_ble_eq_true rfl)) d_Mo_finds_156 ⟨by decide, by decide⟩) hS (fun q _ h => hFc q h) hFc (fun r_ u t H locs ht hvm hw hB hz1 hk1 hS => ?_)
        rw [hw]
        have hP := lx_stat (A := A) hP hk1
        refine lv_iadd hx hb d_Mo_finds_159 ?_
        refine va_put (D := (dC, dI)) (ci := 12) (v := .int (3 + r_10)) (ty := .int) (C := R_Mo) (T := F_Mo) (N := 66) hx hb hts (fun w h => u_Mq_Mo w (i_Mo w h)) t_Mo t_Mo_ok n_Mo hown hK hP hD hS 0 rfl rfl 58 (by decide) (hts _ (u_Mq_Mo _ k_Mo_65)) (fun _ h9 => h9) rfl (by decide +kernel) rfl rfl (Nat.le_of_ble_eq_true rfl) d_Mo_finds_160 (fun H locs hP hD hS => ?_)
        obtain ⟨S_11, eS_11, h⟩ := lf_lX h
        have hP := lx_newP eS_11 hP
        have hD := lx_newD eS_11 hD
        refine lv_aload_n hx hb d_Mo_finds_163 rfl (lv_at hl 0 rfl) ?_
        refine lv_aload_n hx hb d_Mo_finds_164 rfl (lv_at hl 0 rfl) ?_
        refine va_get (D := (dC, dI)) (ci := 12) (v := .int S_11.v_a) (C := R_Mo) (T := F_Mo) (N := 66) hx hb hts (fun w h => u_Mq_Mo w (i_Mo w h)) hown hK hP 0 rfl rfl 16 (by decide) (hts _ (u_Mq_Mo _ k_Mo_23)) (fun _ h9 => h9) rfl d_Mo_finds_165 ?_
        refine lv_iconst (v := 2) hx hb d_Mo_finds_168 (by decide) ?_
        refine lv_idiv hx hb d_Mo_finds_169 (by decide) ?_
        refine lv_iconst (v := 3) hx hb d_Mo_finds_170 (by decide) ?_
        refine lv_isub hx hb d_Mo_finds_171 ?_
        refine va_put (D := (dC, dI)) (ci := 12) (v := .int ((S_11.v_a / 2) - 3)) (ty := .int) (C := R_Mo) (T := F_Mo) (N := 66) hx hb hts (fun w h => u_Mq_Mo w (i_Mo w h)) t_Mo t_Mo_ok n_Mo hown hK hP hD hS 0 rfl rfl 59 (by decide) (hts _ (u_Mq_Mo _ k_Mo_66)) (fun _ h9 => h9) rfl (by decide +kernel) rfl rfl (Nat.le_of_ble_eq_true rfl) d_Mo_finds_172 (fun H locs hP hD hS => ?_)
        obtain ⟨S_12, eS_12, h⟩ := lf_lX h
        have hP := lx_newP eS_12 hP
        have hD := lx_newD eS_12 hD
        refine lv_iconst (v := 0) hx hb d_Mo_finds_175 (by decide) ?_
        refine lv_istore_n (lv' := [(1, .int 0), (0, .ref M.o)]) hx hb d_Mo_finds_176 rfl hl (by decide) rfl (fun ls hl => ?_)
        exact hB_177 K 0 S_12 _ _ _ h hP hD hS (lv_sub hl [1, 0] rfl)
      · have h := lf_f h c_8
        refine lv_aload_n hx hb d_Mo_finds_46 rfl (lv_at hl 0 rfl) ?_
        refine lv_iload_n hx hb d_Mo_finds_47 rfl (lv_at hl 1 rfl) ?_
        obtain ⟨r_13, S_13, hc_13, h⟩ := lf_cE h
        have hFc := lx_free hD hS hA
        refine va_calli (va_runV (As := [.int y_1]) (rest := []) ⟨hx, hb, hml, hown, hts⟩ (l_Mo_entry l dC dI X _ hc_13) (cwV 1 hts (gwV good_Mq (u_Mq_Mo _ k_Mo_110) (u_Mq_Mo _ k_Mo_111) (u_Mq_Mo _ k_Mo_480) (u_Mq_Mo _ k_Mo_0) (wcs (u_Mq_Mo _ k_Mo_112) (fun _ h => h))) rfl rfl rfl (by decide +kernel) ⟨Nat.le_of_ble_eq_true rfl, Nat.le_of_ble_eq_true rfl⟩) (pv_ofE X.same (hEw _ _ hS) hP hK hD (va_recv hK hP (ci := 12) (q0 := 0) rfl rfl)) rfl rfl hl.1 rfl (lv_room (Nat.le_of_ble_eq_true rfl)) d_Mo_finds_48 ⟨by decide, by decide⟩) hS (fun q _ h => hFc q h) hFc (fun r_ u t H locs ht hvm hw hB hz1 hk1 hS => ?_)
        rw [hw]
        obtain ⟨hP, -, hD⟩ := hB
        rw [ht] at hP
        have hD := lx_dj hD hFc
        refine lv_if_eq (tgt := 144) hx hb d_Mo_finds_51 (by decide) (fun c_14 => ?_) (fun c_14 => ?_)
        · have h := lf_t h c_14
          exact hB_144 _ hr_36 y_1 S_13 _ _ _ h hP hD hS (lv_sub hl [0, 1] rfl)
        · have h := lf_f h c_14
          refine lv_aload_n hx hb d_Mo_finds_54 rfl (lv_at hl 0 rfl) ?_
          refine lv_iload_n hx hb d_Mo_finds_55 rfl (lv_at hl 1 rfl) ?_
          obtain ⟨r_15, S_15, hc_15, h⟩ := lf_cE h
          have hFc := lx_free hD hS hA
          refine va_calli (va_runV (As := [.int y_1]) (rest := []) ⟨hx, hb, hml, hown, hts⟩ (l_Mo_isFixed l dC dI X _ hc_15) (cwV 1 hts (gwV good_Mq (u_Mq_Mo _ k_Mo_391) (u_Mq_Mo _ k_Mo_392) (u_Mq_Mo _ k_Mo_533) (u_Mq_Mo _ k_Mo_0) (wcs (u_Mq_Mo _ k_Mo_393) (fun _ h => h))) rfl rfl rfl (by decide +kernel) ⟨Nat.le_of_ble_eq_true rfl, Nat.le_of_ble_eq_true rfl⟩) (pv_ofE X.same (hEw _ _ hS) hP hK hD (va_recv hK hP (ci := 12) (q0 := 0) rfl rfl)) rfl rfl hl.1 rfl (lv_room (Nat.le_of_ble_eq_true rfl)) d_Mo_finds_56 ⟨by decide, by decide⟩) hS (fun q _ h => hFc q h) hFc (fun r_ u t H locs ht hvm hw hB hz1 hk1 hS => ?_)
          rw [hw]
          obtain ⟨hP, -, hD⟩ := hB
          rw [ht] at hP
          have hD := lx_dj hD hFc
          refine lv_if_ne (tgt := 65) hx hb d_Mo_finds_59 (by decide) (fun c_16 => ?_) (fun c_16 => ?_)
          · have h := lf_f h c_16
            refine lv_iconst (v := 2) hx hb d_Mo_finds_65 (by decide) ?_
            refine lv_istore_n (lv' := [(2, .int 2), (0, .ref M.o), (1, .int y_1)]) hx hb d_Mo_finds_66 rfl hl (by decide) rfl (fun ls hl => ?_)
            exact hB_67 _ hr_36 K y_1 2 S_15 _ _ _ h hP hD hS (lv_sub hl [1, 2, 0] rfl)
          · have h := lf_t h c_16
            refine lv_goto (tgt := 144) hx hb d_Mo_finds_62 (by decide) ?_
            exact hB_144 _ hr_36 y_1 S_15 _ _ _ h hP hD hS (lv_sub hl [0, 1] rfl)
  have hB_7 : ∀ (k : Nat), ∀ (y_1 : Int32) (S : MS) (H : Heap) (locs : List Loc) (ls : Array Slot), f_Mo_finds_7 K k y_1 S = some (r, S') → va_P (dC, dI) classes (wM M S) H → va_D A (wM M S) → va_S A s.heap H locs → lv_has ls 5 [(0, .ref M.o), (1, .int y_1)] → W p l e ({ frames := 7, cells := 0, slots := 0, locals := 149 }) s m ([.ref M.o] : List Value).toArray below meth c H locs 0 0 Q (F0 m 7 ls []) := by
    intro k
    induction k with
    | zero => intro y_1 S H locs ls h; exact lf_no h
    | succ k hr_7 =>
      intro y_1 S H locs ls h hP hD hS hl
      rw [f_Mo_finds_7] at h
      refine lv_iload_n hx hb d_Mo_finds_7 rfl (lv_at hl 1 rfl) ?_
      refine lv_sipush (v := 560) hx hb d_Mo_finds_8 (by decide) ?_
      refine lv_icmp_ge (tgt := 34) hx hb d_Mo_finds_11 (by decide) (fun c_2 => ?_) (fun c_2 => ?_)
      · have h := lf_t h c_2
        refine lv_iconst (v := 2) hx hb d_Mo_finds_34 (by decide) ?_
        refine lv_istore_n (lv' := [(1, .int 2), (0, .ref M.o)]) hx hb d_Mo_finds_35 rfl hl (by decide) rfl (fun ls hl => ?_)
        exact hB_36 K 2 S _ _ _ h hP hD hS (lv_sub hl [1, 0] rfl)
      · have h := lf_f h c_2
        refine lv_aload_n hx hb d_Mo_finds_14 rfl (lv_at hl 0 rfl) ?_
        refine va_get (D := (dC, dI)) (ci := 12) (v := .ref M.a_moved) (C := R_Mo) (T := F_Mo) (N := 66) hx hb hts (fun w h => u_Mq_Mo w (i_Mo w h)) hown hK hP 0 rfl rfl 53 (by decide) (hts _ (u_Mq_Mo _ k_Mo_60)) (fun _ h9 => h9) rfl d_Mo_finds_15 ?_
        refine lv_iload_n hx hb d_Mo_finds_18 rfl (lv_at hl 1 rfl) ?_
        refine lv_iconst (v := 0) hx hb d_Mo_finds_19 (by decide) ?_
        obtain ⟨g_3, h⟩ := lf_gE h
        refine va_iast hx hb hK hP hD hS 23 22 rfl rfl g_3 d_Mo_finds_20 (fun H locs hP hD hS => ?_)
        obtain ⟨S_4, eS_4, h⟩ := lf_lX h
        have hP := lx_newP eS_4 hP
        have hD := lx_newD eS_4 hD
        refine lv_aload_n hx hb d_Mo_finds_21 rfl (lv_at hl 0 rfl) ?_
        refine va_get (D := (dC, dI)) (ci := 12) (v := .ref M.a_aimed) (C := R_Mo) (T := F_Mo) (N := 66) hx hb hts (fun w h => u_Mq_Mo w (i_Mo w h)) hown hK hP 0 rfl rfl 54 (by decide) (hts _ (u_Mq_Mo _ k_Mo_61)) (fun _ h9 => h9) rfl d_Mo_finds_22 ?_
        refine lv_iload_n hx hb d_Mo_finds_25 rfl (lv_at hl 1 rfl) ?_
        refine lv_iconst (v := 0) hx hb d_Mo_finds_26 (by decide) ?_
        obtain ⟨g_5, h⟩ := lf_gE h
        refine va_iast hx hb hK hP hD hS 24 23 rfl rfl g_5 d_Mo_finds_27 (fun H locs hP hD hS => ?_)
        obtain ⟨S_6, eS_6, h⟩ := lf_lX h
        have hP := lx_newP eS_6 hP
        have hD := lx_newD eS_6 hD
        obtain ⟨x_7, ex_7, h⟩ := lf_lX h
        refine lv_iinc (v := x_7) (lv' := [(1, .int x_7), (0, .ref M.o)]) hx hb d_Mo_finds_28 hl (k := 1) rfl (by rw [ex_7]; rfl) (by decide) rfl (fun ls hl => ?_)
        refine lv_goto (tgt := 7) hx hb d_Mo_finds_31 (by decide) ?_
        exact hr_7 x_7 S_6 _ _ _ h hP hD hS (lv_sub hl [1, 0] rfl)
  rw [f_Mo_finds] at h
  refine lv_aload_n hx hb d_Mo_finds_0 rfl (lv_at hl 0 rfl) ?_
  refine lv_iconst (v := 0) hx hb d_Mo_finds_1 (by decide) ?_
  refine va_put (D := (dC, dI)) (ci := 12) (v := .int 0) (ty := .int) (C := R_Mo) (T := F_Mo) (N := 66) hx hb hts (fun w h => u_Mq_Mo w (i_Mo w h)) t_Mo t_Mo_ok n_Mo hown hK hP hD hS 0 rfl rfl 57 (by decide) (hts _ (u_Mq_Mo _ k_Mo_64)) (fun _ h9 => h9) rfl (by decide +kernel) rfl rfl (Nat.le_of_ble_eq_true rfl) d_Mo_finds_2 (fun H locs hP hD hS => ?_)
  obtain ⟨S_1, eS_1, h⟩ := lf_lX h
  have hP := lx_newP eS_1 hP
  have hD := lx_newD eS_1 hD
  refine lv_iconst (v := 0) hx hb d_Mo_finds_5 (by decide) ?_
  refine lv_istore_n (lv' := [(1, .int 0), (0, .ref M.o)]) hx hb d_Mo_finds_6 rfl hl (by decide) rfl (fun ls hl => ?_)
  exact hB_7 K 0 S_1 _ _ _ h hP hD hS (lv_sub hl [1, 0] rfl)
set_option maxHeartbeats 4000000 in
set_option maxRecDepth 100000 in
theorem l_Mo_refusal (l : Launch) (dC : Nat → ClassId) (dI : Nat → Nat → Nat) {K : Nat} {M : MA} {E : State → Prop} (X : lx_X l dC dI K M E) (sz : Nat) {S S' : MS} {p0 : Int32} {r : Int32} (h : f_Mo_refusal K S p0 = some (r, S')) : Met l y_Mo_refusal (.code y_Mo_refusal b_Mo_refusal 2 (some .int) :: V_Mq) ({ frames := 13, cells := 0, slots := 0, locals := 368 }) (va_Pc [.ref M.o, .int p0] (fun U => U.heap.size = sz ∧ at_ (dC, dI) (fun _ => True) (wM M S) (tM M) U ∧ E U)) (va_Qi (fun (r_ : Int32) (u : Unit) => r_ = r) (fun (u : Unit) t => at_ (dC, dI) (va_A (wM M S) sz) (wM M S') (tM M) t) (va_A (wM M S) sz)) 0 0 (va_A (wM M S) sz) := by
  refine Met.ofW (cc := b_Mo_refusal) (maxL := 2) (ret := (some .int)) (by decide) rfl ?_
  intro p e s m args below meth c s₁ B hml hv
  obtain ⟨rfl, hsz, ⟨hP, hK, hD0⟩, hE⟩ := hv
  have hx := B.exec
  have hb := B.bytes
  have hr := B.returns
  have hts0 := atoms_spec (ws := .code y_Mo_refusal b_Mo_refusal 2 (some .int) :: V_Mq) B.pre
  have hts : ∀ w ∈ V_Mq, w.before ([.ref M.o, .int p0] : List Value).toArray s = true := fun w h => hts0 w (List.mem_cons_of_mem _ h)
  have hown : s.vm.findClass R_Mo = some m.cls := findClass_of_methodNamed B.named
  subst hsz
  have hD := hD0.self (sz := s.heap.size)
  generalize hAe : va_A (wM M S) s.heap.size = A at hD ⊢
  have hA : ∀ q : Nat, s.heap.size ≤ q → A q := fun q h => by rw [← hAe]; exact Or.inr h
  have hS : va_S A s.heap s.heap [] := va_S.rf
  have hP : va_P (dC, dI) classes (wM M S) s.heap := hP
  have hK : va_K (dC, dI) classes (tM M) s := hK
  have hEw : ∀ (H : Heap) (locs : List Loc), va_S A s.heap H locs → ∀ U : State, U.heap = H → s.WarmedH U.vm → E U := fun H locs hS U hU hW => lx_kept X hE hAe hS hU hW
  have hl := lv_entry ([.ref M.o, .int p0]) (n := 2) (Nat.le_of_ble_eq_true rfl)
  rw [lg_entry_eq]
  generalize (lg_sl ([.ref M.o, .int p0]) ++ List.replicate (2 - (lg_sl ([.ref M.o, .int p0])).length) Slot.unset).toArray = ls at hl ⊢
  have hl : lv_has ls 2 [(0, .ref M.o), (1, .int p0)] := hl
  refine qabs (fun Q hQ => ?_)
  have hB_52 : ∀ (y_1 : Int32) (S : MS) (H : Heap) (locs : List Loc) (ls : Array Slot), f_Mo_refusal_52 K y_1 S = some (r, S') → va_P (dC, dI) classes (wM M S) H → va_D A (wM M S) → va_S A s.heap H locs → lv_has ls 2 [(0, .ref M.o), (1, .int y_1)] → W p l e ({ frames := 13, cells := 0, slots := 0, locals := 368 }) s m ([.ref M.o, .int p0] : List Value).toArray below meth c H locs 0 0 Q (F0 m 52 ls []) := by
    intro y_1 S H locs ls h hP hD hS hl
    rw [f_Mo_refusal_52] at h
    refine lv_aload_n hx hb d_Mo_refusal_52 rfl (lv_at hl 0 rfl) ?_
    refine lv_iload_n hx hb d_Mo_refusal_53 rfl (lv_at hl 1 rfl) ?_
    refine va_put (D := (dC, dI)) (ci := 12) (v := .int y_1) (ty := .int) (C := R_Mo) (T := F_Mo) (N := 66) hx hb hts (fun w h => u_Mq_Mo w (i_Mo w h)) t_Mo t_Mo_ok n_Mo hown hK hP hD hS 0 rfl rfl 47 (by decide) (hts _ (u_Mq_Mo _ k_Mo_54)) (fun _ h9 => h9) rfl (by decide +kernel) rfl rfl (Nat.le_of_ble_eq_true rfl) d_Mo_refusal_54 (fun H locs hP hD hS => ?_)
    obtain ⟨S_7, eS_7, h⟩ := lf_lX h
    have hP := lx_newP eS_7 hP
    have hD := lx_newD eS_7 hD
    refine lv_aload_n hx hb d_Mo_refusal_57 rfl (lv_at hl 0 rfl) ?_
    refine lv_aload_n hx hb d_Mo_refusal_58 rfl (lv_at hl 0 rfl) ?_
    refine va_get (D := (dC, dI)) (ci := 12) (v := .int S_7.v_n) (C := R_Mo) (T := F_Mo) (N := 66) hx hb hts (fun w h => u_Mq_Mo w (i_Mo w h)) hown hK hP 0 rfl rfl 0 (by decide) (hts _ (u_Mq_Mo _ k_Mo_7)) (fun _ h9 => h9) rfl d_Mo_refusal_59 ?_
    refine lv_iconst (v := 2) hx hb d_Mo_refusal_62 (by decide) ?_
    refine lv_idiv hx hb d_Mo_refusal_63 (by decide) ?_
    refine va_put (D := (dC, dI)) (ci := 12) (v := .int (S_7.v_n / 2)) (ty := .int) (C := R_Mo) (T := F_Mo) (N := 66) hx hb hts (fun w h => u_Mq_Mo w (i_Mo w h)) t_Mo t_Mo_ok n_Mo hown hK hP hD hS 0 rfl rfl 50 (by decide) (hts _ (u_Mq_Mo _ k_Mo_57)) (fun _ h9 => h9) rfl (by decide +kernel) rfl rfl (Nat.le_of_ble_eq_true rfl) d_Mo_refusal_64 (fun H locs hP hD hS => ?_)
    obtain ⟨S_8, eS_8, h⟩ := lf_lX h
    have hP := lx_newP eS_8 hP
    have hD := lx_newD eS_8 hD
    refine lv_aload_n hx hb d_Mo_refusal_67 rfl (lv_at hl 0 rfl) ?_
    refine lv_aload_n hx hb d_Mo_refusal_68 rfl (lv_at hl 0 rfl) ?_
    refine va_get (D := (dC, dI)) (ci := 12) (v := .int S_8.v_blocks) (C := R_Mo) (T := F_Mo) (N := 66) hx hb hts (fun w h => u_Mq_Mo w (i_Mo w h)) hown hK hP 0 rfl rfl 50 (by decide) (hts _ (u_Mq_Mo _ k_Mo_57)) (fun _ h9 => h9) rfl d_Mo_refusal_69 ?_
    refine lv_iconst (v := 1) hx hb d_Mo_refusal_72 (by decide) ?_
    refine lv_isub hx hb d_Mo_refusal_73 ?_
    refine lv_aload_n hx hb d_Mo_refusal_74 rfl (lv_at hl 0 rfl) ?_
    refine va_get (D := (dC, dI)) (ci := 12) (v := .int S_8.v_per) (C := R_Mo) (T := F_Mo) (N := 66) hx hb hts (fun w h => u_Mq_Mo w (i_Mo w h)) hown hK hP 0 rfl rfl 47 (by decide) (hts _ (u_Mq_Mo _ k_Mo_54)) (fun _ h9 => h9) rfl d_Mo_refusal_75 ?_
    obtain ⟨r_9, hc_9, h⟩ := lf_bE h
    have hFc := lx_free0 hS hA
    refine va_calli (va_runS (As := [.int (S_8.v_blocks - 1), .int S_8.v_per]) (rest := [.ref M.o]) ⟨hx, hb, hml, hown, hts⟩ (l_Mo_whole l dC dI  _ hc_9) (va_cwS 2 hts (gwS good_Mq (u_Mq_Mo _ k_Mo_178) (u_Mq_Mo _ k_Mo_179) (u_Mq_Mo _ k_Mo_0) (wcs (u_Mq_Mo _ k_Mo_180) (fun _ h => h))) rfl rfl rfl (by decide +kernel) ⟨Nat.le_of_ble_eq_true rfl, Nat.le_of_ble_eq_true rfl⟩) (ps_of (W := []) (tys := []) (hP.sub (ws' := []) [] rfl) (hK.sub [] rfl) (hD.sub (ws' := []) [] (by decide) rfl)) rfl rfl hl.1 rfl (lv_room (Nat.le_of_ble_eq_true rfl)) d_Mo_refusal_78 ⟨by decide, by decide⟩) hS (fun q _ h => hFc q h) hFc (fun r_ u t H locs ht hvm hw hB hz1 hk1 hS => ?_)
    rw [hw]
    have hP := lx_stat (A := A) hP hk1
    refine va_put (D := (dC, dI)) (ci := 12) (v := .int r_9) (ty := .int) (C := R_Mo) (T := F_Mo) (N := 66) hx hb hts (fun w h => u_Mq_Mo w (i_Mo w h)) t_Mo t_Mo_ok n_Mo hown hK hP hD hS 0 rfl rfl 46 (by decide) (hts _ (u_Mq_Mo _ k_Mo_53)) (fun _ h9 => h9) rfl (by decide +kernel) rfl rfl (Nat.le_of_ble_eq_true rfl) d_Mo_refusal_81 (fun H locs hP hD hS => ?_)
    obtain ⟨S_10, eS_10, h⟩ := lf_lX h
    have hP := lx_newP eS_10 hP
    have hD := lx_newD eS_10 hD
    refine lv_aload_n hx hb d_Mo_refusal_84 rfl (lv_at hl 0 rfl) ?_
    refine lv_bipush (v := 10) hx hb d_Mo_refusal_85 (by decide) ?_
    refine lv_aload_n hx hb d_Mo_refusal_87 rfl (lv_at hl 0 rfl) ?_
    refine va_get (D := (dC, dI)) (ci := 12) (v := .int S_10.v_items) (C := R_Mo) (T := F_Mo) (N := 66) hx hb hts (fun w h => u_Mq_Mo w (i_Mo w h)) hown hK hP 0 rfl rfl 21 (by decide) (hts _ (u_Mq_Mo _ k_Mo_28)) (fun _ h9 => h9) rfl d_Mo_refusal_88 ?_
    refine lv_iadd hx hb d_Mo_refusal_91 ?_
    refine lv_bipush (v := 8) hx hb d_Mo_refusal_92 (by decide) ?_
    refine lv_aload_n hx hb d_Mo_refusal_94 rfl (lv_at hl 0 rfl) ?_
    refine va_get (D := (dC, dI)) (ci := 12) (v := .int S_10.v_groups) (C := R_Mo) (T := F_Mo) (N := 66) hx hb hts (fun w h => u_Mq_Mo w (i_Mo w h)) hown hK hP 0 rfl rfl 46 (by decide) (hts _ (u_Mq_Mo _ k_Mo_53)) (fun _ h9 => h9) rfl d_Mo_refusal_95 ?_
    refine lv_imul hx hb d_Mo_refusal_98 ?_
    obtain ⟨r_11, hc_11, h⟩ := lf_bE h
    have hFc := lx_free0 hS hA
    refine va_calli (va_runS (As := [.int (10 + S_10.v_items), .int (8 * S_10.v_groups)]) (rest := [.ref M.o]) ⟨hx, hb, hml, hown, hts⟩ (l_Mo_whole l dC dI  _ hc_11) (va_cwS 2 hts (gwS good_Mq (u_Mq_Mo _ k_Mo_178) (u_Mq_Mo _ k_Mo_179) (u_Mq_Mo _ k_Mo_0) (wcs (u_Mq_Mo _ k_Mo_180) (fun _ h => h))) rfl rfl rfl (by decide +kernel) ⟨Nat.le_of_ble_eq_true rfl, Nat.le_of_ble_eq_true rfl⟩) (ps_of (W := []) (tys := []) (hP.sub (ws' := []) [] rfl) (hK.sub [] rfl) (hD.sub (ws' := []) [] (by decide) rfl)) rfl rfl hl.1 rfl (lv_room (Nat.le_of_ble_eq_true rfl)) d_Mo_refusal_99 ⟨by decide, by decide⟩) hS (fun q _ h => hFc q h) hFc (fun r_ u t H locs ht hvm hw hB hz1 hk1 hS => ?_)
    rw [hw]
    have hP := lx_stat (A := A) hP hk1
    refine lv_bipush (v := 8) hx hb d_Mo_refusal_102 (by decide) ?_
    refine lv_imul hx hb d_Mo_refusal_104 ?_
    refine va_put (D := (dC, dI)) (ci := 12) (v := .int (r_11 * 8)) (ty := .int) (C := R_Mo) (T := F_Mo) (N := 66) hx hb hts (fun w h => u_Mq_Mo w (i_Mo w h)) t_Mo t_Mo_ok n_Mo hown hK hP hD hS 0 rfl rfl 48 (by decide) (hts _ (u_Mq_Mo _ k_Mo_55)) (fun _ h9 => h9) rfl (by decide +kernel) rfl rfl (Nat.le_of_ble_eq_true rfl) d_Mo_refusal_105 (fun H locs hP hD hS => ?_)
    obtain ⟨S_12, eS_12, h⟩ := lf_lX h
    have hP := lx_newP eS_12 hP
    have hD := lx_newD eS_12 hD
    refine lv_aload_n hx hb d_Mo_refusal_108 rfl (lv_at hl 0 rfl) ?_
    refine lv_aload_n hx hb d_Mo_refusal_109 rfl (lv_at hl 0 rfl) ?_
    refine va_get (D := (dC, dI)) (ci := 12) (v := .int S_12.v_inodes) (C := R_Mo) (T := F_Mo) (N := 66) hx hb hts (fun w h => u_Mq_Mo w (i_Mo w h)) hown hK hP 0 rfl rfl 48 (by decide) (hts _ (u_Mq_Mo _ k_Mo_55)) (fun _ h9 => h9) rfl d_Mo_refusal_110 ?_
    refine lv_bipush (v := 8) hx hb d_Mo_refusal_113 (by decide) ?_
    refine lv_idiv hx hb d_Mo_refusal_115 (by decide) ?_
    refine va_put (D := (dC, dI)) (ci := 12) (v := .int (S_12.v_inodes / 8)) (ty := .int) (C := R_Mo) (T := F_Mo) (N := 66) hx hb hts (fun w h => u_Mq_Mo w (i_Mo w h)) t_Mo t_Mo_ok n_Mo hown hK hP hD hS 0 rfl rfl 49 (by decide) (hts _ (u_Mq_Mo _ k_Mo_56)) (fun _ h9 => h9) rfl (by decide +kernel) rfl rfl (Nat.le_of_ble_eq_true rfl) d_Mo_refusal_116 (fun H locs hP hD hS => ?_)
    obtain ⟨S_13, eS_13, h⟩ := lf_lX h
    have hP := lx_newP eS_13 hP
    have hD := lx_newD eS_13 hD
    refine lv_aload_n hx hb d_Mo_refusal_119 rfl (lv_at hl 0 rfl) ?_
    obtain ⟨r_14, S_14, hc_14, h⟩ := lf_cE h
    have hFc := lx_free hD hS hA
    refine va_calli (va_runV (As := []) (rest := []) ⟨hx, hb, hml, hown, hts⟩ (l_Mo_isRoomy l dC dI X _ hc_14) (cwV 0 hts (gwV good_Mq (u_Mq_Mo _ k_Mo_370) (u_Mq_Mo _ k_Mo_371) (u_Mq_Mo _ k_Mo_532) (u_Mq_Mo _ k_Mo_0) (wcs (u_Mq_Mo _ k_Mo_372) (fun _ h => h))) rfl rfl rfl (by decide +kernel) ⟨Nat.le_of_ble_eq_true rfl, Nat.le_of_ble_eq_true rfl⟩) (pv_ofE X.same (hEw _ _ hS) hP hK hD (va_recv hK hP (ci := 12) (q0 := 0) rfl rfl)) rfl rfl hl.1 rfl (lv_room (Nat.le_of_ble_eq_true rfl)) d_Mo_refusal_120 ⟨by decide, by decide⟩) hS (fun q _ h => hFc q h) hFc (fun r_ u t H locs ht hvm hw hB hz1 hk1 hS => ?_)
    rw [hw]
    obtain ⟨hP, -, hD⟩ := hB
    rw [ht] at hP
    have hD := lx_dj hD hFc
    refine lv_if_ne (tgt := 131) hx hb d_Mo_refusal_123 (by decide) (fun c_15 => ?_) (fun c_15 => ?_)
    · have h := lf_f h c_15
      refine lv_aload_n hx hb d_Mo_refusal_131 rfl (lv_at hl 0 rfl) ?_
      obtain ⟨r_16, S_16, hc_16, h⟩ := lf_cE h
      have hFc := lx_free hD hS hA
      refine va_calli (va_runV (As := []) (rest := []) ⟨hx, hb, hml, hown, hts⟩ (X.badNames _ hc_16) (cwV 0 hts (gwV good_Mq (u_Mq_Mo _ k_Mo_382) (u_Mq_Mo _ k_Mo_383) (u_Mq_Mo _ k_Mo_534) (u_Mq_Mo _ k_Mo_0) (wcs (u_Mq_Mo _ k_Mo_384) (fun _ h => h))) rfl rfl rfl (by decide +kernel) ⟨Nat.le_of_ble_eq_true rfl, Nat.le_of_ble_eq_true rfl⟩) (pv_ofE X.same (hEw _ _ hS) hP hK hD (va_recv hK hP (ci := 12) (q0 := 0) rfl rfl)) rfl rfl hl.1 rfl (lv_room (Nat.le_of_ble_eq_true rfl)) d_Mo_refusal_132 ⟨by decide, by decide⟩) hS (fun q _ h => hFc q h) hFc (fun r_ u t H locs ht hvm hw hB hz1 hk1 hS => ?_)
      rw [hw]
      obtain ⟨hP, -, hD⟩ := hB
      rw [ht] at hP
      have hD := lx_dj hD hFc
      refine lv_if_eq (tgt := 143) hx hb d_Mo_refusal_135 (by decide) (fun c_17 => ?_) (fun c_17 => ?_)
      · have h := lf_t h c_17
        refine lv_aload_n hx hb d_Mo_refusal_143 rfl (lv_at hl 0 rfl) ?_
        obtain ⟨r_18, S_18, hc_18, h⟩ := lf_cE h
        have hFc := lx_free hD hS hA
        refine va_calli (va_runV (As := []) (rest := []) ⟨hx, hb, hml, hown, hts⟩ (l_Mo_badTimes l dC dI X _ hc_18) (cwV 0 hts (gwV good_Mq (u_Mq_Mo _ k_Mo_385) (u_Mq_Mo _ k_Mo_386) (u_Mq_Mo _ k_Mo_535) (u_Mq_Mo _ k_Mo_0) (wcs (u_Mq_Mo _ k_Mo_387) (fun _ h => h))) rfl rfl rfl (by decide +kernel) ⟨Nat.le_of_ble_eq_true rfl, Nat.le_of_ble_eq_true rfl⟩) (pv_ofE X.same (hEw _ _ hS) hP hK hD (va_recv hK hP (ci := 12) (q0 := 0) rfl rfl)) rfl rfl hl.1 rfl (lv_room (Nat.le_of_ble_eq_true rfl)) d_Mo_refusal_144 ⟨by decide, by decide⟩) hS (fun q _ h => hFc q h) hFc (fun r_ u t H locs ht hvm hw hB hz1 hk1 hS => ?_)
        rw [hw]
        obtain ⟨hP, -, hD⟩ := hB
        rw [ht] at hP
        have hD := lx_dj hD hFc
        refine lv_if_eq (tgt := 155) hx hb d_Mo_refusal_147 (by decide) (fun c_19 => ?_) (fun c_19 => ?_)
        · have h := lf_t h c_19
          refine lv_aload_n hx hb d_Mo_refusal_155 rfl (lv_at hl 0 rfl) ?_
          obtain ⟨r_20, S_20, hc_20, h⟩ := lf_cE h
          have hFc := lx_free hD hS hA
          refine va_calli (va_runV (As := []) (rest := []) ⟨hx, hb, hml, hown, hts⟩ (l_Mo_finds l dC dI X _ hc_20) (cwV 0 hts (gwV good_Mq (u_Mq_Mo _ k_Mo_388) (u_Mq_Mo _ k_Mo_389) (u_Mq_Mo _ k_Mo_536) (u_Mq_Mo _ k_Mo_0) (wcs (u_Mq_Mo _ k_Mo_390) (fun _ h => h))) rfl rfl rfl (by decide +kernel) ⟨Nat.le_of_ble_eq_true rfl, Nat.le_of_ble_eq_true rfl⟩) (pv_ofE X.same (hEw _ _ hS) hP hK hD (va_recv hK hP (ci := 12) (q0 := 0) rfl rfl)) rfl rfl hl.1 rfl (lv_room (Nat.le_of_ble_eq_true rfl)) d_Mo_refusal_156 ⟨by decide, by decide⟩) hS (fun q _ h => hFc q h) hFc (fun r_ u t H locs ht hvm hw hB hz1 hk1 hS => ?_)
          rw [hw]
          obtain ⟨hP, -, hD⟩ := hB
          rw [ht] at hP
          have hD := lx_dj hD hFc
          refine lv_if_ne (tgt := 167) hx hb d_Mo_refusal_159 (by decide) (fun c_21 => ?_) (fun c_21 => ?_)
          · have h := lf_f h c_21
            refine lv_iconst (v := 0) hx hb d_Mo_refusal_167 (by decide) ?_
            rw [hQ]
            have e1 : (0 : Int32) = r := congrArg Prod.fst (Option.some.inj h)
            have e2 : S_20 = S' := congrArg Prod.snd (Option.some.inj h)
            have hP := lx_newP e2.symm hP
            have hD := lx_newD e2.symm hD
            exact W.iret (v := 0) hx hb hr (fun t ht hW => ⟨⟨0, (), rfl, e1, by rw [ht]; exact hP, va_K.moved hW.alike hK, hD⟩, hS.F ht⟩) hS.2.2 d_Mo_refusal_168
          · have h := lf_t h c_21
            refine lv_bipush (v := 15) hx hb d_Mo_refusal_162 (by decide) ?_
            refine lv_goto (tgt := 168) hx hb d_Mo_refusal_164 (by decide) ?_
            rw [hQ]
            have e1 : (15 : Int32) = r := congrArg Prod.fst (Option.some.inj h)
            have e2 : S_20 = S' := congrArg Prod.snd (Option.some.inj h)
            have hP := lx_newP e2.symm hP
            have hD := lx_newD e2.symm hD
            exact W.iret (v := 15) hx hb hr (fun t ht hW => ⟨⟨15, (), rfl, e1, by rw [ht]; exact hP, va_K.moved hW.alike hK, hD⟩, hS.F ht⟩) hS.2.2 d_Mo_refusal_168
        · have h := lf_f h c_19
          refine lv_bipush (v := 14) hx hb d_Mo_refusal_150 (by decide) ?_
          refine lv_goto (tgt := 168) hx hb d_Mo_refusal_152 (by decide) ?_
          rw [hQ]
          have e1 : (14 : Int32) = r := congrArg Prod.fst (Option.some.inj h)
          have e2 : S_18 = S' := congrArg Prod.snd (Option.some.inj h)
          have hP := lx_newP e2.symm hP
          have hD := lx_newD e2.symm hD
          exact W.iret (v := 14) hx hb hr (fun t ht hW => ⟨⟨14, (), rfl, e1, by rw [ht]; exact hP, va_K.moved hW.alike hK, hD⟩, hS.F ht⟩) hS.2.2 d_Mo_refusal_168
      · have h := lf_f h c_17
        refine lv_bipush (v := 13) hx hb d_Mo_refusal_138 (by decide) ?_
        refine lv_goto (tgt := 168) hx hb d_Mo_refusal_140 (by decide) ?_
        rw [hQ]
        have e1 : (13 : Int32) = r := congrArg Prod.fst (Option.some.inj h)
        have e2 : S_16 = S' := congrArg Prod.snd (Option.some.inj h)
        have hP := lx_newP e2.symm hP
        have hD := lx_newD e2.symm hD
        exact W.iret (v := 13) hx hb hr (fun t ht hW => ⟨⟨13, (), rfl, e1, by rw [ht]; exact hP, va_K.moved hW.alike hK, hD⟩, hS.F ht⟩) hS.2.2 d_Mo_refusal_168
    · have h := lf_t h c_15
      refine lv_bipush (v := 12) hx hb d_Mo_refusal_126 (by decide) ?_
      refine lv_goto (tgt := 168) hx hb d_Mo_refusal_128 (by decide) ?_
      rw [hQ]
      have e1 : (12 : Int32) = r := congrArg Prod.fst (Option.some.inj h)
      have e2 : S_14 = S' := congrArg Prod.snd (Option.some.inj h)
      have hP := lx_newP e2.symm hP
      have hD := lx_newD e2.symm hD
      exact W.iret (v := 12) hx hb hr (fun t ht hW => ⟨⟨12, (), rfl, e1, by rw [ht]; exact hP, va_K.moved hW.alike hK, hD⟩, hS.F ht⟩) hS.2.2 d_Mo_refusal_168
  rw [f_Mo_refusal] at h
  refine lv_aload_n hx hb d_Mo_refusal_0 rfl (lv_at hl 0 rfl) ?_
  obtain ⟨S_1, hc_1, h⟩ := lf_bE h
  have hFc := lx_free hD hS hA
  refine va_callv (va_runV (As := []) (rest := []) ⟨hx, hb, hml, hown, hts⟩ (l_Mo_look l dC dI X _ hc_1) (cwV 0 hts (gwV good_Mq (u_Mq_Mo _ k_Mo_88) (u_Mq_Mo _ k_Mo_89) (u_Mq_Mo _ k_Mo_492) (u_Mq_Mo _ k_Mo_0) (wcs (u_Mq_Mo _ k_Mo_90) (fun _ h => h))) rfl rfl rfl (by decide +kernel) ⟨Nat.le_of_ble_eq_true rfl, Nat.le_of_ble_eq_true rfl⟩) (pv_ofE X.same (hEw _ _ hS) hP hK hD (va_recv hK hP (ci := 12) (q0 := 0) rfl rfl)) rfl rfl hl.1 rfl (lv_room (Nat.le_of_ble_eq_true rfl)) d_Mo_refusal_1 ⟨by decide, by decide⟩) hS (fun q _ h => hFc q h) hFc (fun u t H locs ht hvm hw hB hz1 hk1 hS => ?_)
  obtain ⟨hP, -, hD⟩ := hB
  rw [ht] at hP
  have hD := lx_dj hD hFc
  refine lv_aload_n hx hb d_Mo_refusal_4 rfl (lv_at hl 0 rfl) ?_
  refine va_get (D := (dC, dI)) (ci := 12) (v := .int S_1.v_fault) (C := R_Mo) (T := F_Mo) (N := 66) hx hb hts (fun w h => u_Mq_Mo w (i_Mo w h)) hown hK hP 0 rfl rfl 20 (by decide) (hts _ (u_Mq_Mo _ k_Mo_27)) (fun _ h9 => h9) rfl d_Mo_refusal_5 ?_
  refine lv_if_le (tgt := 16) hx hb d_Mo_refusal_8 (by decide) (fun c_2 => ?_) (fun c_2 => ?_)
  · have h := lf_t h c_2
    refine lv_aload_n hx hb d_Mo_refusal_16 rfl (lv_at hl 0 rfl) ?_
    refine va_get (D := (dC, dI)) (ci := 12) (v := .int S_1.v_a) (C := R_Mo) (T := F_Mo) (N := 66) hx hb hts (fun w h => u_Mq_Mo w (i_Mo w h)) hown hK hP 0 rfl rfl 16 (by decide) (hts _ (u_Mq_Mo _ k_Mo_23)) (fun _ h9 => h9) rfl d_Mo_refusal_17 ?_
    refine lv_iconst (v := 2) hx hb d_Mo_refusal_20 (by decide) ?_
    refine lv_irem hx hb d_Mo_refusal_21 (by decide) ?_
    refine lv_iconst (v := 1) hx hb d_Mo_refusal_22 (by decide) ?_
    refine lv_icmp_ne (tgt := 29) hx hb d_Mo_refusal_23 (by decide) (fun c_3 => ?_) (fun c_3 => ?_)
    · have h := lf_f h c_3
      refine lv_iload_n hx hb d_Mo_refusal_29 rfl (lv_at hl 1 rfl) ?_
      refine lv_bipush (v := 64) hx hb d_Mo_refusal_30 (by decide) ?_
      refine lv_icmp_eq (tgt := 52) hx hb d_Mo_refusal_32 (by decide) (fun c_4 => ?_) (fun c_4 => ?_)
      · have h := lf_t h c_4
        exact hB_52 p0 S_1 _ _ _ h hP hD hS (lv_sub hl [0, 1] rfl)
      · have h := lf_f h c_4
        refine lv_iload_n hx hb d_Mo_refusal_35 rfl (lv_at hl 1 rfl) ?_
        refine lv_sipush (v := 128) hx hb d_Mo_refusal_36 (by decide) ?_
        refine lv_icmp_eq (tgt := 52) hx hb d_Mo_refusal_39 (by decide) (fun c_5 => ?_) (fun c_5 => ?_)
        · have h := lf_t h c_5
          exact hB_52 p0 S_1 _ _ _ h hP hD hS (lv_sub hl [0, 1] rfl)
        · have h := lf_f h c_5
          refine lv_iload_n hx hb d_Mo_refusal_42 rfl (lv_at hl 1 rfl) ?_
          refine lv_sipush (v := 256) hx hb d_Mo_refusal_43 (by decide) ?_
          refine lv_icmp_eq (tgt := 52) hx hb d_Mo_refusal_46 (by decide) (fun c_6 => ?_) (fun c_6 => ?_)
          · have h := lf_t h c_6
            exact hB_52 p0 S_1 _ _ _ h hP hD hS (lv_sub hl [0, 1] rfl)
          · have h := lf_f h c_6
            refine lv_bipush (v := 12) hx hb d_Mo_refusal_49 (by decide) ?_
            rw [hQ]
            have e1 : (12 : Int32) = r := congrArg Prod.fst (Option.some.inj h)
            have e2 : S_1 = S' := congrArg Prod.snd (Option.some.inj h)
            have hP := lx_newP e2.symm hP
            have hD := lx_newD e2.symm hD
            exact W.iret (v := 12) hx hb hr (fun t ht hW => ⟨⟨12, (), rfl, e1, by rw [ht]; exact hP, va_K.moved hW.alike hK, hD⟩, hS.F ht⟩) hS.2.2 d_Mo_refusal_51
    · have h := lf_t h c_3
      refine lv_bipush (v := 11) hx hb d_Mo_refusal_26 (by decide) ?_
      rw [hQ]
      have e1 : (11 : Int32) = r := congrArg Prod.fst (Option.some.inj h)
      have e2 : S_1 = S' := congrArg Prod.snd (Option.some.inj h)
      have hP := lx_newP e2.symm hP
      have hD := lx_newD e2.symm hD
      exact W.iret (v := 11) hx hb hr (fun t ht hW => ⟨⟨11, (), rfl, e1, by rw [ht]; exact hP, va_K.moved hW.alike hK, hD⟩, hS.F ht⟩) hS.2.2 d_Mo_refusal_28
  · have h := lf_f h c_2
    refine lv_aload_n hx hb d_Mo_refusal_11 rfl (lv_at hl 0 rfl) ?_
    refine va_get (D := (dC, dI)) (ci := 12) (v := .int S_1.v_fault) (C := R_Mo) (T := F_Mo) (N := 66) hx hb hts (fun w h => u_Mq_Mo w (i_Mo w h)) hown hK hP 0 rfl rfl 20 (by decide) (hts _ (u_Mq_Mo _ k_Mo_27)) (fun _ h9 => h9) rfl d_Mo_refusal_12 ?_
    rw [hQ]
    have e1 : S_1.v_fault = r := congrArg Prod.fst (Option.some.inj h)
    have e2 : S_1 = S' := congrArg Prod.snd (Option.some.inj h)
    have hP := lx_newP e2.symm hP
    have hD := lx_newD e2.symm hD
    exact W.iret (v := S_1.v_fault) hx hb hr (fun t ht hW => ⟨⟨S_1.v_fault, (), rfl, e1, by rw [ht]; exact hP, va_K.moved hW.alike hK, hD⟩, hS.F ht⟩) hS.2.2 d_Mo_refusal_15
