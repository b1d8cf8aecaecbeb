set_option maxHeartbeats 4000000 in
set_option maxRecDepth 100000 in
theorem l_Pl_recall (l : Launch) (dC : Nat → ClassId) (dI : Nat → Nat → Nat) {K : Nat} {M : CA} {E : (Nat → Prop) → State → Prop} (X : ly_X l dC dI K M E) (sz : Nat) {Y : CT} {G : CG} {S S' : CS} {p0 : Int32} {p1 : Int32} {r : Int32} (h : f_Pl_recall K G S p0 p1 = some (r, S')) : Met l y_Pl_recall (.code y_Pl_recall cb_Pl_recall 3 (some .boolean) :: V_Vq) ({ frames := 3, cells := 0, slots := 0, locals := 85 }) (va_Pc [.ref M.o_Pl, .int p0, .int p1] (fun U => U.heap.size = sz ∧ at_ (dC, dI) (fun _ => True) (wV M Y G S) (tV M) U ∧ E (va_A (wV M Y G S) sz) U)) (va_Qi (fun (r_ : Int32) (u : Unit) => r_ = r) (fun (u : Unit) t => at_ (dC, dI) (va_A (wV M Y G S) sz) (wV M Y G S') (tV M) t) (va_A (wV M Y G S) sz)) 0 0 (va_A (wV M Y G S) sz) := by
  refine Met.ofW (cc := cb_Pl_recall) (maxL := 3) (ret := (some .boolean)) (by decide) rfl ?_
  intro p e s m args below meth c s₁ B hml hv
  obtain ⟨rfl, hsz, ⟨hP, hK, hD0⟩, hE⟩ := hv
  have hx := B.exec
  have hb := B.bytes
  have hr := B.returns
  have hts0 := atoms_spec (ws := .code y_Pl_recall cb_Pl_recall 3 (some .boolean) :: V_Vq) B.pre
  have hts : ∀ w ∈ V_Vq, w.before ([.ref M.o_Pl, .int p0, .int p1] : List Value).toArray s = true := fun w h => hts0 w (List.mem_cons_of_mem _ h)
  have hown : s.vm.findClass R_Pl = some m.cls := findClass_of_methodNamed B.named
  subst hsz
  have hD := hD0.self (sz := s.heap.size)
  generalize hAe : va_A (wV M Y G S) s.heap.size = A at hD hE ⊢
  have hA : ∀ q : Nat, s.heap.size ≤ q → A q := fun q h => by rw [← hAe]; exact Or.inr h
  have hS : va_S A s.heap s.heap [] := va_S.rf
  have hP : va_P (dC, dI) classes (wV M Y G S) s.heap := hP
  have hK : va_K (dC, dI) classes (tV M) s := hK
  have hEw : ∀ (H : Heap) (locs : List Loc), va_S A s.heap H locs → ∀ U : State, U.heap = H → s.WarmedH U.vm → E A U := fun H locs hS U hU hW => X.kept A s U H locs hE hS hU hW
  have hl := lv_entry ([.ref M.o_Pl, .int p0, .int p1]) (n := 3) (Nat.le_of_ble_eq_true rfl)
  rw [lg_entry_eq]
  generalize (lg_sl ([.ref M.o_Pl, .int p0, .int p1]) ++ List.replicate (3 - (lg_sl ([.ref M.o_Pl, .int p0, .int p1])).length) Slot.unset).toArray = ls at hl ⊢
  have hl : lv_has ls 3 [(0, .ref M.o_Pl), (1, .int p0), (2, .int p1)] := hl
  refine qabs (fun Q hQ => ?_)
  have hB_37 : ∀ (S : CS) (H : Heap) (locs : List Loc) (ls : Array Slot), f_Pl_recall_37 K G S = some (r, S') → va_P (dC, dI) classes (wV M Y G S) H → va_D A (wV M Y G S) → va_S A s.heap H locs → lv_has ls 3 [] → W p l e ({ frames := 3, cells := 0, slots := 0, locals := 85 }) s m ([.ref M.o_Pl, .int p0, .int p1] : List Value).toArray below meth c H locs 0 0 Q (F0 m 37 ls []) := by
    intro S H locs ls h hP hD hS hl
    rw [f_Pl_recall_37] at h
    refine lv_iconst (v := 0) hx hb d_Pl_recall_37 (by decide) ?_
    rw [hQ]
    have e1 : (0 : Int32) = r := congrArg Prod.fst (Option.some.inj h)
    have e2 : S = S' := congrArg Prod.snd (Option.some.inj h)
    have hP := ly_newP e2.symm hP
    have hD := ly_newD e2.symm hD
    exact W.zret (v := 0) hx hb hr rfl (fun t ht hW => ⟨⟨0, (), rfl, e1, by rw [ht]; exact hP, va_K.moved hW.alike hK, hD⟩, hS.F ht⟩) hS.2.2 d_Pl_recall_38
  rw [f_Pl_recall] at h
  refine lv_aload_n hx hb d_Pl_recall_0 rfl (lv_at hl 0 rfl) ?_
  refine va_get (D := (dC, dI)) (ci := 9) (v := .ref M.o_Tb) (C := R_Pl) (T := F_Pl) (N := 17) hx hb hts (fun w h => u_Vq_Pl w (i_Pl w h)) hown hK hP 7 rfl rfl 1 (by decide) (hts _ (u_Vq_Pl _ k_Pl_12)) (fun _ h9 => h9) rfl d_Pl_recall_1 ?_
  obtain ⟨r_1, S_1, hc_1, h⟩ := lf_cE h
  have hFc := lx_free hD hS hA
  refine va_calli (va_runV (As := []) (rest := []) ⟨hx, hb, hml, hown, hts⟩ (l_Tb_read l dC dI X _ hc_1) (cwV 0 hts (gwV good_Vq (u_Vq_Pl _ k_Pl_156) (u_Vq_Tb _ k_Tb_19) (u_Vq_Tb _ k_Tb_20) (u_Vq_Tb _ k_Tb_0) (wcs (u_Vq_Tb _ k_Tb_21) (fun _ h => h))) rfl rfl rfl (by decide +kernel) ⟨Nat.le_of_ble_eq_true rfl, Nat.le_of_ble_eq_true rfl⟩) (pv_ofE (X.same _) (fun U z1 z2 => X.mono _ _ U hFc (hEw _ _ hS U z1 z2)) hP hK hD (va_recv hK hP (ci := 4) (q0 := 3) rfl rfl)) rfl rfl hl.1 rfl (lv_room (Nat.le_of_ble_eq_true rfl)) d_Pl_recall_4 ⟨by decide, by decide⟩) hS (fun q _ h => hFc q h) hFc (fun r_ u t H locs ht hvm hw hB hz1 hk1 hS => ?_)
  rw [hw]
  obtain ⟨hP, -, hD⟩ := hB
  rw [ht] at hP
  have hD := lx_dj hD hFc
  refine lv_if_eq (tgt := 37) hx hb d_Pl_recall_7 (by decide) (fun c_2 => ?_) (fun c_2 => ?_)
  · have h := lf_t h c_2
    exact hB_37 S_1 _ _ _ h hP hD hS (lv_sub hl [] rfl)
  · have h := lf_f h c_2
    refine lv_aload_n hx hb d_Pl_recall_10 rfl (lv_at hl 0 rfl) ?_
    refine lv_iload_n hx hb d_Pl_recall_11 rfl (lv_at hl 1 rfl) ?_
    obtain ⟨r_3, S_3, hc_3, h⟩ := lf_cE h
    have hFc := lx_free hD hS hA
    refine va_calli (va_runV (As := [.int p0]) (rest := []) ⟨hx, hb, hml, hown, hts⟩ (l_Pl_divide l dC dI X _ hc_3) (cwV 1 hts (gwV good_Vq (u_Vq_Pl _ k_Pl_31) (u_Vq_Pl _ k_Pl_32) (u_Vq_Pl _ k_Pl_165) (u_Vq_Pl _ k_Pl_0) (wcs (u_Vq_Pl _ k_Pl_33) (fun _ h => h))) rfl rfl rfl (by decide +kernel) ⟨Nat.le_of_ble_eq_true rfl, Nat.le_of_ble_eq_true rfl⟩) (pv_ofE (X.same _) (fun U z1 z2 => X.mono _ _ U hFc (hEw _ _ hS U z1 z2)) hP hK hD (va_recv hK hP (ci := 9) (q0 := 7) rfl rfl)) rfl rfl hl.1 rfl (lv_room (Nat.le_of_ble_eq_true rfl)) d_Pl_recall_12 ⟨by decide, by decide⟩) hS (fun q _ h => hFc q h) hFc (fun r_ u t H locs ht hvm hw hB hz1 hk1 hS => ?_)
    rw [hw]
    obtain ⟨hP, -, hD⟩ := hB
    rw [ht] at hP
    have hD := lx_dj hD hFc
    refine lv_if_eq (tgt := 37) hx hb d_Pl_recall_15 (by decide) (fun c_4 => ?_) (fun c_4 => ?_)
    · have h := lf_t h c_4
      exact hB_37 S_3 _ _ _ h hP hD hS (lv_sub hl [] rfl)
    · have h := lf_f h c_4
      refine lv_aload_n hx hb d_Pl_recall_18 rfl (lv_at hl 0 rfl) ?_
      refine lv_iload_n hx hb d_Pl_recall_19 rfl (lv_at hl 2 rfl) ?_
      obtain ⟨r_5, S_5, hc_5, h⟩ := lf_cE h
      have hFc := lx_free hD hS hA
      refine va_calli (va_runV (As := [.int p1]) (rest := []) ⟨hx, hb, hml, hown, hts⟩ (l_Pl_layOut l dC dI X _ hc_5) (cwV 1 hts (gwV good_Vq (u_Vq_Pl _ k_Pl_37) (u_Vq_Pl _ k_Pl_38) (u_Vq_Pl _ k_Pl_167) (u_Vq_Pl _ k_Pl_0) (wcs (u_Vq_Pl _ k_Pl_39) (fun _ h => h))) rfl rfl rfl (by decide +kernel) ⟨Nat.le_of_ble_eq_true rfl, Nat.le_of_ble_eq_true rfl⟩) (pv_ofE (X.same _) (fun U z1 z2 => X.mono _ _ U hFc (hEw _ _ hS U z1 z2)) hP hK hD (va_recv hK hP (ci := 9) (q0 := 7) rfl rfl)) rfl rfl hl.1 rfl (lv_room (Nat.le_of_ble_eq_true rfl)) d_Pl_recall_20 ⟨by decide, by decide⟩) hS (fun q _ h => hFc q h) hFc (fun r_ u t H locs ht hvm hw hB hz1 hk1 hS => ?_)
      rw [hw]
      obtain ⟨hP, -, hD⟩ := hB
      rw [ht] at hP
      have hD := lx_dj hD hFc
      refine lv_if_eq (tgt := 37) hx hb d_Pl_recall_23 (by decide) (fun c_6 => ?_) (fun c_6 => ?_)
      · have h := lf_t h c_6
        exact hB_37 S_5 _ _ _ h hP hD hS (lv_sub hl [] rfl)
      · have h := lf_f h c_6
        refine lv_aload_n hx hb d_Pl_recall_26 rfl (lv_at hl 0 rfl) ?_
        obtain ⟨r_7, S_7, hc_7, h⟩ := lf_cE h
        have hFc := lx_free hD hS hA
        refine va_calli (va_runV (As := []) (rest := []) ⟨hx, hb, hml, hown, hts⟩ (l_Pl_aim l dC dI X _ hc_7) (cwV 0 hts (gwV good_Vq (u_Vq_Pl _ k_Pl_68) (u_Vq_Pl _ k_Pl_69) (u_Vq_Pl _ k_Pl_173) (u_Vq_Pl _ k_Pl_0) (wcs (u_Vq_Pl _ k_Pl_70) (fun _ h => h))) rfl rfl rfl (by decide +kernel) ⟨Nat.le_of_ble_eq_true rfl, Nat.le_of_ble_eq_true rfl⟩) (pv_ofE (X.same _) (fun U z1 z2 => X.mono _ _ U hFc (hEw _ _ hS U z1 z2)) hP hK hD (va_recv hK hP (ci := 9) (q0 := 7) rfl rfl)) rfl rfl hl.1 rfl (lv_room (Nat.le_of_ble_eq_true rfl)) d_Pl_recall_27 ⟨by decide, by decide⟩) hS (fun q _ h => hFc q h) hFc (fun r_ u t H locs ht hvm hw hB hz1 hk1 hS => ?_)
        rw [hw]
        obtain ⟨hP, -, hD⟩ := hB
        rw [ht] at hP
        have hD := lx_dj hD hFc
        refine lv_if_eq (tgt := 37) hx hb d_Pl_recall_30 (by decide) (fun c_8 => ?_) (fun c_8 => ?_)
        · have h := lf_t h c_8
          exact hB_37 S_7 _ _ _ h hP hD hS (lv_sub hl [] rfl)
        · have h := lf_f h c_8
          refine lv_iconst (v := 1) hx hb d_Pl_recall_33 (by decide) ?_
          refine lv_goto (tgt := 38) hx hb d_Pl_recall_34 (by decide) ?_
          rw [hQ]
          have e1 : (1 : Int32) = r := congrArg Prod.fst (Option.some.inj h)
          have e2 : S_7 = S' := congrArg Prod.snd (Option.some.inj h)
          have hP := ly_newP e2.symm hP
          have hD := ly_newD e2.symm hD
          exact W.zret (v := 1) hx hb hr rfl (fun t ht hW => ⟨⟨1, (), rfl, e1, by rw [ht]; exact hP, va_K.moved hW.alike hK, hD⟩, hS.F ht⟩) hS.2.2 d_Pl_recall_38
set_option maxHeartbeats 4000000 in
set_option maxRecDepth 100000 in
theorem l_Pl_usedInodes (l : Launch) (dC : Nat → ClassId) (dI : Nat → Nat → Nat) {K : Nat} {M : CA} {E : (Nat → Prop) → State → Prop} (X : ly_X l dC dI K M E) (sz : Nat) {Y : CT} {G : CG} {S S' : CS} {r : Int32} (h : f_Pl_usedInodes K G S = some (r, S')) : Met l y_Pl_usedInodes (.code y_Pl_usedInodes cb_Pl_usedInodes 1 (some .int) :: V_Vq) ({ frames := 0, cells := 0, slots := 0, locals := 0 }) (va_Pc [.ref M.o_Pl] (fun U => U.heap.size = sz ∧ at_ (dC, dI) (fun _ => True) (wV M Y G S) (tV M) U ∧ E (va_A (wV M Y G S) sz) U)) (va_Qi (fun (r_ : Int32) (u : Unit) => r_ = r) (fun (u : Unit) t => at_ (dC, dI) (va_A (wV M Y G S) sz) (wV M Y G S') (tV M) t) (va_A (wV M Y G S) sz)) 0 0 (va_A (wV M Y G S) sz) := by
  refine Met.ofW (cc := cb_Pl_usedInodes) (maxL := 1) (ret := (some .int)) (by decide) rfl ?_
  intro p e s m args below meth c s₁ B hml hv
  obtain ⟨rfl, hsz, ⟨hP, hK, hD0⟩, hE⟩ := hv
  have hx := B.exec
  have hb := B.bytes
  have hr := B.returns
  have hts0 := atoms_spec (ws := .code y_Pl_usedInodes cb_Pl_usedInodes 1 (some .int) :: V_Vq) B.pre
  have hts : ∀ w ∈ V_Vq, w.before ([.ref M.o_Pl] : List Value).toArray s = true := fun w h => hts0 w (List.mem_cons_of_mem _ h)
  have hown : s.vm.findClass R_Pl = some m.cls := findClass_of_methodNamed B.named
  subst hsz
  have hD := hD0.self (sz := s.heap.size)
  generalize hAe : va_A (wV M Y G S) s.heap.size = A at hD hE ⊢
  have hA : ∀ q : Nat, s.heap.size ≤ q → A q := fun q h => by rw [← hAe]; exact Or.inr h
  have hS : va_S A s.heap s.heap [] := va_S.rf
  have hP : va_P (dC, dI) classes (wV M Y G S) s.heap := hP
  have hK : va_K (dC, dI) classes (tV M) s := hK
  have hEw : ∀ (H : Heap) (locs : List Loc), va_S A s.heap H locs → ∀ U : State, U.heap = H → s.WarmedH U.vm → E A U := fun H locs hS U hU hW => X.kept A s U H locs hE hS hU hW
  have hl := lv_entry ([.ref M.o_Pl]) (n := 1) (Nat.le_of_ble_eq_true rfl)
  rw [lg_entry_eq]
  generalize (lg_sl ([.ref M.o_Pl]) ++ List.replicate (1 - (lg_sl ([.ref M.o_Pl])).length) Slot.unset).toArray = ls at hl ⊢
  have hl : lv_has ls 1 [(0, .ref M.o_Pl)] := hl
  refine qabs (fun Q hQ => ?_)
  rw [f_Pl_usedInodes] at h
  refine lv_bipush (v := 11) hx hb d_Pl_usedInodes_0 (by decide) ?_
  refine lv_aload_n hx hb d_Pl_usedInodes_2 rfl (lv_at hl 0 rfl) ?_
  refine va_get (D := (dC, dI)) (ci := 9) (v := .ref M.o_Tr) (C := R_Pl) (T := F_Pl) (N := 17) hx hb hts (fun w h => u_Vq_Pl w (i_Pl w h)) hown hK hP 7 rfl rfl 2 (by decide) (hts _ (u_Vq_Pl _ k_Pl_13)) (fun _ h9 => h9) rfl d_Pl_usedInodes_3 ?_
  refine va_get (D := (dC, dI)) (ci := 5) (v := .int S.v_Tr_count) (C := R_Tr) (T := F_Tr) (N := 18) hx hb hts (fun w h => u_Vq_Tr w (i_Tr w h)) hown hK hP 4 rfl rfl 0 (by decide) (hts _ (u_Vq_Pl _ k_Pl_5)) (fun _ h9 => h9) rfl d_Pl_usedInodes_6 ?_
  refine lv_iadd hx hb d_Pl_usedInodes_9 ?_
  refine lv_iconst (v := 1) hx hb d_Pl_usedInodes_10 (by decide) ?_
  refine lv_isub hx hb d_Pl_usedInodes_11 ?_
  rw [hQ]
  have e1 : ((11 + S.v_Tr_count) - 1) = r := congrArg Prod.fst (Option.some.inj h)
  have e2 : S = S' := congrArg Prod.snd (Option.some.inj h)
  have hP := ly_newP e2.symm hP
  have hD := ly_newD e2.symm hD
  exact W.iret (v := ((11 + S.v_Tr_count) - 1)) hx hb hr (fun t ht hW => ⟨⟨((11 + S.v_Tr_count) - 1), (), rfl, e1, by rw [ht]; exact hP, va_K.moved hW.alike hK, hD⟩, hS.F ht⟩) hS.2.2 d_Pl_usedInodes_12
set_option maxHeartbeats 4000000 in
set_option maxRecDepth 100000 in
theorem l_Pl_freeInodes (l : Launch) (dC : Nat → ClassId) (dI : Nat → Nat → Nat) {K : Nat} {M : CA} {E : (Nat → Prop) → State → Prop} (X : ly_X l dC dI K M E) (sz : Nat) {Y : CT} {G : CG} {S S' : CS} {p0 : Int32} {r : Int32} (h : f_Pl_freeInodes K G S p0 = some (r, S')) : Met l y_Pl_freeInodes (.code y_Pl_freeInodes cb_Pl_freeInodes 3 (some .int) :: V_Vq) ({ frames := 1, cells := 0, slots := 0, locals := 40 }) (va_Pc [.ref M.o_Pl, .int p0] (fun U => U.heap.size = sz ∧ at_ (dC, dI) (fun _ => True) (wV M Y G S) (tV M) U ∧ E (va_A (wV M Y G S) sz) U)) (va_Qi (fun (r_ : Int32) (u : Unit) => r_ = r) (fun (u : Unit) t => at_ (dC, dI) (va_A (wV M Y G S) sz) (wV M Y G S') (tV M) t) (va_A (wV M Y G S) sz)) 0 0 (va_A (wV M Y G S) sz) := by
  refine Met.ofW (cc := cb_Pl_freeInodes) (maxL := 3) (ret := (some .int)) (by decide) rfl ?_
  intro p e s m args below meth c s₁ B hml hv
  obtain ⟨rfl, hsz, ⟨hP, hK, hD0⟩, hE⟩ := hv
  have hx := B.exec
  have hb := B.bytes
  have hr := B.returns
  have hts0 := atoms_spec (ws := .code y_Pl_freeInodes cb_Pl_freeInodes 3 (some .int) :: V_Vq) B.pre
  have hts : ∀ w ∈ V_Vq, w.before ([.ref M.o_Pl, .int p0] : List Value).toArray s = true := fun w h => hts0 w (List.mem_cons_of_mem _ h)
  have hown : s.vm.findClass R_Pl = some m.cls := findClass_of_methodNamed B.named
  subst hsz
  have hD := hD0.self (sz := s.heap.size)
  generalize hAe : va_A (wV M Y G S) s.heap.size = A at hD hE ⊢
  have hA : ∀ q : Nat, s.heap.size ≤ q → A q := fun q h => by rw [← hAe]; exact Or.inr h
  have hS : va_S A s.heap s.heap [] := va_S.rf
  have hP : va_P (dC, dI) classes (wV M Y G S) s.heap := hP
  have hK : va_K (dC, dI) classes (tV M) s := hK
  have hEw : ∀ (H : Heap) (locs : List Loc), va_S A s.heap H locs → ∀ U : State, U.heap = H → s.WarmedH U.vm → E A U := fun H locs hS U hU hW => X.kept A s U H locs hE hS hU hW
  have hl := lv_entry ([.ref M.o_Pl, .int p0]) (n := 3) (Nat.le_of_ble_eq_true rfl)
  rw [lg_entry_eq]
  generalize (lg_sl ([.ref M.o_Pl, .int p0]) ++ List.replicate (3 - (lg_sl ([.ref M.o_Pl, .int p0])).length) Slot.unset).toArray = ls at hl ⊢
  have hl : lv_has ls 3 [(0, .ref M.o_Pl), (1, .int p0)] := hl
  refine qabs (fun Q hQ => ?_)
  rw [f_Pl_freeInodes] at h
  refine lv_aload_n hx hb d_Pl_freeInodes_0 rfl (lv_at hl 0 rfl) ?_
  obtain ⟨r_1, S_1, hc_1, h⟩ := lf_cE h
  have hFc := lx_free hD hS hA
  refine va_calli (va_runV (As := []) (rest := []) ⟨hx, hb, hml, hown, hts⟩ (l_Pl_usedInodes l dC dI X _ hc_1) (cwV 0 hts (gwV good_Vq (u_Vq_Pl _ k_Pl_163) (u_Vq_Pl _ k_Pl_157) (u_Vq_Pl _ k_Pl_158) (u_Vq_Pl _ k_Pl_0) (wcs (u_Vq_Pl _ k_Pl_159) (fun _ h => h))) rfl rfl rfl (by decide +kernel) ⟨Nat.le_of_ble_eq_true rfl, Nat.le_of_ble_eq_true rfl⟩) (pv_ofE (X.same _) (fun U z1 z2 => X.mono _ _ U hFc (hEw _ _ hS U z1 z2)) hP hK hD (va_recv hK hP (ci := 9) (q0 := 7) rfl rfl)) rfl rfl hl.1 rfl (lv_room (Nat.le_of_ble_eq_true rfl)) d_Pl_freeInodes_1 ⟨by decide, by decide⟩) hS (fun q _ h => hFc q h) hFc (fun r_ u t H locs ht hvm hw hB hz1 hk1 hS => ?_)
  rw [hw]
  obtain ⟨hP, -, hD⟩ := hB
  rw [ht] at hP
  have hD := lx_dj hD hFc
  refine lv_iload_n hx hb d_Pl_freeInodes_4 rfl (lv_at hl 1 rfl) ?_
  refine lv_aload_n hx hb d_Pl_freeInodes_5 rfl (lv_at hl 0 rfl) ?_
  refine va_get (D := (dC, dI)) (ci := 9) (v := .int S_1.v_Pl_inodes) (C := R_Pl) (T := F_Pl) (N := 17) hx hb hts (fun w h => u_Vq_Pl w (i_Pl w h)) hown hK hP 7 rfl rfl 13 (by decide) (hts _ (u_Vq_Pl _ k_Pl_24)) (fun _ h9 => h9) rfl d_Pl_freeInodes_6 ?_
  refine lv_imul hx hb d_Pl_freeInodes_9 ?_
  refine lv_isub hx hb d_Pl_freeInodes_10 ?_
  refine lv_iconst (v := 0) hx hb d_Pl_freeInodes_11 (by decide) ?_
  refine va_mmax hx hb (by rw [hml]; exact hl.1.symm) hown (hts _ (u_Vq_Pl _ k_Pl_164)) (hts _ (u_Vq_J _ k_J_5)) (hts _ (u_Vq_J _ k_J_0)) (hts _ (u_Vq_J _ k_J_6)) (Nat.le_of_ble_eq_true rfl) (Nat.le_of_ble_eq_true rfl) (by decide) (by decide) d_Pl_freeInodes_12 ?_
  refine lv_topi (fun x_2 ex_2 => ?_)
  have h := lf_lE h ex_2
  refine lv_istore_n (lv' := [(2, .int x_2), (0, .ref M.o_Pl), (1, .int p0)]) hx hb d_Pl_freeInodes_15 rfl hl (by decide) rfl (fun ls hl => ?_)
  refine lv_aload_n hx hb d_Pl_freeInodes_16 rfl (lv_at hl 1 rfl) ?_
  refine va_get (D := (dC, dI)) (ci := 9) (v := .int S_1.v_Pl_inodes) (C := R_Pl) (T := F_Pl) (N := 17) hx hb hts (fun w h => u_Vq_Pl w (i_Pl w h)) hown hK hP 7 rfl rfl 13 (by decide) (hts _ (u_Vq_Pl _ k_Pl_24)) (fun _ h9 => h9) rfl d_Pl_freeInodes_17 ?_
  refine lv_iload_n hx hb d_Pl_freeInodes_20 rfl (lv_at hl 0 rfl) ?_
  refine lv_aload_n hx hb d_Pl_freeInodes_21 rfl (lv_at hl 1 rfl) ?_
  refine va_get (D := (dC, dI)) (ci := 9) (v := .int S_1.v_Pl_inodes) (C := R_Pl) (T := F_Pl) (N := 17) hx hb hts (fun w h => u_Vq_Pl w (i_Pl w h)) hown hK hP 7 rfl rfl 13 (by decide) (hts _ (u_Vq_Pl _ k_Pl_24)) (fun _ h9 => h9) rfl d_Pl_freeInodes_22 ?_
  refine va_mmin hx hb (by rw [hml]; exact hl.1.symm) hown (hts _ (u_Vq_Pl _ k_Pl_48)) (hts _ (u_Vq_J _ k_J_7)) (hts _ (u_Vq_J _ k_J_0)) (hts _ (u_Vq_J _ k_J_8)) (Nat.le_of_ble_eq_true rfl) (Nat.le_of_ble_eq_true rfl) (by decide) (by decide) d_Pl_freeInodes_25 ?_
  refine lv_isub hx hb d_Pl_freeInodes_28 ?_
  rw [hQ]
  have e1 : (S_1.v_Pl_inodes - (if S_1.v_Pl_inodes < x_2 then S_1.v_Pl_inodes else x_2)) = r := congrArg Prod.fst (Option.some.inj h)
  have e2 : S_1 = S' := congrArg Prod.snd (Option.some.inj h)
  have hP := ly_newP e2.symm hP
  have hD := ly_newD e2.symm hD
  exact W.iret (v := (S_1.v_Pl_inodes - (if S_1.v_Pl_inodes < x_2 then S_1.v_Pl_inodes else x_2))) hx hb hr (fun t ht hW => ⟨⟨(S_1.v_Pl_inodes - (if S_1.v_Pl_inodes < x_2 then S_1.v_Pl_inodes else x_2)), (), rfl, e1, by rw [ht]; exact hP, va_K.moved hW.alike hK, hD⟩, hS.F ht⟩) hS.2.2 d_Pl_freeInodes_29
set_option maxHeartbeats 4000000 in
set_option maxRecDepth 100000 in
theorem l_Tu_recall (l : Launch) (dC : Nat → ClassId) (dI : Nat → Nat → Nat) {K : Nat} {M : CA} {E : (Nat → Prop) → State → Prop} (X : ly_X l dC dI K M E) (sz : Nat) {Y : CT} {G : CG} {S S' : CS} {r : Int32} (h : f_Tu_recall K G S = some (r, S')) : Met l y_Tu_recall (.code y_Tu_recall cb_Tu_recall 1 (some .boolean) :: V_Vq) ({ frames := 4, cells := 0, slots := 0, locals := 107 }) (va_Pc [.ref M.o_Tu] (fun U => U.heap.size = sz ∧ at_ (dC, dI) (fun _ => True) (wV M Y G S) (tV M) U ∧ E (va_A (wV M Y G S) sz) U)) (va_Qi (fun (r_ : Int32) (u : Unit) => r_ = r) (fun (u : Unit) t => at_ (dC, dI) (va_A (wV M Y G S) sz) (wV M Y G S') (tV M) t) (va_A (wV M Y G S) sz)) 0 0 (va_A (wV M Y G S) sz) := by
  refine Met.ofW (cc := cb_Tu_recall) (maxL := 1) (ret := (some .boolean)) (by decide) rfl ?_
  intro p e s m args below meth c s₁ B hml hv
  obtain ⟨rfl, hsz, ⟨hP, hK, hD0⟩, hE⟩ := hv
  have hx := B.exec
  have hb := B.bytes
  have hr := B.returns
  have hts0 := atoms_spec (ws := .code y_Tu_recall cb_Tu_recall 1 (some .boolean) :: V_Vq) B.pre
  have hts : ∀ w ∈ V_Vq, w.before ([.ref M.o_Tu] : List Value).toArray s = true := fun w h => hts0 w (List.mem_cons_of_mem _ h)
  have hown : s.vm.findClass R_Tu = some m.cls := findClass_of_methodNamed B.named
  subst hsz
  have hD := hD0.self (sz := s.heap.size)
  generalize hAe : va_A (wV M Y G S) s.heap.size = A at hD hE ⊢
  have hA : ∀ q : Nat, s.heap.size ≤ q → A q := fun q h => by rw [← hAe]; exact Or.inr h
  have hS : va_S A s.heap s.heap [] := va_S.rf
  have hP : va_P (dC, dI) classes (wV M Y G S) s.heap := hP
  have hK : va_K (dC, dI) classes (tV M) s := hK
  have hEw : ∀ (H : Heap) (locs : List Loc), va_S A s.heap H locs → ∀ U : State, U.heap = H → s.WarmedH U.vm → E A U := fun H locs hS U hU hW => X.kept A s U H locs hE hS hU hW
  have hl := lv_entry ([.ref M.o_Tu]) (n := 1) (Nat.le_of_ble_eq_true rfl)
  rw [lg_entry_eq]
  generalize (lg_sl ([.ref M.o_Tu]) ++ List.replicate (1 - (lg_sl ([.ref M.o_Tu])).length) Slot.unset).toArray = ls at hl ⊢
  have hl : lv_has ls 1 [(0, .ref M.o_Tu)] := hl
  refine qabs (fun Q hQ => ?_)
  have hB_38 : ∀ (S : CS) (H : Heap) (locs : List Loc) (ls : Array Slot), f_Tu_recall_38 K G S = some (r, S') → va_P (dC, dI) classes (wV M Y G S) H → va_D A (wV M Y G S) → va_S A s.heap H locs → lv_has ls 1 [] → W p l e ({ frames := 4, cells := 0, slots := 0, locals := 107 }) s m ([.ref M.o_Tu] : List Value).toArray below meth c H locs 0 0 Q (F0 m 38 ls []) := by
    intro S H locs ls h hP hD hS hl
    rw [f_Tu_recall_38] at h
    refine lv_iconst (v := 0) hx hb d_Tu_recall_38 (by decide) ?_
    rw [hQ]
    have e1 : (0 : Int32) = r := congrArg Prod.fst (Option.some.inj h)
    have e2 : S = S' := congrArg Prod.snd (Option.some.inj h)
    have hP := ly_newP e2.symm hP
    have hD := ly_newD e2.symm hD
    exact W.zret (v := 0) hx hb hr rfl (fun t ht hW => ⟨⟨0, (), rfl, e1, by rw [ht]; exact hP, va_K.moved hW.alike hK, hD⟩, hS.F ht⟩) hS.2.2 d_Tu_recall_39
  rw [f_Tu_recall] at h
  refine lv_aload_n hx hb d_Tu_recall_0 rfl (lv_at hl 0 rfl) ?_
  refine va_get (D := (dC, dI)) (ci := 10) (v := .ref M.o_In) (C := R_Tu) (T := F_Tu) (N := 7) hx hb hts (fun w h => u_Vq_Tu w (i_Tu w h)) hown hK hP 8 rfl rfl 5 (by decide) (hts _ (u_Vq_Tu _ k_Tu_22)) (fun _ h9 => h9) rfl d_Tu_recall_1 ?_
  obtain ⟨r_1, S_1, hc_1, h⟩ := lf_cE h
  have hFc := lx_free hD hS hA
  refine va_calli (va_runV (As := []) (rest := []) ⟨hx, hb, hml, hown, hts⟩ (l_In_isMarked l dC dI X _ hc_1) (cwV 0 hts (gwV good_Vq (u_Vq_Tu _ k_Tu_33) (u_Vq_In _ k_In_11) (u_Vq_In _ k_In_12) (u_Vq_In _ k_In_0) (wcs (u_Vq_In _ k_In_13) (fun _ h => h))) rfl rfl rfl (by decide +kernel) ⟨Nat.le_of_ble_eq_true rfl, Nat.le_of_ble_eq_true rfl⟩) (pv_ofE (X.same _) (fun U z1 z2 => X.mono _ _ U hFc (hEw _ _ hS U z1 z2)) hP hK hD (va_recv hK hP (ci := 6) (q0 := 9) rfl rfl)) rfl rfl hl.1 rfl (lv_room (Nat.le_of_ble_eq_true rfl)) d_Tu_recall_4 ⟨by decide, by decide⟩) hS (fun q _ h => hFc q h) hFc (fun r_ u t H locs ht hvm hw hB hz1 hk1 hS => ?_)
  rw [hw]
  obtain ⟨hP, -, hD⟩ := hB
  rw [ht] at hP
  have hD := lx_dj hD hFc
  refine lv_if_eq (tgt := 38) hx hb d_Tu_recall_7 (by decide) (fun c_2 => ?_) (fun c_2 => ?_)
  · have h := lf_t h c_2
    exact hB_38 S_1 _ _ _ h hP hD hS (lv_sub hl [] rfl)
  · have h := lf_f h c_2
    refine lv_aload_n hx hb d_Tu_recall_10 rfl (lv_at hl 0 rfl) ?_
    refine va_get (D := (dC, dI)) (ci := 10) (v := .ref M.o_Pl) (C := R_Tu) (T := F_Tu) (N := 7) hx hb hts (fun w h => u_Vq_Tu w (i_Tu w h)) hown hK hP 8 rfl rfl 4 (by decide) (hts _ (u_Vq_Tu _ k_Tu_21)) (fun _ h9 => h9) rfl d_Tu_recall_11 ?_
    refine lv_aload_n hx hb d_Tu_recall_14 rfl (lv_at hl 0 rfl) ?_
    refine va_get (D := (dC, dI)) (ci := 10) (v := .ref M.o_In) (C := R_Tu) (T := F_Tu) (N := 7) hx hb hts (fun w h => u_Vq_Tu w (i_Tu w h)) hown hK hP 8 rfl rfl 5 (by decide) (hts _ (u_Vq_Tu _ k_Tu_22)) (fun _ h9 => h9) rfl d_Tu_recall_15 ?_
    obtain ⟨r_3, S_3, hc_3, h⟩ := lf_cE h
    have hFc := lx_free hD hS hA
    refine va_calli (va_runV (As := []) (rest := [.ref M.o_Pl]) ⟨hx, hb, hml, hown, hts⟩ (l_In_markedSize l dC dI X _ hc_3) (cwV 0 hts (gwV good_Vq (u_Vq_Tu _ k_Tu_34) (u_Vq_In _ k_In_64) (u_Vq_In _ k_In_65) (u_Vq_In _ k_In_0) (wcs (u_Vq_In _ k_In_66) (fun _ h => h))) rfl rfl rfl (by decide +kernel) ⟨Nat.le_of_ble_eq_true rfl, Nat.le_of_ble_eq_true rfl⟩) (pv_ofE (X.same _) (fun U z1 z2 => X.mono _ _ U hFc (hEw _ _ hS U z1 z2)) hP hK hD (va_recv hK hP (ci := 6) (q0 := 9) rfl rfl)) rfl rfl hl.1 rfl (lv_room (Nat.le_of_ble_eq_true rfl)) d_Tu_recall_18 ⟨by decide, by decide⟩) hS (fun q _ h => hFc q h) hFc (fun r_ u t H locs ht hvm hw hB hz1 hk1 hS => ?_)
    rw [hw]
    obtain ⟨hP, -, hD⟩ := hB
    rw [ht] at hP
    have hD := lx_dj hD hFc
    refine lv_aload_n hx hb d_Tu_recall_21 rfl (lv_at hl 0 rfl) ?_
    refine va_get (D := (dC, dI)) (ci := 10) (v := .ref M.o_In) (C := R_Tu) (T := F_Tu) (N := 7) hx hb hts (fun w h => u_Vq_Tu w (i_Tu w h)) hown hK hP 8 rfl rfl 5 (by decide) (hts _ (u_Vq_Tu _ k_Tu_22)) (fun _ h9 => h9) rfl d_Tu_recall_22 ?_
    obtain ⟨r_4, S_4, hc_4, h⟩ := lf_cE h
    have hFc := lx_free hD hS hA
    refine va_calli (va_runV (As := []) (rest := [.int r_3, .ref M.o_Pl]) ⟨hx, hb, hml, hown, hts⟩ (l_In_markedInodes l dC dI X _ hc_4) (cwV 0 hts (gwV good_Vq (u_Vq_Tu _ k_Tu_35) (u_Vq_In _ k_In_67) (u_Vq_In _ k_In_68) (u_Vq_In _ k_In_0) (wcs (u_Vq_In _ k_In_69) (fun _ h => h))) rfl rfl rfl (by decide +kernel) ⟨Nat.le_of_ble_eq_true rfl, Nat.le_of_ble_eq_true rfl⟩) (pv_ofE (X.same _) (fun U z1 z2 => X.mono _ _ U hFc (hEw _ _ hS U z1 z2)) hP hK hD (va_recv hK hP (ci := 6) (q0 := 9) rfl rfl)) rfl rfl hl.1 rfl (lv_room (Nat.le_of_ble_eq_true rfl)) d_Tu_recall_25 ⟨by decide, by decide⟩) hS (fun q _ h => hFc q h) hFc (fun r_ u t H locs ht hvm hw hB hz1 hk1 hS => ?_)
    rw [hw]
    obtain ⟨hP, -, hD⟩ := hB
    rw [ht] at hP
    have hD := lx_dj hD hFc
    obtain ⟨r_5, S_5, hc_5, h⟩ := lf_cE h
    have hFc := lx_free hD hS hA
    refine va_calli (va_runV (As := [.int r_3, .int r_4]) (rest := []) ⟨hx, hb, hml, hown, hts⟩ (l_Pl_recall l dC dI X _ hc_5) (cwV 2 hts (gwV good_Vq (u_Vq_Tu _ k_Tu_36) (u_Vq_Pl _ k_Pl_153) (u_Vq_Pl _ k_Pl_154) (u_Vq_Pl _ k_Pl_0) (wcs (u_Vq_Pl _ k_Pl_155) (fun _ h => h))) rfl rfl rfl (by decide +kernel) ⟨Nat.le_of_ble_eq_true rfl, Nat.le_of_ble_eq_true rfl⟩) (pv_ofE (X.same _) (fun U z1 z2 => X.mono _ _ U hFc (hEw _ _ hS U z1 z2)) hP hK hD (va_recv hK hP (ci := 9) (q0 := 7) rfl rfl)) rfl rfl hl.1 rfl (lv_room (Nat.le_of_ble_eq_true rfl)) d_Tu_recall_28 ⟨by decide, by decide⟩) hS (fun q _ h => hFc q h) hFc (fun r_ u t H locs ht hvm hw hB hz1 hk1 hS => ?_)
    rw [hw]
    obtain ⟨hP, -, hD⟩ := hB
    rw [ht] at hP
    have hD := lx_dj hD hFc
    refine lv_if_eq (tgt := 38) hx hb d_Tu_recall_31 (by decide) (fun c_6 => ?_) (fun c_6 => ?_)
    · have h := lf_t h c_6
      exact hB_38 S_5 _ _ _ h hP hD hS (lv_sub hl [] rfl)
    · have h := lf_f h c_6
      refine lv_iconst (v := 1) hx hb d_Tu_recall_34 (by decide) ?_
      refine lv_goto (tgt := 39) hx hb d_Tu_recall_35 (by decide) ?_
      rw [hQ]
      have e1 : (1 : Int32) = r := congrArg Prod.fst (Option.some.inj h)
      have e2 : S_5 = S' := congrArg Prod.snd (Option.some.inj h)
      have hP := ly_newP e2.symm hP
      have hD := ly_newD e2.symm hD
      exact W.zret (v := 1) hx hb hr rfl (fun t ht hW => ⟨⟨1, (), rfl, e1, by rw [ht]; exact hP, va_K.moved hW.alike hK, hD⟩, hS.F ht⟩) hS.2.2 d_Tu_recall_39
set_option maxHeartbeats 4000000 in
set_option maxRecDepth 100000 in
theorem l_Dk_load_Tublock (l : Launch) (dC : Nat → ClassId) (dI : Nat → Nat → Nat) {K : Nat} {M : CA} {E : (Nat → Prop) → State → Prop} (X : ly_X l dC dI K M E) (sz : Nat) {Y : CT} {G : CG} {S S' : CS} {p0 : Int32} {p2 : Int32} (h : f_Dk_load_Tublock K G S p0 p2 = some S') : Met l y_Dk_load (.code y_Dk_load b_Dk_load 4 none :: V_Vq) ({ frames := 1, cells := 0, slots := 0, locals := 60 }) (va_Pc [.ref M.o_Dk, .int p0, .ref M.a_Tu_block, .int p2] (fun U => U.heap.size = sz ∧ at_ (dC, dI) (fun _ => True) (wV M Y G S) (tV M) U ∧ E (va_A (wV M Y G S) sz) U)) (va_Qv (fun (u : Unit) => True) (fun (u : Unit) t => at_ (dC, dI) (va_A (wV M Y G S) sz) (wV M Y G S') (tV M) t) (va_A (wV M Y G S) sz)) 0 0 (va_A (wV M Y G S) sz) := by
  refine Met.ofW (cc := b_Dk_load) (maxL := 4) (ret := none) (by decide) rfl ?_
  intro p e s m args below meth c s₁ B hml hv
  obtain ⟨rfl, hsz, ⟨hP, hK, hD0⟩, hE⟩ := hv
  have hx := B.exec
  have hb := B.bytes
  have hr := B.returns
  have hts0 := atoms_spec (ws := .code y_Dk_load b_Dk_load 4 none :: V_Vq) B.pre
  have hts : ∀ w ∈ V_Vq, w.before ([.ref M.o_Dk, .int p0, .ref M.a_Tu_block, .int p2] : List Value).toArray s = true := fun w h => hts0 w (List.mem_cons_of_mem _ h)
  have hown : s.vm.findClass R_Dk = some m.cls := findClass_of_methodNamed B.named
  subst hsz
  have hD := hD0.self (sz := s.heap.size)
  generalize hAe : va_A (wV M Y G S) s.heap.size = A at hD hE ⊢
  have hA : ∀ q : Nat, s.heap.size ≤ q → A q := fun q h => by rw [← hAe]; exact Or.inr h
  have hS : va_S A s.heap s.heap [] := va_S.rf
  have hP : va_P (dC, dI) classes (wV M Y G S) s.heap := hP
  have hK : va_K (dC, dI) classes (tV M) s := hK
  have hEw : ∀ (H : Heap) (locs : List Loc), va_S A s.heap H locs → ∀ U : State, U.heap = H → s.WarmedH U.vm → E A U := fun H locs hS U hU hW => X.kept A s U H locs hE hS hU hW
  have hl := lv_entry ([.ref M.o_Dk, .int p0, .ref M.a_Tu_block, .int p2]) (n := 4) (Nat.le_of_ble_eq_true rfl)
  rw [lg_entry_eq]
  generalize (lg_sl ([.ref M.o_Dk, .int p0, .ref M.a_Tu_block, .int p2]) ++ List.replicate (4 - (lg_sl ([.ref M.o_Dk, .int p0, .ref M.a_Tu_block, .int p2])).length) Slot.unset).toArray = ls at hl ⊢
  have hl : lv_has ls 4 [(0, .ref M.o_Dk), (1, .int p0), (2, .ref M.a_Tu_block), (3, .int p2)] := hl
  refine qabs (fun Q hQ => ?_)
  rw [f_Dk_load_Tublock] at h
  refine lv_aload_n hx hb d_Dk_load_0 rfl (lv_at hl 0 rfl) ?_
  refine lv_iload_n hx hb d_Dk_load_1 rfl (lv_at hl 1 rfl) ?_
  refine lv_iconst (v := 0) hx hb d_Dk_load_2 (by decide) ?_
  obtain ⟨r_1, S_1, hc_1, h⟩ := lf_cE h
  have hFc := lx_free hD hS hA
  refine va_calli (va_runV (As := [.int p0, .int 0]) (rest := []) ⟨hx, hb, hml, hown, hts⟩ (l_Dk_has l dC dI X _ hc_1) (cwV 2 hts (gwV good_Vq (u_Vq_Dk _ k_Dk_39) (u_Vq_Dk _ k_Dk_8) (u_Vq_Dk _ k_Dk_9) (u_Vq_Dk _ k_Dk_0) (wcs (u_Vq_Dk _ k_Dk_10) (fun _ h => h))) rfl rfl rfl (by decide +kernel) ⟨Nat.le_of_ble_eq_true rfl, Nat.le_of_ble_eq_true rfl⟩) (pv_ofE (X.same _) (fun U z1 z2 => X.mono _ _ U hFc (hEw _ _ hS U z1 z2)) hP hK hD (va_recv hK hP (ci := 0) (q0 := 1) rfl rfl)) rfl rfl hl.1 rfl (lv_room (Nat.le_of_ble_eq_true rfl)) d_Dk_load_3 ⟨by decide, by decide⟩) hS (fun q _ h => hFc q h) hFc (fun r_ u t H locs ht hvm hw hB hz1 hk1 hS => ?_)
  rw [hw]
  obtain ⟨hP, -, hD⟩ := hB
  rw [ht] at hP
  have hD := lx_dj hD hFc
  refine lv_if_eq (tgt := 40) hx hb d_Dk_load_6 (by decide) (fun c_2 => ?_) (fun c_2 => ?_)
  · have h := lf_t h c_2
    rw [hQ]
    have e2 : S_1 = S' := Option.some.inj h
    have hP := ly_newP e2.symm hP
    have hD := ly_newD e2.symm hD
    exact W.vret hx hb hr (fun t ht hW => ⟨⟨(), rfl, trivial, by rw [ht]; exact hP, va_K.moved hW.alike hK, hD⟩, hS.F ht⟩) hS.2.2 d_Dk_load_40
  · have h := lf_f h c_2
    refine lv_iload_n hx hb d_Dk_load_9 rfl (lv_at hl 3 rfl) ?_
    refine lv_if_lt (tgt := 40) hx hb d_Dk_load_10 (by decide) (fun c_3 => ?_) (fun c_3 => ?_)
    · have h := lf_t h c_3
      rw [hQ]
      have e2 : S_1 = S' := Option.some.inj h
      have hP := ly_newP e2.symm hP
      have hD := ly_newD e2.symm hD
      exact W.vret hx hb hr (fun t ht hW => ⟨⟨(), rfl, trivial, by rw [ht]; exact hP, va_K.moved hW.alike hK, hD⟩, hS.F ht⟩) hS.2.2 d_Dk_load_40
    · have h := lf_f h c_3
      refine lv_iload_n hx hb d_Dk_load_13 rfl (lv_at hl 3 rfl) ?_
      refine lv_aload_n hx hb d_Dk_load_14 rfl (lv_at hl 2 rfl) ?_
      refine va_alen (v := 1024) hx hb hK hP 44 0 rfl rfl rfl d_Dk_load_15 ?_
      refine lv_sipush (v := 512) hx hb d_Dk_load_16 (by decide) ?_
      refine lv_isub hx hb d_Dk_load_19 ?_
      refine lv_icmp_gt (tgt := 40) hx hb d_Dk_load_20 (by decide) (fun c_4 => ?_) (fun c_4 => ?_)
      · have h := lf_t h c_4
        rw [hQ]
        have e2 : S_1 = S' := Option.some.inj h
        have hP := ly_newP e2.symm hP
        have hD := ly_newD e2.symm hD
        exact W.vret hx hb hr (fun t ht hW => ⟨⟨(), rfl, trivial, by rw [ht]; exact hP, va_K.moved hW.alike hK, hD⟩, hS.F ht⟩) hS.2.2 d_Dk_load_40
      · have h := lf_f h c_4
        refine lv_aload_n hx hb d_Dk_load_23 rfl (lv_at hl 0 rfl) ?_
        refine va_get (D := (dC, dI)) (ci := 0) (v := .ref M.a_Dk_bytes) (C := R_Dk) (T := F_Dk) (N := 3) hx hb hts (fun w h => u_Vq_Dk w (i_Dk w h)) hown hK hP 1 rfl rfl 1 (by decide) (hts _ (u_Vq_Dk _ k_Dk_6)) (fun _ h9 => h9) rfl d_Dk_load_24 ?_
        refine lv_iload_n hx hb d_Dk_load_27 rfl (lv_at hl 1 rfl) ?_
        refine lv_sipush (v := 512) hx hb d_Dk_load_28 (by decide) ?_
        refine lv_imul hx hb d_Dk_load_31 ?_
        refine lv_aload_n hx hb d_Dk_load_32 rfl (lv_at hl 2 rfl) ?_
        refine lv_iload_n hx hb d_Dk_load_33 rfl (lv_at hl 3 rfl) ?_
        refine lv_sipush (v := 512) hx hb d_Dk_load_34 (by decide) ?_
        obtain ⟨g_5, h⟩ := lf_gE h
        refine va_copyi (ty := .byte) hx hb (by rw [hml]; exact hl.1.symm) hown (hts _ (u_Vq_Dk _ k_Dk_40)) (hts _ (u_Vq_J _ k_J_13)) (hts _ (u_Vq_J _ k_J_12)) (hts _ (u_Vq_J _ k_J_1)) hK hP hD hS 12 44 0 0 rfl rfl rfl rfl rfl g_5.1 g_5.2.1 g_5.2.2.1 g_5.2.2.2.1 g_5.2.2.2.2.1 g_5.2.2.2.2.2 (Nat.le_of_ble_eq_true rfl) (Nat.le_of_ble_eq_true rfl) d_Dk_load_37 (fun H locs hP hD hS => ?_)
        obtain ⟨S_6, eS_6, h⟩ := lf_lX h
        have hP := ly_newP eS_6 hP
        have hD := ly_newD eS_6 hD
        rw [hQ]
        have e2 : S_6 = S' := Option.some.inj h
        have hP := ly_newP e2.symm hP
        have hD := ly_newD e2.symm hD
        exact W.vret hx hb hr (fun t ht hW => ⟨⟨(), rfl, trivial, by rw [ht]; exact hP, va_K.moved hW.alike hK, hD⟩, hS.F ht⟩) hS.2.2 d_Dk_load_40
set_option maxHeartbeats 4000000 in
set_option maxRecDepth 100000 in
theorem l_Dk_store_Tublock (l : Launch) (dC : Nat → ClassId) (dI : Nat → Nat → Nat) {K : Nat} {M : CA} {E : (Nat → Prop) → State → Prop} (X : ly_X l dC dI K M E) (sz : Nat) {Y : CT} {G : CG} {S S' : CS} {p0 : Int32} {p2 : Int32} (h : f_Dk_store_Tublock K G S p0 p2 = some S') : Met l y_Dk_store (.code y_Dk_store b_Dk_store 4 none :: V_Vq) ({ frames := 1, cells := 0, slots := 0, locals := 60 }) (va_Pc [.ref M.o_Dk, .int p0, .ref M.a_Tu_block, .int p2] (fun U => U.heap.size = sz ∧ at_ (dC, dI) (fun _ => True) (wV M Y G S) (tV M) U ∧ E (va_A (wV M Y G S) sz) U)) (va_Qv (fun (u : Unit) => True) (fun (u : Unit) t => at_ (dC, dI) (va_A (wV M Y G S) sz) (wV M Y G S') (tV M) t) (va_A (wV M Y G S) sz)) 0 0 (va_A (wV M Y G S) sz) := by
  refine Met.ofW (cc := b_Dk_store) (maxL := 4) (ret := none) (by decide) rfl ?_
  intro p e s m args below meth c s₁ B hml hv
  obtain ⟨rfl, hsz, ⟨hP, hK, hD0⟩, hE⟩ := hv
  have hx := B.exec
  have hb := B.bytes
  have hr := B.returns
  have hts0 := atoms_spec (ws := .code y_Dk_store b_Dk_store 4 none :: V_Vq) B.pre
  have hts : ∀ w ∈ V_Vq, w.before ([.ref M.o_Dk, .int p0, .ref M.a_Tu_block, .int p2] : List Value).toArray s = true := fun w h => hts0 w (List.mem_cons_of_mem _ h)
  have hown : s.vm.findClass R_Dk = some m.cls := findClass_of_methodNamed B.named
  subst hsz
  have hD := hD0.self (sz := s.heap.size)
  generalize hAe : va_A (wV M Y G S) s.heap.size = A at hD hE ⊢
  have hA : ∀ q : Nat, s.heap.size ≤ q → A q := fun q h => by rw [← hAe]; exact Or.inr h
  have hS : va_S A s.heap s.heap [] := va_S.rf
  have hP : va_P (dC, dI) classes (wV M Y G S) s.heap := hP
  have hK : va_K (dC, dI) classes (tV M) s := hK
  have hEw : ∀ (H : Heap) (locs : List Loc), va_S A s.heap H locs → ∀ U : State, U.heap = H → s.WarmedH U.vm → E A U := fun H locs hS U hU hW => X.kept A s U H locs hE hS hU hW
  have hl := lv_entry ([.ref M.o_Dk, .int p0, .ref M.a_Tu_block, .int p2]) (n := 4) (Nat.le_of_ble_eq_true rfl)
  rw [lg_entry_eq]
  generalize (lg_sl ([.ref M.o_Dk, .int p0, .ref M.a_Tu_block, .int p2]) ++ List.replicate (4 - (lg_sl ([.ref M.o_Dk, .int p0, .ref M.a_Tu_block, .int p2])).length) Slot.unset).toArray = ls at hl ⊢
  have hl : lv_has ls 4 [(0, .ref M.o_Dk), (1, .int p0), (2, .ref M.a_Tu_block), (3, .int p2)] := hl
  refine qabs (fun Q hQ => ?_)
  have hB_48 : ∀ (y_1 : Int32) (y_3 : Int32) (S : CS) (H : Heap) (locs : List Loc) (ls : Array Slot), f_Dk_store_Tublock_48 K G y_1 y_3 S = some S' → va_P (dC, dI) classes (wV M Y G S) H → va_D A (wV M Y G S) → va_S A s.heap H locs → lv_has ls 4 [(0, .ref M.o_Dk), (1, .int y_1), (2, .ref M.a_Tu_block), (3, .int y_3)] → W p l e ({ frames := 1, cells := 0, slots := 0, locals := 60 }) s m ([.ref M.o_Dk, .int p0, .ref M.a_Tu_block, .int p2] : List Value).toArray below meth c H locs 0 0 Q (F0 m 48 ls []) := by
    intro y_1 y_3 S H locs ls h hP hD hS hl
    rw [f_Dk_store_Tublock_48] at h
    refine lv_aload_n hx hb d_Dk_store_48 rfl (lv_at hl 2 rfl) ?_
    refine lv_iload_n hx hb d_Dk_store_49 rfl (lv_at hl 3 rfl) ?_
    refine lv_aload_n hx hb d_Dk_store_50 rfl (lv_at hl 0 rfl) ?_
    refine va_get (D := (dC, dI)) (ci := 0) (v := .ref M.a_Dk_bytes) (C := R_Dk) (T := F_Dk) (N := 3) hx hb hts (fun w h => u_Vq_Dk w (i_Dk w h)) hown hK hP 1 rfl rfl 1 (by decide) (hts _ (u_Vq_Dk _ k_Dk_6)) (fun _ h9 => h9) rfl d_Dk_store_51 ?_
    refine lv_iload_n hx hb d_Dk_store_54 rfl (lv_at hl 1 rfl) ?_
    refine lv_sipush (v := 512) hx hb d_Dk_store_55 (by decide) ?_
    refine lv_imul hx hb d_Dk_store_58 ?_
    refine lv_sipush (v := 512) hx hb d_Dk_store_59 (by decide) ?_
    obtain ⟨g_8, h⟩ := lf_gE h
    refine va_copyi (ty := .byte) hx hb (by rw [hml]; exact hl.1.symm) hown (hts _ (u_Vq_Dk _ k_Dk_40)) (hts _ (u_Vq_J _ k_J_13)) (hts _ (u_Vq_J _ k_J_12)) (hts _ (u_Vq_J _ k_J_1)) hK hP hD hS 44 12 0 0 rfl rfl rfl rfl rfl g_8.1 g_8.2.1 g_8.2.2.1 g_8.2.2.2.1 g_8.2.2.2.2.1 g_8.2.2.2.2.2 (Nat.le_of_ble_eq_true rfl) (Nat.le_of_ble_eq_true rfl) d_Dk_store_62 (fun H locs hP hD hS => ?_)
    obtain ⟨S_9, eS_9, h⟩ := lf_lX h
    have hP := ly_newP eS_9 hP
    have hD := ly_newD eS_9 hD
    rw [hQ]
    have e2 : S_9 = S' := Option.some.inj h
    have hP := ly_newP e2.symm hP
    have hD := ly_newD e2.symm hD
    exact W.vret hx hb hr (fun t ht hW => ⟨⟨(), rfl, trivial, by rw [ht]; exact hP, va_K.moved hW.alike hK, hD⟩, hS.F ht⟩) hS.2.2 d_Dk_store_65
  rw [f_Dk_store_Tublock] at h
  refine lv_aload_n hx hb d_Dk_store_0 rfl (lv_at hl 0 rfl) ?_
  refine va_get (D := (dC, dI)) (ci := 0) (v := .int S.v_Dk_power) (C := R_Dk) (T := F_Dk) (N := 3) hx hb hts (fun w h => u_Vq_Dk w (i_Dk w h)) hown hK hP 1 rfl rfl 2 (by decide) (hts _ (u_Vq_Dk _ k_Dk_7)) (fun _ h9 => h9) rfl d_Dk_store_1 ?_
  refine lv_if_eq (tgt := 30) hx hb d_Dk_store_4 (by decide) (fun c_1 => ?_) (fun c_1 => ?_)
  · have h := lf_t h c_1
    rw [hQ]
    have e2 : S = S' := Option.some.inj h
    have hP := ly_newP e2.symm hP
    have hD := ly_newD e2.symm hD
    exact W.vret hx hb hr (fun t ht hW => ⟨⟨(), rfl, trivial, by rw [ht]; exact hP, va_K.moved hW.alike hK, hD⟩, hS.F ht⟩) hS.2.2 d_Dk_store_30
  · have h := lf_f h c_1
    refine lv_aload_n hx hb d_Dk_store_7 rfl (lv_at hl 0 rfl) ?_
    refine lv_iload_n hx hb d_Dk_store_8 rfl (lv_at hl 1 rfl) ?_
    refine lv_iconst (v := 0) hx hb d_Dk_store_9 (by decide) ?_
    obtain ⟨r_2, S_2, hc_2, h⟩ := lf_cE h
    have hFc := lx_free hD hS hA
    refine va_calli (va_runV (As := [.int p0, .int 0]) (rest := []) ⟨hx, hb, hml, hown, hts⟩ (l_Dk_has l dC dI X _ hc_2) (cwV 2 hts (gwV good_Vq (u_Vq_Dk _ k_Dk_39) (u_Vq_Dk _ k_Dk_8) (u_Vq_Dk _ k_Dk_9) (u_Vq_Dk _ k_Dk_0) (wcs (u_Vq_Dk _ k_Dk_10) (fun _ h => h))) rfl rfl rfl (by decide +kernel) ⟨Nat.le_of_ble_eq_true rfl, Nat.le_of_ble_eq_true rfl⟩) (pv_ofE (X.same _) (fun U z1 z2 => X.mono _ _ U hFc (hEw _ _ hS U z1 z2)) hP hK hD (va_recv hK hP (ci := 0) (q0 := 1) rfl rfl)) rfl rfl hl.1 rfl (lv_room (Nat.le_of_ble_eq_true rfl)) d_Dk_store_10 ⟨by decide, by decide⟩) hS (fun q _ h => hFc q h) hFc (fun r_ u t H locs ht hvm hw hB hz1 hk1 hS => ?_)
    rw [hw]
    obtain ⟨hP, -, hD⟩ := hB
    rw [ht] at hP
    have hD := lx_dj hD hFc
    refine lv_if_eq (tgt := 30) hx hb d_Dk_store_13 (by decide) (fun c_3 => ?_) (fun c_3 => ?_)
    · have h := lf_t h c_3
      rw [hQ]
      have e2 : S_2 = S' := Option.some.inj h
      have hP := ly_newP e2.symm hP
      have hD := ly_newD e2.symm hD
      exact W.vret hx hb hr (fun t ht hW => ⟨⟨(), rfl, trivial, by rw [ht]; exact hP, va_K.moved hW.alike hK, hD⟩, hS.F ht⟩) hS.2.2 d_Dk_store_30
    · have h := lf_f h c_3
      refine lv_iload_n hx hb d_Dk_store_16 rfl (lv_at hl 3 rfl) ?_
      refine lv_if_lt (tgt := 30) hx hb d_Dk_store_17 (by decide) (fun c_4 => ?_) (fun c_4 => ?_)
      · have h := lf_t h c_4
        rw [hQ]
        have e2 : S_2 = S' := Option.some.inj h
        have hP := ly_newP e2.symm hP
        have hD := ly_newD e2.symm hD
        exact W.vret hx hb hr (fun t ht hW => ⟨⟨(), rfl, trivial, by rw [ht]; exact hP, va_K.moved hW.alike hK, hD⟩, hS.F ht⟩) hS.2.2 d_Dk_store_30
      · have h := lf_f h c_4
        refine lv_iload_n hx hb d_Dk_store_20 rfl (lv_at hl 3 rfl) ?_
        refine lv_aload_n hx hb d_Dk_store_21 rfl (lv_at hl 2 rfl) ?_
        refine va_alen (v := 1024) hx hb hK hP 44 0 rfl rfl rfl d_Dk_store_22 ?_
        refine lv_sipush (v := 512) hx hb d_Dk_store_23 (by decide) ?_
        refine lv_isub hx hb d_Dk_store_26 ?_
        refine lv_icmp_le (tgt := 31) hx hb d_Dk_store_27 (by decide) (fun c_5 => ?_) (fun c_5 => ?_)
        · have h := lf_t h c_5
          refine lv_aload_n hx hb d_Dk_store_31 rfl (lv_at hl 0 rfl) ?_
          refine va_get (D := (dC, dI)) (ci := 0) (v := .int S_2.v_Dk_power) (C := R_Dk) (T := F_Dk) (N := 3) hx hb hts (fun w h => u_Vq_Dk w (i_Dk w h)) hown hK hP 1 rfl rfl 2 (by decide) (hts _ (u_Vq_Dk _ k_Dk_7)) (fun _ h9 => h9) rfl d_Dk_store_32 ?_
          refine lv_if_le (tgt := 48) hx hb d_Dk_store_35 (by decide) (fun c_6 => ?_) (fun c_6 => ?_)
          · have h := lf_t h c_6
            exact hB_48 p0 p2 S_2 _ _ _ h hP hD hS (lv_sub hl [0, 1, 2, 3] rfl)
          · have h := lf_f h c_6
            refine lv_aload_n hx hb d_Dk_store_38 rfl (lv_at hl 0 rfl) ?_
            refine lv_dup hx hb d_Dk_store_39 rfl ?_
            refine va_get (D := (dC, dI)) (ci := 0) (v := .int S_2.v_Dk_power) (C := R_Dk) (T := F_Dk) (N := 3) hx hb hts (fun w h => u_Vq_Dk w (i_Dk w h)) hown hK hP 1 rfl rfl 2 (by decide) (hts _ (u_Vq_Dk _ k_Dk_7)) (fun _ h9 => h9) rfl d_Dk_store_40 ?_
            refine lv_iconst (v := 1) hx hb d_Dk_store_43 (by decide) ?_
            refine lv_isub hx hb d_Dk_store_44 ?_
            refine va_put (D := (dC, dI)) (ci := 0) (v := .int (S_2.v_Dk_power - 1)) (ty := .int) (C := R_Dk) (T := F_Dk) (N := 3) hx hb hts (fun w h => u_Vq_Dk w (i_Dk w h)) t_Dk t_Dk_ok n_Dk hown hK hP hD hS 1 rfl rfl 2 (by decide) (hts _ (u_Vq_Dk _ k_Dk_7)) (fun _ h9 => h9) rfl (by decide +kernel) rfl rfl (Nat.le_of_ble_eq_true rfl) d_Dk_store_45 (fun H locs hP hD hS => ?_)
            obtain ⟨S_7, eS_7, h⟩ := lf_lX h
            have hP := ly_newP eS_7 hP
            have hD := ly_newD eS_7 hD
            exact hB_48 p0 p2 S_7 _ _ _ h hP hD hS (lv_sub hl [0, 1, 2, 3] rfl)
        · have h := lf_f h c_5
          rw [hQ]
          have e2 : S_2 = S' := Option.some.inj h
          have hP := ly_newP e2.symm hP
          have hD := ly_newD e2.symm hD
          exact W.vret hx hb hr (fun t ht hW => ⟨⟨(), rfl, trivial, by rw [ht]; exact hP, va_K.moved hW.alike hK, hD⟩, hS.F ht⟩) hS.2.2 d_Dk_store_30
set_option maxHeartbeats 4000000 in
set_option maxRecDepth 100000 in
theorem l_Tu_copySector (l : Launch) (dC : Nat → ClassId) (dI : Nat → Nat → Nat) {K : Nat} {M : CA} {E : (Nat → Prop) → State → Prop} (X : ly_X l dC dI K M E) (sz : Nat) {Y : CT} {G : CG} {S S' : CS} {p0 : Int32} {p1 : Int32} (h : f_Tu_copySector K G S p0 p1 = some S') : Met l y_Tu_copySector (.code y_Tu_copySector cb_Tu_copySector 3 none :: V_Vq) ({ frames := 2, cells := 0, slots := 0, locals := 83 }) (va_Pc [.ref M.o_Tu, .int p0, .int p1] (fun U => U.heap.size = sz ∧ at_ (dC, dI) (fun _ => True) (wV M Y G S) (tV M) U ∧ E (va_A (wV M Y G S) sz) U)) (va_Qv (fun (u : Unit) => True) (fun (u : Unit) t => at_ (dC, dI) (va_A (wV M Y G S) sz) (wV M Y G S') (tV M) t) (va_A (wV M Y G S) sz)) 0 0 (va_A (wV M Y G S) sz) := by
  refine Met.ofW (cc := cb_Tu_copySector) (maxL := 3) (ret := none) (by decide) rfl ?_
  intro p e s m args below meth c s₁ B hml hv
  obtain ⟨rfl, hsz, ⟨hP, hK, hD0⟩, hE⟩ := hv
  have hx := B.exec
  have hb := B.bytes
  have hr := B.returns
  have hts0 := atoms_spec (ws := .code y_Tu_copySector cb_Tu_copySector 3 none :: V_Vq) B.pre
  have hts : ∀ w ∈ V_Vq, w.before ([.ref M.o_Tu, .int p0, .int p1] : List Value).toArray s = true := fun w h => hts0 w (List.mem_cons_of_mem _ h)
  have hown : s.vm.findClass R_Tu = some m.cls := findClass_of_methodNamed B.named
  subst hsz
  have hD := hD0.self (sz := s.heap.size)
  generalize hAe : va_A (wV M Y G S) s.heap.size = A at hD hE ⊢
  have hA : ∀ q : Nat, s.heap.size ≤ q → A q := fun q h => by rw [← hAe]; exact Or.inr h
  have hS : va_S A s.heap s.heap [] := va_S.rf
  have hP : va_P (dC, dI) classes (wV M Y G S) s.heap := hP
  have hK : va_K (dC, dI) classes (tV M) s := hK
  have hEw : ∀ (H : Heap) (locs : List Loc), va_S A s.heap H locs → ∀ U : State, U.heap = H → s.WarmedH U.vm → E A U := fun H locs hS U hU hW => X.kept A s U H locs hE hS hU hW
  have hl := lv_entry ([.ref M.o_Tu, .int p0, .int p1]) (n := 3) (Nat.le_of_ble_eq_true rfl)
  rw [lg_entry_eq]
  generalize (lg_sl ([.ref M.o_Tu, .int p0, .int p1]) ++ List.replicate (3 - (lg_sl ([.ref M.o_Tu, .int p0, .int p1])).length) Slot.unset).toArray = ls at hl ⊢
  have hl : lv_has ls 3 [(0, .ref M.o_Tu), (1, .int p0), (2, .int p1)] := hl
  refine qabs (fun Q hQ => ?_)
  rw [f_Tu_copySector] at h
  refine lv_aload_n hx hb d_Tu_copySector_0 rfl (lv_at hl 0 rfl) ?_
  refine va_get (D := (dC, dI)) (ci := 10) (v := .ref M.o_Dk) (C := R_Tu) (T := F_Tu) (N := 7) hx hb hts (fun w h => u_Vq_Tu w (i_Tu w h)) hown hK hP 8 rfl rfl 0 (by decide) (hts _ (u_Vq_Tu _ k_Tu_17)) (fun _ h9 => h9) rfl d_Tu_copySector_1 ?_
  refine lv_iload_n hx hb d_Tu_copySector_4 rfl (lv_at hl 1 rfl) ?_
  refine lv_aload_n hx hb d_Tu_copySector_5 rfl (lv_at hl 0 rfl) ?_
  refine va_get (D := (dC, dI)) (ci := 10) (v := .ref M.a_Tu_block) (C := R_Tu) (T := F_Tu) (N := 7) hx hb hts (fun w h => u_Vq_Tu w (i_Tu w h)) hown hK hP 8 rfl rfl 6 (by decide) (hts _ (u_Vq_Tu _ k_Tu_23)) (fun _ h9 => h9) rfl d_Tu_copySector_6 ?_
  refine lv_iconst (v := 0) hx hb d_Tu_copySector_9 (by decide) ?_
  obtain ⟨S_1, hc_1, h⟩ := lf_bE h
  have hFc := lx_free hD hS hA
  refine va_callv (va_runV (As := [.int p0, .ref M.a_Tu_block, .int 0]) (rest := []) ⟨hx, hb, hml, hown, hts⟩ (l_Dk_load_Tublock l dC dI X _ hc_1) (cwV 3 hts (gwV good_Vq (u_Vq_Tu _ k_Tu_41) (u_Vq_Dk _ k_Dk_36) (u_Vq_Dk _ k_Dk_37) (u_Vq_Dk _ k_Dk_0) (wcs (u_Vq_Dk _ k_Dk_38) (fun _ h => h))) rfl rfl rfl (by decide +kernel) ⟨Nat.le_of_ble_eq_true rfl, Nat.le_of_ble_eq_true rfl⟩) (pv_ofE (X.same _) (fun U z1 z2 => X.mono _ _ U hFc (hEw _ _ hS U z1 z2)) hP hK hD (va_recv hK hP (ci := 0) (q0 := 1) rfl rfl)) rfl rfl hl.1 rfl (lv_room (Nat.le_of_ble_eq_true rfl)) d_Tu_copySector_10 ⟨by decide, by decide⟩) hS (fun q _ h => hFc q h) hFc (fun u t H locs ht hvm hw hB hz1 hk1 hS => ?_)
  obtain ⟨hP, -, hD⟩ := hB
  rw [ht] at hP
  have hD := lx_dj hD hFc
  refine lv_aload_n hx hb d_Tu_copySector_13 rfl (lv_at hl 0 rfl) ?_
  refine va_get (D := (dC, dI)) (ci := 10) (v := .ref M.o_Dk) (C := R_Tu) (T := F_Tu) (N := 7) hx hb hts (fun w h => u_Vq_Tu w (i_Tu w h)) hown hK hP 8 rfl rfl 0 (by decide) (hts _ (u_Vq_Tu _ k_Tu_17)) (fun _ h9 => h9) rfl d_Tu_copySector_14 ?_
  refine lv_iload_n hx hb d_Tu_copySector_17 rfl (lv_at hl 2 rfl) ?_
  refine lv_aload_n hx hb d_Tu_copySector_18 rfl (lv_at hl 0 rfl) ?_
  refine va_get (D := (dC, dI)) (ci := 10) (v := .ref M.a_Tu_block) (C := R_Tu) (T := F_Tu) (N := 7) hx hb hts (fun w h => u_Vq_Tu w (i_Tu w h)) hown hK hP 8 rfl rfl 6 (by decide) (hts _ (u_Vq_Tu _ k_Tu_23)) (fun _ h9 => h9) rfl d_Tu_copySector_19 ?_
  refine lv_iconst (v := 0) hx hb d_Tu_copySector_22 (by decide) ?_
  obtain ⟨S_2, hc_2, h⟩ := lf_bE h
  have hFc := lx_free hD hS hA
  refine va_callv (va_runV (As := [.int p1, .ref M.a_Tu_block, .int 0]) (rest := []) ⟨hx, hb, hml, hown, hts⟩ (l_Dk_store_Tublock l dC dI X _ hc_2) (cwV 3 hts (gwV good_Vq (u_Vq_Tu _ k_Tu_42) (u_Vq_Dk _ k_Dk_41) (u_Vq_Dk _ k_Dk_42) (u_Vq_Dk _ k_Dk_0) (wcs (u_Vq_Dk _ k_Dk_43) (fun _ h => h))) rfl rfl rfl (by decide +kernel) ⟨Nat.le_of_ble_eq_true rfl, Nat.le_of_ble_eq_true rfl⟩) (pv_ofE (X.same _) (fun U z1 z2 => X.mono _ _ U hFc (hEw _ _ hS U z1 z2)) hP hK hD (va_recv hK hP (ci := 0) (q0 := 1) rfl rfl)) rfl rfl hl.1 rfl (lv_room (Nat.le_of_ble_eq_true rfl)) d_Tu_copySector_23 ⟨by decide, by decide⟩) hS (fun q _ h => hFc q h) hFc (fun u t H locs ht hvm hw hB hz1 hk1 hS => ?_)
  obtain ⟨hP, -, hD⟩ := hB
  rw [ht] at hP
  have hD := lx_dj hD hFc
  rw [hQ]
  have e2 : S_2 = S' := Option.some.inj h
  have hP := ly_newP e2.symm hP
  have hD := ly_newD e2.symm hD
  exact W.vret hx hb hr (fun t ht hW => ⟨⟨(), rfl, trivial, by rw [ht]; exact hP, va_K.moved hW.alike hK, hD⟩, hS.F ht⟩) hS.2.2 d_Tu_copySector_26
set_option maxHeartbeats 4000000 in
set_option maxRecDepth 100000 in
theorem l_Tu_copyCluster (l : Launch) (dC : Nat → ClassId) (dI : Nat → Nat → Nat) {K : Nat} {M : CA} {E : (Nat → Prop) → State → Prop} (X : ly_X l dC dI K M E) (sz : Nat) {Y : CT} {G : CG} {S S' : CS} {p0 : Int32} {p1 : Int32} (h : f_Tu_copyCluster K G S p0 p1 = some S') : Met l y_Tu_copyCluster (.code y_Tu_copyCluster cb_Tu_copyCluster 4 none :: V_Vq) ({ frames := 3, cells := 0, slots := 0, locals := 105 }) (va_Pc [.ref M.o_Tu, .int p0, .int p1] (fun U => U.heap.size = sz ∧ at_ (dC, dI) (fun _ => True) (wV M Y G S) (tV M) U ∧ E (va_A (wV M Y G S) sz) U)) (va_Qv (fun (u : Unit) => True) (fun (u : Unit) t => at_ (dC, dI) (va_A (wV M Y G S) sz) (wV M Y G S') (tV M) t) (va_A (wV M Y G S) sz)) 0 0 (va_A (wV M Y G S) sz) := by
  refine Met.ofW (cc := cb_Tu_copyCluster) (maxL := 4) (ret := none) (by decide) rfl ?_
  intro p e s m args below meth c s₁ B hml hv
  obtain ⟨rfl, hsz, ⟨hP, hK, hD0⟩, hE⟩ := hv
  have hx := B.exec
  have hb := B.bytes
  have hr := B.returns
  have hts0 := atoms_spec (ws := .code y_Tu_copyCluster cb_Tu_copyCluster 4 none :: V_Vq) B.pre
  have hts : ∀ w ∈ V_Vq, w.before ([.ref M.o_Tu, .int p0, .int p1] : List Value).toArray s = true := fun w h => hts0 w (List.mem_cons_of_mem _ h)
  have hown : s.vm.findClass R_Tu = some m.cls := findClass_of_methodNamed B.named
  subst hsz
  have hD := hD0.self (sz := s.heap.size)
  generalize hAe : va_A (wV M Y G S) s.heap.size = A at hD hE ⊢
  have hA : ∀ q : Nat, s.heap.size ≤ q → A q := fun q h => by rw [← hAe]; exact Or.inr h
  have hS : va_S A s.heap s.heap [] := va_S.rf
  have hP : va_P (dC, dI) classes (wV M Y G S) s.heap := hP
  have hK : va_K (dC, dI) classes (tV M) s := hK
  have hEw : ∀ (H : Heap) (locs : List Loc), va_S A s.heap H locs → ∀ U : State, U.heap = H → s.WarmedH U.vm → E A U := fun H locs hS U hU hW => X.kept A s U H locs hE hS hU hW
  have hl := lv_entry ([.ref M.o_Tu, .int p0, .int p1]) (n := 4) (Nat.le_of_ble_eq_true rfl)
  rw [lg_entry_eq]
  generalize (lg_sl ([.ref M.o_Tu, .int p0, .int p1]) ++ List.replicate (4 - (lg_sl ([.ref M.o_Tu, .int p0, .int p1])).length) Slot.unset).toArray = ls at hl ⊢
  have hl : lv_has ls 4 [(0, .ref M.o_Tu), (1, .int p0), (2, .int p1)] := hl
  refine qabs (fun Q hQ => ?_)
  have hB_2 : ∀ (k : Nat), ∀ (y_1 : Int32) (y_2 : Int32) (y_3 : Int32) (S : CS) (H : Heap) (locs : List Loc) (ls : Array Slot), f_Tu_copyCluster_2 K G k y_1 y_2 y_3 S = some S' → va_P (dC, dI) classes (wV M Y G S) H → va_D A (wV M Y G S) → va_S A s.heap H locs → lv_has ls 4 [(0, .ref M.o_Tu), (1, .int y_1), (2, .int y_2), (3, .int y_3)] → W p l e ({ frames := 3, cells := 0, slots := 0, locals := 105 }) s m ([.ref M.o_Tu, .int p0, .int p1] : List Value).toArray below meth c H locs 0 0 Q (F0 m 2 ls []) := by
    intro k
    induction k with
    | zero => intro y_1 y_2 y_3 S H locs ls h; exact lf_no h
    | succ k hr_2 =>
      intro y_1 y_2 y_3 S H locs ls h hP hD hS hl
      rw [f_Tu_copyCluster_2] at h
      refine lv_iload_n hx hb d_Tu_copyCluster_2 rfl (lv_at hl 3 rfl) ?_
      refine lv_aload_n hx hb d_Tu_copyCluster_3 rfl (lv_at hl 0 rfl) ?_
      refine va_get (D := (dC, dI)) (ci := 10) (v := .ref M.o_Tb) (C := R_Tu) (T := F_Tu) (N := 7) hx hb hts (fun w h => u_Vq_Tu w (i_Tu w h)) hown hK hP 8 rfl rfl 1 (by decide) (hts _ (u_Vq_Tu _ k_Tu_18)) (fun _ h9 => h9) rfl d_Tu_copyCluster_4 ?_
      refine va_get (D := (dC, dI)) (ci := 4) (v := .int S.v_Tb_cluster) (C := R_Tb) (T := F_Tb) (N := 10) hx hb hts (fun w h => u_Vq_Tb w (i_Tb w h)) hown hK hP 3 rfl rfl 1 (by decide) (hts _ (u_Vq_Tu _ k_Tu_1)) (fun _ h9 => h9) rfl d_Tu_copyCluster_7 ?_
      refine lv_icmp_ge (tgt := 65) hx hb d_Tu_copyCluster_10 (by decide) (fun c_1 => ?_) (fun c_1 => ?_)
      · have h := lf_t h c_1
        rw [hQ]
        have e2 : S = S' := Option.some.inj h
        have hP := ly_newP e2.symm hP
        have hD := ly_newD e2.symm hD
        exact W.vret hx hb hr (fun t ht hW => ⟨⟨(), rfl, trivial, by rw [ht]; exact hP, va_K.moved hW.alike hK, hD⟩, hS.F ht⟩) hS.2.2 d_Tu_copyCluster_65
      · have h := lf_f h c_1
        refine lv_aload_n hx hb d_Tu_copyCluster_13 rfl (lv_at hl 0 rfl) ?_
        refine lv_aload_n hx hb d_Tu_copyCluster_14 rfl (lv_at hl 0 rfl) ?_
        refine va_get (D := (dC, dI)) (ci := 10) (v := .ref M.o_Tb) (C := R_Tu) (T := F_Tu) (N := 7) hx hb hts (fun w h => u_Vq_Tu w (i_Tu w h)) hown hK hP 8 rfl rfl 1 (by decide) (hts _ (u_Vq_Tu _ k_Tu_18)) (fun _ h9 => h9) rfl d_Tu_copyCluster_15 ?_
        refine va_get (D := (dC, dI)) (ci := 4) (v := .int S.v_Tb_start) (C := R_Tb) (T := F_Tb) (N := 10) hx hb hts (fun w h => u_Vq_Tb w (i_Tb w h)) hown hK hP 3 rfl rfl 6 (by decide) (hts _ (u_Vq_Tu _ k_Tu_2)) (fun _ h9 => h9) rfl d_Tu_copyCluster_18 ?_
        refine lv_iload_n hx hb d_Tu_copyCluster_21 rfl (lv_at hl 1 rfl) ?_
        refine lv_iconst (v := 2) hx hb d_Tu_copyCluster_22 (by decide) ?_
        refine lv_isub hx hb d_Tu_copyCluster_23 ?_
        refine lv_aload_n hx hb d_Tu_copyCluster_24 rfl (lv_at hl 0 rfl) ?_
        refine va_get (D := (dC, dI)) (ci := 10) (v := .ref M.o_Tb) (C := R_Tu) (T := F_Tu) (N := 7) hx hb hts (fun w h => u_Vq_Tu w (i_Tu w h)) hown hK hP 8 rfl rfl 1 (by decide) (hts _ (u_Vq_Tu _ k_Tu_18)) (fun _ h9 => h9) rfl d_Tu_copyCluster_25 ?_
        refine va_get (D := (dC, dI)) (ci := 4) (v := .int S.v_Tb_cluster) (C := R_Tb) (T := F_Tb) (N := 10) hx hb hts (fun w h => u_Vq_Tb w (i_Tb w h)) hown hK hP 3 rfl rfl 1 (by decide) (hts _ (u_Vq_Tu _ k_Tu_1)) (fun _ h9 => h9) rfl d_Tu_copyCluster_28 ?_
        refine lv_imul hx hb d_Tu_copyCluster_31 ?_
        refine lv_iadd hx hb d_Tu_copyCluster_32 ?_
        refine lv_iload_n hx hb d_Tu_copyCluster_33 rfl (lv_at hl 3 rfl) ?_
        refine lv_iadd hx hb d_Tu_copyCluster_34 ?_
        refine lv_aload_n hx hb d_Tu_copyCluster_35 rfl (lv_at hl 0 rfl) ?_
        refine va_get (D := (dC, dI)) (ci := 10) (v := .ref M.o_Tb) (C := R_Tu) (T := F_Tu) (N := 7) hx hb hts (fun w h => u_Vq_Tu w (i_Tu w h)) hown hK hP 8 rfl rfl 1 (by decide) (hts _ (u_Vq_Tu _ k_Tu_18)) (fun _ h9 => h9) rfl d_Tu_copyCluster_36 ?_
        refine va_get (D := (dC, dI)) (ci := 4) (v := .int S.v_Tb_start) (C := R_Tb) (T := F_Tb) (N := 10) hx hb hts (fun w h => u_Vq_Tb w (i_Tb w h)) hown hK hP 3 rfl rfl 6 (by decide) (hts _ (u_Vq_Tu _ k_Tu_2)) (fun _ h9 => h9) rfl d_Tu_copyCluster_39 ?_
        refine lv_iload_n hx hb d_Tu_copyCluster_42 rfl (lv_at hl 2 rfl) ?_
        refine lv_iconst (v := 2) hx hb d_Tu_copyCluster_43 (by decide) ?_
        refine lv_isub hx hb d_Tu_copyCluster_44 ?_
        refine lv_aload_n hx hb d_Tu_copyCluster_45 rfl (lv_at hl 0 rfl) ?_
        refine va_get (D := (dC, dI)) (ci := 10) (v := .ref M.o_Tb) (C := R_Tu) (T := F_Tu) (N := 7) hx hb hts (fun w h => u_Vq_Tu w (i_Tu w h)) hown hK hP 8 rfl rfl 1 (by decide) (hts _ (u_Vq_Tu _ k_Tu_18)) (fun _ h9 => h9) rfl d_Tu_copyCluster_46 ?_
        refine va_get (D := (dC, dI)) (ci := 4) (v := .int S.v_Tb_cluster) (C := R_Tb) (T := F_Tb) (N := 10) hx hb hts (fun w h => u_Vq_Tb w (i_Tb w h)) hown hK hP 3 rfl rfl 1 (by decide) (hts _ (u_Vq_Tu _ k_Tu_1)) (fun _ h9 => h9) rfl d_Tu_copyCluster_49 ?_
        refine lv_imul hx hb d_Tu_copyCluster_52 ?_
        refine lv_iadd hx hb d_Tu_copyCluster_53 ?_
        refine lv_iload_n hx hb d_Tu_copyCluster_54 rfl (lv_at hl 3 rfl) ?_
        refine lv_iadd hx hb d_Tu_copyCluster_55 ?_
        obtain ⟨S_2, hc_2, h⟩ := lf_bE h
        have hFc := lx_free hD hS hA
        refine va_callv (va_runV (As := [.int ((S.v_Tb_start + ((y_1 - 2) * S.v_Tb_cluster)) + y_3), .int ((S.v_Tb_start + ((y_2 - 2) * S.v_Tb_cluster)) + y_3)]) (rest := []) ⟨hx, hb, hml, hown, hts⟩ (l_Tu_copySector l dC dI X _ hc_2) (cwV 2 hts (gwV good_Vq (u_Vq_Tu _ k_Tu_38) (u_Vq_Tu _ k_Tu_39) (u_Vq_Tu _ k_Tu_160) (u_Vq_Tu _ k_Tu_0) (wcs (u_Vq_Tu _ k_Tu_40) (fun _ h => h))) rfl rfl rfl (by decide +kernel) ⟨Nat.le_of_ble_eq_true rfl, Nat.le_of_ble_eq_true rfl⟩) (pv_ofE (X.same _) (fun U z1 z2 => X.mono _ _ U hFc (hEw _ _ hS U z1 z2)) hP hK hD (va_recv hK hP (ci := 10) (q0 := 8) rfl rfl)) rfl rfl hl.1 rfl (lv_room (Nat.le_of_ble_eq_true rfl)) d_Tu_copyCluster_56 ⟨by decide, by decide⟩) hS (fun q _ h => hFc q h) hFc (fun u t H locs ht hvm hw hB hz1 hk1 hS => ?_)
        obtain ⟨hP, -, hD⟩ := hB
        rw [ht] at hP
        have hD := lx_dj hD hFc
        obtain ⟨x_3, ex_3, h⟩ := lf_lX h
        refine lv_iinc (v := x_3) (lv' := [(3, .int x_3), (0, .ref M.o_Tu), (1, .int y_1), (2, .int y_2)]) hx hb d_Tu_copyCluster_59 hl (k := 3) rfl (by rw [ex_3]; rfl) (by decide) rfl (fun ls hl => ?_)
        refine lv_goto (tgt := 2) hx hb d_Tu_copyCluster_62 (by decide) ?_
        exact hr_2 y_1 y_2 x_3 S_2 _ _ _ h hP hD hS (lv_sub hl [1, 2, 3, 0] rfl)
  rw [f_Tu_copyCluster] at h
  refine lv_iconst (v := 0) hx hb d_Tu_copyCluster_0 (by decide) ?_
  refine lv_istore_n (lv' := [(3, .int 0), (0, .ref M.o_Tu), (1, .int p0), (2, .int p1)]) hx hb d_Tu_copyCluster_1 rfl hl (by decide) rfl (fun ls hl => ?_)
  exact hB_2 K p0 p1 0 S _ _ _ h hP hD hS (lv_sub hl [1, 2, 3, 0] rfl)
set_option maxHeartbeats 4000000 in
set_option maxRecDepth 100000 in
theorem l_Tu_goBack (l : Launch) (dC : Nat → ClassId) (dI : Nat → Nat → Nat) {K : Nat} {M : CA} {E : (Nat → Prop) → State → Prop} (X : ly_X l dC dI K M E) (sz : Nat) {Y : CT} {G : CG} {S S' : CS} (h : f_Tu_goBack K G S = some S') : Met l y_Tu_goBack (.code y_Tu_goBack cb_Tu_goBack 3 none :: V_Vq) ({ frames := 5, cells := 0, slots := 0, locals := 128 }) (va_Pc [.ref M.o_Tu] (fun U => U.heap.size = sz ∧ at_ (dC, dI) (fun _ => True) (wV M Y G S) (tV M) U ∧ E (va_A (wV M Y G S) sz) U)) (va_Qv (fun (u : Unit) => True) (fun (u : Unit) t => at_ (dC, dI) (va_A (wV M Y G S) sz) (wV M Y G S') (tV M) t) (va_A (wV M Y G S) sz)) 0 0 (va_A (wV M Y G S) sz) := by
  refine Met.ofW (cc := cb_Tu_goBack) (maxL := 3) (ret := none) (by decide) rfl ?_
  intro p e s m args below meth c s₁ B hml hv
  obtain ⟨rfl, hsz, ⟨hP, hK, hD0⟩, hE⟩ := hv
  have hx := B.exec
  have hb := B.bytes
  have hr := B.returns
  have hts0 := atoms_spec (ws := .code y_Tu_goBack cb_Tu_goBack 3 none :: V_Vq) B.pre
  have hts : ∀ w ∈ V_Vq, w.before ([.ref M.o_Tu] : List Value).toArray s = true := fun w h => hts0 w (List.mem_cons_of_mem _ h)
  have hown : s.vm.findClass R_Tu = some m.cls := findClass_of_methodNamed B.named
  subst hsz
  have hD := hD0.self (sz := s.heap.size)
  generalize hAe : va_A (wV M Y G S) s.heap.size = A at hD hE ⊢
  have hA : ∀ q : Nat, s.heap.size ≤ q → A q := fun q h => by rw [← hAe]; exact Or.inr h
  have hS : va_S A s.heap s.heap [] := va_S.rf
  have hP : va_P (dC, dI) classes (wV M Y G S) s.heap := hP
  have hK : va_K (dC, dI) classes (tV M) s := hK
  have hEw : ∀ (H : Heap) (locs : List Loc), va_S A s.heap H locs → ∀ U : State, U.heap = H → s.WarmedH U.vm → E A U := fun H locs hS U hU hW => X.kept A s U H locs hE hS hU hW
  have hl := lv_entry ([.ref M.o_Tu]) (n := 3) (Nat.le_of_ble_eq_true rfl)
  rw [lg_entry_eq]
  generalize (lg_sl ([.ref M.o_Tu]) ++ List.replicate (3 - (lg_sl ([.ref M.o_Tu])).length) Slot.unset).toArray = ls at hl ⊢
  have hl : lv_has ls 3 [(0, .ref M.o_Tu)] := hl
  refine qabs (fun Q hQ => ?_)
  have hB_74 : ∀ (rec_27 : Int32 → Int32 → CS → Option (CS)) (hr_27 : ∀ (y_1 : Int32) (y_2 : Int32) (S : CS) (H : Heap) (locs : List Loc) (ls : Array Slot), rec_27 y_1 y_2 S = some S' → va_P (dC, dI) classes (wV M Y G S) H → va_D A (wV M Y G S) → va_S A s.heap H locs → lv_has ls 3 [(0, .ref M.o_Tu), (1, .int y_1), (2, .int y_2)] → W p l e ({ frames := 5, cells := 0, slots := 0, locals := 128 }) s m ([.ref M.o_Tu] : List Value).toArray below meth c H locs 0 0 Q (F0 m 27 ls [])), ∀ (y_1 : Int32) (y_2 : Int32) (S : CS) (H : Heap) (locs : List Loc) (ls : Array Slot), f_Tu_goBack_74 K G rec_27 y_1 y_2 S = some S' → va_P (dC, dI) classes (wV M Y G S) H → va_D A (wV M Y G S) → va_S A s.heap H locs → lv_has ls 3 [(0, .ref M.o_Tu), (1, .int y_1), (2, .int y_2)] → W p l e ({ frames := 5, cells := 0, slots := 0, locals := 128 }) s m ([.ref M.o_Tu] : List Value).toArray below meth c H locs 0 0 Q (F0 m 74 ls []) := by
    intro rec_27 hr_27 y_1 y_2 S H locs ls h hP hD hS hl
    rw [f_Tu_goBack_74] at h
    obtain ⟨x_20, ex_20, h⟩ := lf_lX h
    refine lv_iinc (v := x_20) (lv' := [(2, .int x_20), (0, .ref M.o_Tu), (1, .int y_1)]) hx hb d_Tu_goBack_74 hl (k := 2) rfl (by rw [ex_20]; rfl) (by decide) rfl (fun ls hl => ?_)
    refine lv_goto (tgt := 27) hx hb d_Tu_goBack_77 (by decide) ?_
    exact hr_27 y_1 x_20 S _ _ _ h hP hD hS (lv_sub hl [1, 2, 0] rfl)
  have hB_80 : ∀ (y_1 : Int32) (S : CS) (H : Heap) (locs : List Loc) (ls : Array Slot), f_Tu_goBack_80 K G y_1 S = some S' → va_P (dC, dI) classes (wV M Y G S) H → va_D A (wV M Y G S) → va_S A s.heap H locs → lv_has ls 3 [(0, .ref M.o_Tu), (1, .int y_1)] → W p l e ({ frames := 5, cells := 0, slots := 0, locals := 128 }) s m ([.ref M.o_Tu] : List Value).toArray below meth c H locs 0 0 Q (F0 m 80 ls []) := by
    intro y_1 S H locs ls h hP hD hS hl
    rw [f_Tu_goBack_80] at h
    refine lv_aload_n hx hb d_Tu_goBack_80 rfl (lv_at hl 0 rfl) ?_
    refine lv_iload_n hx hb d_Tu_goBack_81 rfl (lv_at hl 1 rfl) ?_
    refine lv_iconst (v := 1) hx hb d_Tu_goBack_82 (by decide) ?_
    refine lv_iadd hx hb d_Tu_goBack_83 ?_
    refine lv_iconst (v := 3) hx hb d_Tu_goBack_84 (by decide) ?_
    obtain ⟨S_13, hc_13, h⟩ := lf_bE h
    have hFc := lx_free hD hS hA
    refine va_callv (va_runV (As := [.int (y_1 + 1), .int 3]) (rest := []) ⟨hx, hb, hml, hown, hts⟩ (l_Tu_copySector l dC dI X _ hc_13) (cwV 2 hts (gwV good_Vq (u_Vq_Tu _ k_Tu_38) (u_Vq_Tu _ k_Tu_39) (u_Vq_Tu _ k_Tu_160) (u_Vq_Tu _ k_Tu_0) (wcs (u_Vq_Tu _ k_Tu_40) (fun _ h => h))) rfl rfl rfl (by decide +kernel) ⟨Nat.le_of_ble_eq_true rfl, Nat.le_of_ble_eq_true rfl⟩) (pv_ofE (X.same _) (fun U z1 z2 => X.mono _ _ U hFc (hEw _ _ hS U z1 z2)) hP hK hD (va_recv hK hP (ci := 10) (q0 := 8) rfl rfl)) rfl rfl hl.1 rfl (lv_room (Nat.le_of_ble_eq_true rfl)) d_Tu_goBack_85 ⟨by decide, by decide⟩) hS (fun q _ h => hFc q h) hFc (fun u t H locs ht hvm hw hB hz1 hk1 hS => ?_)
    obtain ⟨hP, -, hD⟩ := hB
    rw [ht] at hP
    have hD := lx_dj hD hFc
    refine lv_aload_n hx hb d_Tu_goBack_88 rfl (lv_at hl 0 rfl) ?_
    refine lv_iconst (v := 2) hx hb d_Tu_goBack_89 (by decide) ?_
    refine lv_aload_n hx hb d_Tu_goBack_90 rfl (lv_at hl 0 rfl) ?_
    refine va_get (D := (dC, dI)) (ci := 10) (v := .ref M.o_Pl) (C := R_Tu) (T := F_Tu) (N := 7) hx hb hts (fun w h => u_Vq_Tu w (i_Tu w h)) hown hK hP 8 rfl rfl 4 (by decide) (hts _ (u_Vq_Tu _ k_Tu_21)) (fun _ h9 => h9) rfl d_Tu_goBack_91 ?_
    refine lv_iconst (v := 1) hx hb d_Tu_goBack_94 (by decide) ?_
    obtain ⟨r_14, S_14, hc_14, h⟩ := lf_cE h
    have hFc := lx_free hD hS hA
    refine va_calli (va_runV (As := [.int 1]) (rest := [.int 2, .ref M.o_Tu]) ⟨hx, hb, hml, hown, hts⟩ (l_Pl_room l dC dI X _ hc_14) (cwV 1 hts (gwV good_Vq (u_Vq_Tu _ k_Tu_37) (u_Vq_Pl _ k_Pl_96) (u_Vq_Pl _ k_Pl_97) (u_Vq_Pl _ k_Pl_0) (wcs (u_Vq_Pl _ k_Pl_98) (fun _ h => h))) rfl rfl rfl (by decide +kernel) ⟨Nat.le_of_ble_eq_true rfl, Nat.le_of_ble_eq_true rfl⟩) (pv_ofE (X.same _) (fun U z1 z2 => X.mono _ _ U hFc (hEw _ _ hS U z1 z2)) hP hK hD (va_recv hK hP (ci := 9) (q0 := 7) rfl rfl)) rfl rfl hl.1 rfl (lv_room (Nat.le_of_ble_eq_true rfl)) d_Tu_goBack_95 ⟨by decide, by decide⟩) hS (fun q _ h => hFc q h) hFc (fun r_ u t H locs ht hvm hw hB hz1 hk1 hS => ?_)
    rw [hw]
    obtain ⟨hP, -, hD⟩ := hB
    rw [ht] at hP
    have hD := lx_dj hD hFc
    refine lv_imul hx hb d_Tu_goBack_98 ?_
    refine lv_iconst (v := 4) hx hb d_Tu_goBack_99 (by decide) ?_
    obtain ⟨S_15, hc_15, h⟩ := lf_bE h
    have hFc := lx_free hD hS hA
    refine va_callv (va_runV (As := [.int (2 * r_14), .int 4]) (rest := []) ⟨hx, hb, hml, hown, hts⟩ (l_Tu_copySector l dC dI X _ hc_15) (cwV 2 hts (gwV good_Vq (u_Vq_Tu _ k_Tu_38) (u_Vq_Tu _ k_Tu_39) (u_Vq_Tu _ k_Tu_160) (u_Vq_Tu _ k_Tu_0) (wcs (u_Vq_Tu _ k_Tu_40) (fun _ h => h))) rfl rfl rfl (by decide +kernel) ⟨Nat.le_of_ble_eq_true rfl, Nat.le_of_ble_eq_true rfl⟩) (pv_ofE (X.same _) (fun U z1 z2 => X.mono _ _ U hFc (hEw _ _ hS U z1 z2)) hP hK hD (va_recv hK hP (ci := 10) (q0 := 8) rfl rfl)) rfl rfl hl.1 rfl (lv_room (Nat.le_of_ble_eq_true rfl)) d_Tu_goBack_100 ⟨by decide, by decide⟩) hS (fun q _ h => hFc q h) hFc (fun u t H locs ht hvm hw hB hz1 hk1 hS => ?_)
    obtain ⟨hP, -, hD⟩ := hB
    rw [ht] at hP
    have hD := lx_dj hD hFc
    refine lv_aload_n hx hb d_Tu_goBack_103 rfl (lv_at hl 0 rfl) ?_
    refine lv_iconst (v := 2) hx hb d_Tu_goBack_104 (by decide) ?_
    refine lv_aload_n hx hb d_Tu_goBack_105 rfl (lv_at hl 0 rfl) ?_
    refine va_get (D := (dC, dI)) (ci := 10) (v := .ref M.o_Pl) (C := R_Tu) (T := F_Tu) (N := 7) hx hb hts (fun w h => u_Vq_Tu w (i_Tu w h)) hown hK hP 8 rfl rfl 4 (by decide) (hts _ (u_Vq_Tu _ k_Tu_21)) (fun _ h9 => h9) rfl d_Tu_goBack_106 ?_
    refine lv_iconst (v := 1) hx hb d_Tu_goBack_109 (by decide) ?_
    obtain ⟨r_16, S_16, hc_16, h⟩ := lf_cE h
    have hFc := lx_free hD hS hA
    refine va_calli (va_runV (As := [.int 1]) (rest := [.int 2, .ref M.o_Tu]) ⟨hx, hb, hml, hown, hts⟩ (l_Pl_room l dC dI X _ hc_16) (cwV 1 hts (gwV good_Vq (u_Vq_Tu _ k_Tu_37) (u_Vq_Pl _ k_Pl_96) (u_Vq_Pl _ k_Pl_97) (u_Vq_Pl _ k_Pl_0) (wcs (u_Vq_Pl _ k_Pl_98) (fun _ h => h))) rfl rfl rfl (by decide +kernel) ⟨Nat.le_of_ble_eq_true rfl, Nat.le_of_ble_eq_true rfl⟩) (pv_ofE (X.same _) (fun U z1 z2 => X.mono _ _ U hFc (hEw _ _ hS U z1 z2)) hP hK hD (va_recv hK hP (ci := 9) (q0 := 7) rfl rfl)) rfl rfl hl.1 rfl (lv_room (Nat.le_of_ble_eq_true rfl)) d_Tu_goBack_110 ⟨by decide, by decide⟩) hS (fun q _ h => hFc q h) hFc (fun r_ u t H locs ht hvm hw hB hz1 hk1 hS => ?_)
    rw [hw]
    obtain ⟨hP, -, hD⟩ := hB
    rw [ht] at hP
    have hD := lx_dj hD hFc
    refine lv_imul hx hb d_Tu_goBack_113 ?_
    refine lv_iconst (v := 1) hx hb d_Tu_goBack_114 (by decide) ?_
    refine lv_iadd hx hb d_Tu_goBack_115 ?_
    refine lv_iconst (v := 5) hx hb d_Tu_goBack_116 (by decide) ?_
    obtain ⟨S_17, hc_17, h⟩ := lf_bE h
    have hFc := lx_free hD hS hA
    refine va_callv (va_runV (As := [.int ((2 * r_16) + 1), .int 5]) (rest := []) ⟨hx, hb, hml, hown, hts⟩ (l_Tu_copySector l dC dI X _ hc_17) (cwV 2 hts (gwV good_Vq (u_Vq_Tu _ k_Tu_38) (u_Vq_Tu _ k_Tu_39) (u_Vq_Tu _ k_Tu_160) (u_Vq_Tu _ k_Tu_0) (wcs (u_Vq_Tu _ k_Tu_40) (fun _ h => h))) rfl rfl rfl (by decide +kernel) ⟨Nat.le_of_ble_eq_true rfl, Nat.le_of_ble_eq_true rfl⟩) (pv_ofE (X.same _) (fun U z1 z2 => X.mono _ _ U hFc (hEw _ _ hS U z1 z2)) hP hK hD (va_recv hK hP (ci := 10) (q0 := 8) rfl rfl)) rfl rfl hl.1 rfl (lv_room (Nat.le_of_ble_eq_true rfl)) d_Tu_goBack_117 ⟨by decide, by decide⟩) hS (fun q _ h => hFc q h) hFc (fun u t H locs ht hvm hw hB hz1 hk1 hS => ?_)
    obtain ⟨hP, -, hD⟩ := hB
    rw [ht] at hP
    have hD := lx_dj hD hFc
    refine lv_aload_n hx hb d_Tu_goBack_120 rfl (lv_at hl 0 rfl) ?_
    refine lv_iconst (v := 2) hx hb d_Tu_goBack_121 (by decide) ?_
    refine lv_aload_n hx hb d_Tu_goBack_122 rfl (lv_at hl 0 rfl) ?_
    refine va_get (D := (dC, dI)) (ci := 10) (v := .ref M.o_Pl) (C := R_Tu) (T := F_Tu) (N := 7) hx hb hts (fun w h => u_Vq_Tu w (i_Tu w h)) hown hK hP 8 rfl rfl 4 (by decide) (hts _ (u_Vq_Tu _ k_Tu_21)) (fun _ h9 => h9) rfl d_Tu_goBack_123 ?_
    refine lv_iconst (v := 2) hx hb d_Tu_goBack_126 (by decide) ?_
    obtain ⟨r_18, S_18, hc_18, h⟩ := lf_cE h
    have hFc := lx_free hD hS hA
    refine va_calli (va_runV (As := [.int 2]) (rest := [.int 2, .ref M.o_Tu]) ⟨hx, hb, hml, hown, hts⟩ (l_Pl_room l dC dI X _ hc_18) (cwV 1 hts (gwV good_Vq (u_Vq_Tu _ k_Tu_37) (u_Vq_Pl _ k_Pl_96) (u_Vq_Pl _ k_Pl_97) (u_Vq_Pl _ k_Pl_0) (wcs (u_Vq_Pl _ k_Pl_98) (fun _ h => h))) rfl rfl rfl (by decide +kernel) ⟨Nat.le_of_ble_eq_true rfl, Nat.le_of_ble_eq_true rfl⟩) (pv_ofE (X.same _) (fun U z1 z2 => X.mono _ _ U hFc (hEw _ _ hS U z1 z2)) hP hK hD (va_recv hK hP (ci := 9) (q0 := 7) rfl rfl)) rfl rfl hl.1 rfl (lv_room (Nat.le_of_ble_eq_true rfl)) d_Tu_goBack_127 ⟨by decide, by decide⟩) hS (fun q _ h => hFc q h) hFc (fun r_ u t H locs ht hvm hw hB hz1 hk1 hS => ?_)
    rw [hw]
    obtain ⟨hP, -, hD⟩ := hB
    rw [ht] at hP
    have hD := lx_dj hD hFc
    refine lv_imul hx hb d_Tu_goBack_130 ?_
    refine lv_bipush (v := 7) hx hb d_Tu_goBack_131 (by decide) ?_
    obtain ⟨S_19, hc_19, h⟩ := lf_bE h
    have hFc := lx_free hD hS hA
    refine va_callv (va_runV (As := [.int (2 * r_18), .int 7]) (rest := []) ⟨hx, hb, hml, hown, hts⟩ (l_Tu_copySector l dC dI X _ hc_19) (cwV 2 hts (gwV good_Vq (u_Vq_Tu _ k_Tu_38) (u_Vq_Tu _ k_Tu_39) (u_Vq_Tu _ k_Tu_160) (u_Vq_Tu _ k_Tu_0) (wcs (u_Vq_Tu _ k_Tu_40) (fun _ h => h))) rfl rfl rfl (by decide +kernel) ⟨Nat.le_of_ble_eq_true rfl, Nat.le_of_ble_eq_true rfl⟩) (pv_ofE (X.same _) (fun U z1 z2 => X.mono _ _ U hFc (hEw _ _ hS U z1 z2)) hP hK hD (va_recv hK hP (ci := 10) (q0 := 8) rfl rfl)) rfl rfl hl.1 rfl (lv_room (Nat.le_of_ble_eq_true rfl)) d_Tu_goBack_133 ⟨by decide, by decide⟩) hS (fun q _ h => hFc q h) hFc (fun u t H locs ht hvm hw hB hz1 hk1 hS => ?_)
    obtain ⟨hP, -, hD⟩ := hB
    rw [ht] at hP
    have hD := lx_dj hD hFc
    rw [hQ]
    have e2 : S_19 = S' := Option.some.inj h
    have hP := ly_newP e2.symm hP
    have hD := ly_newD e2.symm hD
    exact W.vret hx hb hr (fun t ht hW => ⟨⟨(), rfl, trivial, by rw [ht]; exact hP, va_K.moved hW.alike hK, hD⟩, hS.F ht⟩) hS.2.2 d_Tu_goBack_136
  have hB_27 : ∀ (k : Nat), ∀ (y_1 : Int32) (y_2 : Int32) (S : CS) (H : Heap) (locs : List Loc) (ls : Array Slot), f_Tu_goBack_27 K G k y_1 y_2 S = some S' → va_P (dC, dI) classes (wV M Y G S) H → va_D A (wV M Y G S) → va_S A s.heap H locs → lv_has ls 3 [(0, .ref M.o_Tu), (1, .int y_1), (2, .int y_2)] → W p l e ({ frames := 5, cells := 0, slots := 0, locals := 128 }) s m ([.ref M.o_Tu] : List Value).toArray below meth c H locs 0 0 Q (F0 m 27 ls []) := by
    intro k
    induction k with
    | zero => intro y_1 y_2 S H locs ls h; exact lf_no h
    | succ k hr_27 =>
      intro y_1 y_2 S H locs ls h hP hD hS hl
      rw [f_Tu_goBack_27] at h
      refine lv_iload_n hx hb d_Tu_goBack_27 rfl (lv_at hl 2 rfl) ?_
      refine lv_aload_n hx hb d_Tu_goBack_28 rfl (lv_at hl 0 rfl) ?_
      refine va_get (D := (dC, dI)) (ci := 10) (v := .ref M.o_Tb) (C := R_Tu) (T := F_Tu) (N := 7) hx hb hts (fun w h => u_Vq_Tu w (i_Tu w h)) hown hK hP 8 rfl rfl 1 (by decide) (hts _ (u_Vq_Tu _ k_Tu_18)) (fun _ h9 => h9) rfl d_Tu_goBack_29 ?_
      refine va_get (D := (dC, dI)) (ci := 4) (v := .int S.v_Tb_clusters) (C := R_Tb) (T := F_Tb) (N := 10) hx hb hts (fun w h => u_Vq_Tb w (i_Tb w h)) hown hK hP 3 rfl rfl 7 (by decide) (hts _ (u_Vq_Tu _ k_Tu_3)) (fun _ h9 => h9) rfl d_Tu_goBack_32 ?_
      refine lv_iconst (v := 2) hx hb d_Tu_goBack_35 (by decide) ?_
      refine lv_iadd hx hb d_Tu_goBack_36 ?_
      refine lv_icmp_ge (tgt := 80) hx hb d_Tu_goBack_37 (by decide) (fun c_6 => ?_) (fun c_6 => ?_)
      · have h := lf_t h c_6
        exact hB_80 y_1 S _ _ _ h hP hD hS (lv_sub hl [0, 1] rfl)
      · have h := lf_f h c_6
        refine lv_aload_n hx hb d_Tu_goBack_40 rfl (lv_at hl 0 rfl) ?_
        refine va_get (D := (dC, dI)) (ci := 10) (v := .ref M.o_Dk) (C := R_Tu) (T := F_Tu) (N := 7) hx hb hts (fun w h => u_Vq_Tu w (i_Tu w h)) hown hK hP 8 rfl rfl 0 (by decide) (hts _ (u_Vq_Tu _ k_Tu_17)) (fun _ h9 => h9) rfl d_Tu_goBack_41 ?_
        obtain ⟨r_7, S_7, hc_7, h⟩ := lf_cE h
        have hFc := lx_free hD hS hA
        refine va_calli (va_runV (As := []) (rest := []) ⟨hx, hb, hml, hown, hts⟩ (l_Dk_isOn l dC dI X _ hc_7) (cwV 0 hts (gwV good_Vq (u_Vq_Tu _ k_Tu_43) (u_Vq_Dk _ k_Dk_44) (u_Vq_Dk _ k_Dk_45) (u_Vq_Dk _ k_Dk_0) (wcs (u_Vq_Dk _ k_Dk_46) (fun _ h => h))) rfl rfl rfl (by decide +kernel) ⟨Nat.le_of_ble_eq_true rfl, Nat.le_of_ble_eq_true rfl⟩) (pv_ofE (X.same _) (fun U z1 z2 => X.mono _ _ U hFc (hEw _ _ hS U z1 z2)) hP hK hD (va_recv hK hP (ci := 0) (q0 := 1) rfl rfl)) rfl rfl hl.1 rfl (lv_room (Nat.le_of_ble_eq_true rfl)) d_Tu_goBack_44 ⟨by decide, by decide⟩) hS (fun q _ h => hFc q h) hFc (fun r_ u t H locs ht hvm hw hB hz1 hk1 hS => ?_)
        rw [hw]
        obtain ⟨hP, -, hD⟩ := hB
        rw [ht] at hP
        have hD := lx_dj hD hFc
        refine lv_if_eq (tgt := 80) hx hb d_Tu_goBack_47 (by decide) (fun c_8 => ?_) (fun c_8 => ?_)
        · have h := lf_t h c_8
          exact hB_80 y_1 S_7 _ _ _ h hP hD hS (lv_sub hl [0, 1] rfl)
        · have h := lf_f h c_8
          refine lv_aload_n hx hb d_Tu_goBack_50 rfl (lv_at hl 0 rfl) ?_
          refine va_get (D := (dC, dI)) (ci := 10) (v := .ref M.o_Tb) (C := R_Tu) (T := F_Tu) (N := 7) hx hb hts (fun w h => u_Vq_Tu w (i_Tu w h)) hown hK hP 8 rfl rfl 1 (by decide) (hts _ (u_Vq_Tu _ k_Tu_18)) (fun _ h9 => h9) rfl d_Tu_goBack_51 ?_
          refine lv_iload_n hx hb d_Tu_goBack_54 rfl (lv_at hl 2 rfl) ?_
          obtain ⟨r_9, S_9, hc_9, h⟩ := lf_cE h
          have hFc := lx_free hD hS hA
          refine va_calli (va_runV (As := [.int y_2]) (rest := []) ⟨hx, hb, hml, hown, hts⟩ (l_Tb_goalOf l dC dI X _ hc_9) (cwV 1 hts (gwV good_Vq (u_Vq_Tu _ k_Tu_44) (u_Vq_Tb _ k_Tb_46) (u_Vq_Tb _ k_Tb_47) (u_Vq_Tb _ k_Tb_0) (wcs (u_Vq_Tb _ k_Tb_48) (fun _ h => h))) rfl rfl rfl (by decide +kernel) ⟨Nat.le_of_ble_eq_true rfl, Nat.le_of_ble_eq_true rfl⟩) (pv_ofE (X.same _) (fun U z1 z2 => X.mono _ _ U hFc (hEw _ _ hS U z1 z2)) hP hK hD (va_recv hK hP (ci := 4) (q0 := 3) rfl rfl)) rfl rfl hl.1 rfl (lv_room (Nat.le_of_ble_eq_true rfl)) d_Tu_goBack_55 ⟨by decide, by decide⟩) hS (fun q _ h => hFc q h) hFc (fun r_ u t H locs ht hvm hw hB hz1 hk1 hS => ?_)
          rw [hw]
          obtain ⟨hP, -, hD⟩ := hB
          rw [ht] at hP
          have hD := lx_dj hD hFc
          refine lv_if_eq (tgt := 74) hx hb d_Tu_goBack_58 (by decide) (fun c_10 => ?_) (fun c_10 => ?_)
          · have h := lf_t h c_10
            exact hB_74 _ hr_27 y_1 y_2 S_9 _ _ _ h hP hD hS (lv_sub hl [0, 1, 2] rfl)
          · have h := lf_f h c_10
            refine lv_aload_n hx hb d_Tu_goBack_61 rfl (lv_at hl 0 rfl) ?_
            refine lv_aload_n hx hb d_Tu_goBack_62 rfl (lv_at hl 0 rfl) ?_
            refine va_get (D := (dC, dI)) (ci := 10) (v := .ref M.o_Tb) (C := R_Tu) (T := F_Tu) (N := 7) hx hb hts (fun w h => u_Vq_Tu w (i_Tu w h)) hown hK hP 8 rfl rfl 1 (by decide) (hts _ (u_Vq_Tu _ k_Tu_18)) (fun _ h9 => h9) rfl d_Tu_goBack_63 ?_
            refine lv_iload_n hx hb d_Tu_goBack_66 rfl (lv_at hl 2 rfl) ?_
            obtain ⟨r_11, S_11, hc_11, h⟩ := lf_cE h
            have hFc := lx_free hD hS hA
            refine va_calli (va_runV (As := [.int y_2]) (rest := [.ref M.o_Tu]) ⟨hx, hb, hml, hown, hts⟩ (l_Tb_goalOf l dC dI X _ hc_11) (cwV 1 hts (gwV good_Vq (u_Vq_Tu _ k_Tu_44) (u_Vq_Tb _ k_Tb_46) (u_Vq_Tb _ k_Tb_47) (u_Vq_Tb _ k_Tb_0) (wcs (u_Vq_Tb _ k_Tb_48) (fun _ h => h))) rfl rfl rfl (by decide +kernel) ⟨Nat.le_of_ble_eq_true rfl, Nat.le_of_ble_eq_true rfl⟩) (pv_ofE (X.same _) (fun U z1 z2 => X.mono _ _ U hFc (hEw _ _ hS U z1 z2)) hP hK hD (va_recv hK hP (ci := 4) (q0 := 3) rfl rfl)) rfl rfl hl.1 rfl (lv_room (Nat.le_of_ble_eq_true rfl)) d_Tu_goBack_67 ⟨by decide, by decide⟩) hS (fun q _ h => hFc q h) hFc (fun r_ u t H locs ht hvm hw hB hz1 hk1 hS => ?_)
            rw [hw]
            obtain ⟨hP, -, hD⟩ := hB
            rw [ht] at hP
            have hD := lx_dj hD hFc
            refine lv_iload_n hx hb d_Tu_goBack_70 rfl (lv_at hl 2 rfl) ?_
            obtain ⟨S_12, hc_12, h⟩ := lf_bE h
            have hFc := lx_free hD hS hA
            refine va_callv (va_runV (As := [.int r_11, .int y_2]) (rest := []) ⟨hx, hb, hml, hown, hts⟩ (l_Tu_copyCluster l dC dI X _ hc_12) (cwV 2 hts (gwV good_Vq (u_Vq_Tu _ k_Tu_45) (u_Vq_Tu _ k_Tu_46) (u_Vq_Tu _ k_Tu_161) (u_Vq_Tu _ k_Tu_0) (wcs (u_Vq_Tu _ k_Tu_47) (fun _ h => h))) rfl rfl rfl (by decide +kernel) ⟨Nat.le_of_ble_eq_true rfl, Nat.le_of_ble_eq_true rfl⟩) (pv_ofE (X.same _) (fun U z1 z2 => X.mono _ _ U hFc (hEw _ _ hS U z1 z2)) hP hK hD (va_recv hK hP (ci := 10) (q0 := 8) rfl rfl)) rfl rfl hl.1 rfl (lv_room (Nat.le_of_ble_eq_true rfl)) d_Tu_goBack_71 ⟨by decide, by decide⟩) hS (fun q _ h => hFc q h) hFc (fun u t H locs ht hvm hw hB hz1 hk1 hS => ?_)
            obtain ⟨hP, -, hD⟩ := hB
            rw [ht] at hP
            have hD := lx_dj hD hFc
            exact hB_74 _ hr_27 y_1 y_2 S_12 _ _ _ h hP hD hS (lv_sub hl [0, 1, 2] rfl)
  rw [f_Tu_goBack] at h
  refine lv_aload_n hx hb d_Tu_goBack_0 rfl (lv_at hl 0 rfl) ?_
  obtain ⟨r_1, S_1, hc_1, h⟩ := lf_cE h
  have hFc := lx_free hD hS hA
  refine va_calli (va_runV (As := []) (rest := []) ⟨hx, hb, hml, hown, hts⟩ (l_Tu_recall l dC dI X _ hc_1) (cwV 0 hts (gwV good_Vq (u_Vq_Tu _ k_Tu_30) (u_Vq_Tu _ k_Tu_31) (u_Vq_Tu _ k_Tu_158) (u_Vq_Tu _ k_Tu_0) (wcs (u_Vq_Tu _ k_Tu_32) (fun _ h => h))) rfl rfl rfl (by decide +kernel) ⟨Nat.le_of_ble_eq_true rfl, Nat.le_of_ble_eq_true rfl⟩) (pv_ofE (X.same _) (fun U z1 z2 => X.mono _ _ U hFc (hEw _ _ hS U z1 z2)) hP hK hD (va_recv hK hP (ci := 10) (q0 := 8) rfl rfl)) rfl rfl hl.1 rfl (lv_room (Nat.le_of_ble_eq_true rfl)) d_Tu_goBack_1 ⟨by decide, by decide⟩) hS (fun q _ h => hFc q h) hFc (fun r_ u t H locs ht hvm hw hB hz1 hk1 hS => ?_)
  rw [hw]
  obtain ⟨hP, -, hD⟩ := hB
  rw [ht] at hP
  have hD := lx_dj hD hFc
  refine lv_if_ne (tgt := 8) hx hb d_Tu_goBack_4 (by decide) (fun c_2 => ?_) (fun c_2 => ?_)
  · have h := lf_f h c_2
    refine lv_iconst (v := 2) hx hb d_Tu_goBack_8 (by decide) ?_
    refine lv_aload_n hx hb d_Tu_goBack_9 rfl (lv_at hl 0 rfl) ?_
    refine va_get (D := (dC, dI)) (ci := 10) (v := .ref M.o_Pl) (C := R_Tu) (T := F_Tu) (N := 7) hx hb hts (fun w h => u_Vq_Tu w (i_Tu w h)) hown hK hP 8 rfl rfl 4 (by decide) (hts _ (u_Vq_Tu _ k_Tu_21)) (fun _ h9 => h9) rfl d_Tu_goBack_10 ?_
    refine lv_iconst (v := 0) hx hb d_Tu_goBack_13 (by decide) ?_
    obtain ⟨r_3, S_3, hc_3, h⟩ := lf_cE h
    have hFc := lx_free hD hS hA
    refine va_calli (va_runV (As := [.int 0]) (rest := [.int 2]) ⟨hx, hb, hml, hown, hts⟩ (l_Pl_room l dC dI X _ hc_3) (cwV 1 hts (gwV good_Vq (u_Vq_Tu _ k_Tu_37) (u_Vq_Pl _ k_Pl_96) (u_Vq_Pl _ k_Pl_97) (u_Vq_Pl _ k_Pl_0) (wcs (u_Vq_Pl _ k_Pl_98) (fun _ h => h))) rfl rfl rfl (by decide +kernel) ⟨Nat.le_of_ble_eq_true rfl, Nat.le_of_ble_eq_true rfl⟩) (pv_ofE (X.same _) (fun U z1 z2 => X.mono _ _ U hFc (hEw _ _ hS U z1 z2)) hP hK hD (va_recv hK hP (ci := 9) (q0 := 7) rfl rfl)) rfl rfl hl.1 rfl (lv_room (Nat.le_of_ble_eq_true rfl)) d_Tu_goBack_14 ⟨by decide, by decide⟩) hS (fun q _ h => hFc q h) hFc (fun r_ u t H locs ht hvm hw hB hz1 hk1 hS => ?_)
    rw [hw]
    obtain ⟨hP, -, hD⟩ := hB
    rw [ht] at hP
    have hD := lx_dj hD hFc
    refine lv_imul hx hb d_Tu_goBack_17 ?_
    refine lv_topi (fun x_4 ex_4 => ?_)
    have h := lf_lE h ex_4
    refine lv_istore_n (lv' := [(1, .int x_4), (0, .ref M.o_Tu)]) hx hb d_Tu_goBack_18 rfl hl (by decide) rfl (fun ls hl => ?_)
    refine lv_aload_n hx hb d_Tu_goBack_19 rfl (lv_at hl 1 rfl) ?_
    refine lv_iload_n hx hb d_Tu_goBack_20 rfl (lv_at hl 0 rfl) ?_
    refine lv_iconst (v := 2) hx hb d_Tu_goBack_21 (by decide) ?_
    obtain ⟨S_5, hc_5, h⟩ := lf_bE h
    have hFc := lx_free hD hS hA
    refine va_callv (va_runV (As := [.int x_4, .int 2]) (rest := []) ⟨hx, hb, hml, hown, hts⟩ (l_Tu_copySector l dC dI X _ hc_5) (cwV 2 hts (gwV good_Vq (u_Vq_Tu _ k_Tu_38) (u_Vq_Tu _ k_Tu_39) (u_Vq_Tu _ k_Tu_160) (u_Vq_Tu _ k_Tu_0) (wcs (u_Vq_Tu _ k_Tu_40) (fun _ h => h))) rfl rfl rfl (by decide +kernel) ⟨Nat.le_of_ble_eq_true rfl, Nat.le_of_ble_eq_true rfl⟩) (pv_ofE (X.same _) (fun U z1 z2 => X.mono _ _ U hFc (hEw _ _ hS U z1 z2)) hP hK hD (va_recv hK hP (ci := 10) (q0 := 8) rfl rfl)) rfl rfl hl.1 rfl (lv_room (Nat.le_of_ble_eq_true rfl)) d_Tu_goBack_22 ⟨by decide, by decide⟩) hS (fun q _ h => hFc q h) hFc (fun u t H locs ht hvm hw hB hz1 hk1 hS => ?_)
    obtain ⟨hP, -, hD⟩ := hB
    rw [ht] at hP
    have hD := lx_dj hD hFc
    refine lv_iconst (v := 2) hx hb d_Tu_goBack_25 (by decide) ?_
    refine lv_istore_n (lv' := [(2, .int 2), (1, .int x_4), (0, .ref M.o_Tu)]) hx hb d_Tu_goBack_26 rfl hl (by decide) rfl (fun ls hl => ?_)
    exact hB_27 K x_4 2 S_5 _ _ _ h hP hD hS (lv_sub hl [2, 1, 0] rfl)
  · have h := lf_t h c_2
    rw [hQ]
    have e2 : S_1 = S' := Option.some.inj h
    have hP := ly_newP e2.symm hP
    have hD := ly_newD e2.symm hD
    exact W.vret hx hb hr (fun t ht hW => ⟨⟨(), rfl, trivial, by rw [ht]; exact hP, va_K.moved hW.alike hK, hD⟩, hS.F ht⟩) hS.2.2 d_Tu_goBack_7
set_option maxHeartbeats 4000000 in
set_option maxRecDepth 100000 in
theorem l_Tu_empty (l : Launch) (dC : Nat → ClassId) (dI : Nat → Nat → Nat) {K : Nat} {M : CA} {E : (Nat → Prop) → State → Prop} (X : ly_X l dC dI K M E) (sz : Nat) {Y : CT} {G : CG} {S S' : CS} (h : f_Tu_empty K G S = some S') : Met l y_Tu_empty (.code y_Tu_empty cb_Tu_empty 1 none :: V_Vq) ({ frames := 1, cells := 0, slots := 0, locals := 23 }) (va_Pc [.ref M.o_Tu] (fun U => U.heap.size = sz ∧ at_ (dC, dI) (fun _ => True) (wV M Y G S) (tV M) U ∧ E (va_A (wV M Y G S) sz) U)) (va_Qv (fun (u : Unit) => True) (fun (u : Unit) t => at_ (dC, dI) (va_A (wV M Y G S) sz) (wV M Y G S') (tV M) t) (va_A (wV M Y G S) sz)) 0 0 (va_A (wV M Y G S) sz) := by
  refine Met.ofW (cc := cb_Tu_empty) (maxL := 1) (ret := none) (by decide) rfl ?_
  intro p e s m args below meth c s₁ B hml hv
  obtain ⟨rfl, hsz, ⟨hP, hK, hD0⟩, hE⟩ := hv
  have hx := B.exec
  have hb := B.bytes
  have hr := B.returns
  have hts0 := atoms_spec (ws := .code y_Tu_empty cb_Tu_empty 1 none :: V_Vq) B.pre
  have hts : ∀ w ∈ V_Vq, w.before ([.ref M.o_Tu] : List Value).toArray s = true := fun w h => hts0 w (List.mem_cons_of_mem _ h)
  have hown : s.vm.findClass R_Tu = some m.cls := findClass_of_methodNamed B.named
  subst hsz
  have hD := hD0.self (sz := s.heap.size)
  generalize hAe : va_A (wV M Y G S) s.heap.size = A at hD hE ⊢
  have hA : ∀ q : Nat, s.heap.size ≤ q → A q := fun q h => by rw [← hAe]; exact Or.inr h
  have hS : va_S A s.heap s.heap [] := va_S.rf
  have hP : va_P (dC, dI) classes (wV M Y G S) s.heap := hP
  have hK : va_K (dC, dI) classes (tV M) s := hK
  have hEw : ∀ (H : Heap) (locs : List Loc), va_S A s.heap H locs → ∀ U : State, U.heap = H → s.WarmedH U.vm → E A U := fun H locs hS U hU hW => X.kept A s U H locs hE hS hU hW
  have hl := lv_entry ([.ref M.o_Tu]) (n := 1) (Nat.le_of_ble_eq_true rfl)
  rw [lg_entry_eq]
  generalize (lg_sl ([.ref M.o_Tu]) ++ List.replicate (1 - (lg_sl ([.ref M.o_Tu])).length) Slot.unset).toArray = ls at hl ⊢
  have hl : lv_has ls 1 [(0, .ref M.o_Tu)] := hl
  refine qabs (fun Q hQ => ?_)
  rw [f_Tu_empty] at h
  refine lv_aload_n hx hb d_Tu_empty_0 rfl (lv_at hl 0 rfl) ?_
  refine va_get (D := (dC, dI)) (ci := 10) (v := .ref M.a_Tu_block) (C := R_Tu) (T := F_Tu) (N := 7) hx hb hts (fun w h => u_Vq_Tu w (i_Tu w h)) hown hK hP 8 rfl rfl 6 (by decide) (hts _ (u_Vq_Tu _ k_Tu_23)) (fun _ h9 => h9) rfl d_Tu_empty_1 ?_
  refine lv_iconst (v := 0) hx hb d_Tu_empty_4 (by decide) ?_
  have hPc := hP.sub (ws' := [(M.a_Tu_block, .inl (M.kB, 1024, .inl S.w_Tu_block))]) [44] rfl
  have hDc := hD.sub (ws' := [(M.a_Tu_block, .inl (M.kB, 1024, .inl S.w_Tu_block))]) [44] (by decide) rfl
  have hKc := hK.sub (tys' := [(M.kB, .byte)]) [0] rfl
  have hFc := va_free (wc := [(M.a_Tu_block, .inl (M.kB, 1024, .inl S.w_Tu_block))]) hD hS hA [44] rfl
  refine va_callv (va_runS (As := [.ref M.a_Tu_block, .int 0]) (rest := []) ⟨hx, hb, hml, hown, hts⟩ (c_Ar_fillB l dC dI M.a_Tu_block _ M.kB 1024 S.w_Tu_block (by decide) 0) (va_cwS 2 hts (gwS good_Vq (u_Vq_Tu _ k_Tu_60) (u_Vq_J _ k_J_14) (u_Vq_J _ k_J_2) (wcs (u_Vq_J _ k_J_15) u_Vq_J)) rfl rfl rfl (by decide +kernel) ⟨Nat.le_of_ble_eq_true rfl, Nat.le_of_ble_eq_true rfl⟩) (ps_of hPc hKc hDc) rfl rfl hl.1 rfl (lv_room (Nat.le_of_ble_eq_true rfl)) d_Tu_empty_5 ⟨by decide, by decide⟩) hS (fun q _ h => hFc q h) hFc (fun u t H locs ht hvm hw hB hz1 hk1 hS => ?_)
  obtain ⟨hP1, -, -⟩ := hB
  rw [ht, hw] at hP1
  obtain ⟨hP, hD⟩ := lx_one hP hD (q := 44) rfl hk1 hP1
  obtain ⟨S_1, eS_1, h⟩ := lf_lX h
  have hP := ly_newP eS_1 hP
  have hD := ly_newD eS_1 hD
  rw [hQ]
  have e2 : S_1 = S' := Option.some.inj h
  have hP := ly_newP e2.symm hP
  have hD := ly_newD e2.symm hD
  exact W.vret hx hb hr (fun t ht hW => ⟨⟨(), rfl, trivial, by rw [ht]; exact hP, va_K.moved hW.alike hK, hD⟩, hS.F ht⟩) hS.2.2 d_Tu_empty_8
set_option maxHeartbeats 4000000 in
set_option maxRecDepth 100000 in
theorem l_Tu_keepSectors (l : Launch) (dC : Nat → ClassId) (dI : Nat → Nat → Nat) {K : Nat} {M : CA} {E : (Nat → Prop) → State → Prop} (X : ly_X l dC dI K M E) (sz : Nat) {Y : CT} {G : CG} {S S' : CS} (h : f_Tu_keepSectors K G S = some S') : Met l y_Tu_keepSectors (.code y_Tu_keepSectors cb_Tu_keepSectors 1 none :: V_Vq) ({ frames := 3, cells := 0, slots := 0, locals := 105 }) (va_Pc [.ref M.o_Tu] (fun U => U.heap.size = sz ∧ at_ (dC, dI) (fun _ => True) (wV M Y G S) (tV M) U ∧ E (va_A (wV M Y G S) sz) U)) (va_Qv (fun (u : Unit) => True) (fun (u : Unit) t => at_ (dC, dI) (va_A (wV M Y G S) sz) (wV M Y G S') (tV M) t) (va_A (wV M Y G S) sz)) 0 0 (va_A (wV M Y G S) sz) := by
  refine Met.ofW (cc := cb_Tu_keepSectors) (maxL := 1) (ret := none) (by decide) rfl ?_
  intro p e s m args below meth c s₁ B hml hv
  obtain ⟨rfl, hsz, ⟨hP, hK, hD0⟩, hE⟩ := hv
  have hx := B.exec
  have hb := B.bytes
  have hr := B.returns
  have hts0 := atoms_spec (ws := .code y_Tu_keepSectors cb_Tu_keepSectors 1 none :: V_Vq) B.pre
  have hts : ∀ w ∈ V_Vq, w.before ([.ref M.o_Tu] : List Value).toArray s = true := fun w h => hts0 w (List.mem_cons_of_mem _ h)
  have hown : s.vm.findClass R_Tu = some m.cls := findClass_of_methodNamed B.named
  subst hsz
  have hD := hD0.self (sz := s.heap.size)
  generalize hAe : va_A (wV M Y G S) s.heap.size = A at hD hE ⊢
  have hA : ∀ q : Nat, s.heap.size ≤ q → A q := fun q h => by rw [← hAe]; exact Or.inr h
  have hS : va_S A s.heap s.heap [] := va_S.rf
  have hP : va_P (dC, dI) classes (wV M Y G S) s.heap := hP
  have hK : va_K (dC, dI) classes (tV M) s := hK
  have hEw : ∀ (H : Heap) (locs : List Loc), va_S A s.heap H locs → ∀ U : State, U.heap = H → s.WarmedH U.vm → E A U := fun H locs hS U hU hW => X.kept A s U H locs hE hS hU hW
  have hl := lv_entry ([.ref M.o_Tu]) (n := 1) (Nat.le_of_ble_eq_true rfl)
  rw [lg_entry_eq]
  generalize (lg_sl ([.ref M.o_Tu]) ++ List.replicate (1 - (lg_sl ([.ref M.o_Tu])).length) Slot.unset).toArray = ls at hl ⊢
  have hl : lv_has ls 1 [(0, .ref M.o_Tu)] := hl
  refine qabs (fun Q hQ => ?_)
  rw [f_Tu_keepSectors] at h
  refine lv_aload_n hx hb d_Tu_keepSectors_0 rfl (lv_at hl 0 rfl) ?_
  refine lv_iconst (v := 2) hx hb d_Tu_keepSectors_1 (by decide) ?_
  refine lv_iconst (v := 2) hx hb d_Tu_keepSectors_2 (by decide) ?_
  refine lv_aload_n hx hb d_Tu_keepSectors_3 rfl (lv_at hl 0 rfl) ?_
  refine va_get (D := (dC, dI)) (ci := 10) (v := .ref M.o_Pl) (C := R_Tu) (T := F_Tu) (N := 7) hx hb hts (fun w h => u_Vq_Tu w (i_Tu w h)) hown hK hP 8 rfl rfl 4 (by decide) (hts _ (u_Vq_Tu _ k_Tu_21)) (fun _ h9 => h9) rfl d_Tu_keepSectors_4 ?_
  refine lv_iconst (v := 0) hx hb d_Tu_keepSectors_7 (by decide) ?_
  obtain ⟨r_1, S_1, hc_1, h⟩ := lf_cE h
  have hFc := lx_free hD hS hA
  refine va_calli (va_runV (As := [.int 0]) (rest := [.int 2, .int 2, .ref M.o_Tu]) ⟨hx, hb, hml, hown, hts⟩ (l_Pl_room l dC dI X _ hc_1) (cwV 1 hts (gwV good_Vq (u_Vq_Tu _ k_Tu_37) (u_Vq_Pl _ k_Pl_96) (u_Vq_Pl _ k_Pl_97) (u_Vq_Pl _ k_Pl_0) (wcs (u_Vq_Pl _ k_Pl_98) (fun _ h => h))) rfl rfl rfl (by decide +kernel) ⟨Nat.le_of_ble_eq_true rfl, Nat.le_of_ble_eq_true rfl⟩) (pv_ofE (X.same _) (fun U z1 z2 => X.mono _ _ U hFc (hEw _ _ hS U z1 z2)) hP hK hD (va_recv hK hP (ci := 9) (q0 := 7) rfl rfl)) rfl rfl hl.1 rfl (lv_room (Nat.le_of_ble_eq_true rfl)) d_Tu_keepSectors_8 ⟨by decide, by decide⟩) hS (fun q _ h => hFc q h) hFc (fun r_ u t H locs ht hvm hw hB hz1 hk1 hS => ?_)
  rw [hw]
  obtain ⟨hP, -, hD⟩ := hB
  rw [ht] at hP
  have hD := lx_dj hD hFc
  refine lv_imul hx hb d_Tu_keepSectors_11 ?_
  obtain ⟨S_2, hc_2, h⟩ := lf_bE h
  have hFc := lx_free hD hS hA
  refine va_callv (va_runV (As := [.int 2, .int (2 * r_1)]) (rest := []) ⟨hx, hb, hml, hown, hts⟩ (l_Tu_copySector l dC dI X _ hc_2) (cwV 2 hts (gwV good_Vq (u_Vq_Tu _ k_Tu_38) (u_Vq_Tu _ k_Tu_39) (u_Vq_Tu _ k_Tu_160) (u_Vq_Tu _ k_Tu_0) (wcs (u_Vq_Tu _ k_Tu_40) (fun _ h => h))) rfl rfl rfl (by decide +kernel) ⟨Nat.le_of_ble_eq_true rfl, Nat.le_of_ble_eq_true rfl⟩) (pv_ofE (X.same _) (fun U z1 z2 => X.mono _ _ U hFc (hEw _ _ hS U z1 z2)) hP hK hD (va_recv hK hP (ci := 10) (q0 := 8) rfl rfl)) rfl rfl hl.1 rfl (lv_room (Nat.le_of_ble_eq_true rfl)) d_Tu_keepSectors_12 ⟨by decide, by decide⟩) hS (fun q _ h => hFc q h) hFc (fun u t H locs ht hvm hw hB hz1 hk1 hS => ?_)
  obtain ⟨hP, -, hD⟩ := hB
  rw [ht] at hP
  have hD := lx_dj hD hFc
  refine lv_aload_n hx hb d_Tu_keepSectors_15 rfl (lv_at hl 0 rfl) ?_
  refine lv_iconst (v := 3) hx hb d_Tu_keepSectors_16 (by decide) ?_
  refine lv_iconst (v := 2) hx hb d_Tu_keepSectors_17 (by decide) ?_
  refine lv_aload_n hx hb d_Tu_keepSectors_18 rfl (lv_at hl 0 rfl) ?_
  refine va_get (D := (dC, dI)) (ci := 10) (v := .ref M.o_Pl) (C := R_Tu) (T := F_Tu) (N := 7) hx hb hts (fun w h => u_Vq_Tu w (i_Tu w h)) hown hK hP 8 rfl rfl 4 (by decide) (hts _ (u_Vq_Tu _ k_Tu_21)) (fun _ h9 => h9) rfl d_Tu_keepSectors_19 ?_
  refine lv_iconst (v := 0) hx hb d_Tu_keepSectors_22 (by decide) ?_
  obtain ⟨r_3, S_3, hc_3, h⟩ := lf_cE h
  have hFc := lx_free hD hS hA
  refine va_calli (va_runV (As := [.int 0]) (rest := [.int 2, .int 3, .ref M.o_Tu]) ⟨hx, hb, hml, hown, hts⟩ (l_Pl_room l dC dI X _ hc_3) (cwV 1 hts (gwV good_Vq (u_Vq_Tu _ k_Tu_37) (u_Vq_Pl _ k_Pl_96) (u_Vq_Pl _ k_Pl_97) (u_Vq_Pl _ k_Pl_0) (wcs (u_Vq_Pl _ k_Pl_98) (fun _ h => h))) rfl rfl rfl (by decide +kernel) ⟨Nat.le_of_ble_eq_true rfl, Nat.le_of_ble_eq_true rfl⟩) (pv_ofE (X.same _) (fun U z1 z2 => X.mono _ _ U hFc (hEw _ _ hS U z1 z2)) hP hK hD (va_recv hK hP (ci := 9) (q0 := 7) rfl rfl)) rfl rfl hl.1 rfl (lv_room (Nat.le_of_ble_eq_true rfl)) d_Tu_keepSectors_23 ⟨by decide, by decide⟩) hS (fun q _ h => hFc q h) hFc (fun r_ u t H locs ht hvm hw hB hz1 hk1 hS => ?_)
  rw [hw]
  obtain ⟨hP, -, hD⟩ := hB
  rw [ht] at hP
  have hD := lx_dj hD hFc
  refine lv_imul hx hb d_Tu_keepSectors_26 ?_
  refine lv_iconst (v := 1) hx hb d_Tu_keepSectors_27 (by decide) ?_
  refine lv_iadd hx hb d_Tu_keepSectors_28 ?_
  obtain ⟨S_4, hc_4, h⟩ := lf_bE h
  have hFc := lx_free hD hS hA
  refine va_callv (va_runV (As := [.int 3, .int ((2 * r_3) + 1)]) (rest := []) ⟨hx, hb, hml, hown, hts⟩ (l_Tu_copySector l dC dI X _ hc_4) (cwV 2 hts (gwV good_Vq (u_Vq_Tu _ k_Tu_38) (u_Vq_Tu _ k_Tu_39) (u_Vq_Tu _ k_Tu_160) (u_Vq_Tu _ k_Tu_0) (wcs (u_Vq_Tu _ k_Tu_40) (fun _ h => h))) rfl rfl rfl (by decide +kernel) ⟨Nat.le_of_ble_eq_true rfl, Nat.le_of_ble_eq_true rfl⟩) (pv_ofE (X.same _) (fun U z1 z2 => X.mono _ _ U hFc (hEw _ _ hS U z1 z2)) hP hK hD (va_recv hK hP (ci := 10) (q0 := 8) rfl rfl)) rfl rfl hl.1 rfl (lv_room (Nat.le_of_ble_eq_true rfl)) d_Tu_keepSectors_29 ⟨by decide, by decide⟩) hS (fun q _ h => hFc q h) hFc (fun u t H locs ht hvm hw hB hz1 hk1 hS => ?_)
  obtain ⟨hP, -, hD⟩ := hB
  rw [ht] at hP
  have hD := lx_dj hD hFc
  refine lv_aload_n hx hb d_Tu_keepSectors_32 rfl (lv_at hl 0 rfl) ?_
  refine lv_iconst (v := 4) hx hb d_Tu_keepSectors_33 (by decide) ?_
  refine lv_iconst (v := 2) hx hb d_Tu_keepSectors_34 (by decide) ?_
  refine lv_aload_n hx hb d_Tu_keepSectors_35 rfl (lv_at hl 0 rfl) ?_
  refine va_get (D := (dC, dI)) (ci := 10) (v := .ref M.o_Pl) (C := R_Tu) (T := F_Tu) (N := 7) hx hb hts (fun w h => u_Vq_Tu w (i_Tu w h)) hown hK hP 8 rfl rfl 4 (by decide) (hts _ (u_Vq_Tu _ k_Tu_21)) (fun _ h9 => h9) rfl d_Tu_keepSectors_36 ?_
  refine lv_iconst (v := 1) hx hb d_Tu_keepSectors_39 (by decide) ?_
  obtain ⟨r_5, S_5, hc_5, h⟩ := lf_cE h
  have hFc := lx_free hD hS hA
  refine va_calli (va_runV (As := [.int 1]) (rest := [.int 2, .int 4, .ref M.o_Tu]) ⟨hx, hb, hml, hown, hts⟩ (l_Pl_room l dC dI X _ hc_5) (cwV 1 hts (gwV good_Vq (u_Vq_Tu _ k_Tu_37) (u_Vq_Pl _ k_Pl_96) (u_Vq_Pl _ k_Pl_97) (u_Vq_Pl _ k_Pl_0) (wcs (u_Vq_Pl _ k_Pl_98) (fun _ h => h))) rfl rfl rfl (by decide +kernel) ⟨Nat.le_of_ble_eq_true rfl, Nat.le_of_ble_eq_true rfl⟩) (pv_ofE (X.same _) (fun U z1 z2 => X.mono _ _ U hFc (hEw _ _ hS U z1 z2)) hP hK hD (va_recv hK hP (ci := 9) (q0 := 7) rfl rfl)) rfl rfl hl.1 rfl (lv_room (Nat.le_of_ble_eq_true rfl)) d_Tu_keepSectors_40 ⟨by decide, by decide⟩) hS (fun q _ h => hFc q h) hFc (fun r_ u t H locs ht hvm hw hB hz1 hk1 hS => ?_)
  rw [hw]
  obtain ⟨hP, -, hD⟩ := hB
  rw [ht] at hP
  have hD := lx_dj hD hFc
  refine lv_imul hx hb d_Tu_keepSectors_43 ?_
  obtain ⟨S_6, hc_6, h⟩ := lf_bE h
  have hFc := lx_free hD hS hA
  refine va_callv (va_runV (As := [.int 4, .int (2 * r_5)]) (rest := []) ⟨hx, hb, hml, hown, hts⟩ (l_Tu_copySector l dC dI X _ hc_6) (cwV 2 hts (gwV good_Vq (u_Vq_Tu _ k_Tu_38) (u_Vq_Tu _ k_Tu_39) (u_Vq_Tu _ k_Tu_160) (u_Vq_Tu _ k_Tu_0) (wcs (u_Vq_Tu _ k_Tu_40) (fun _ h => h))) rfl rfl rfl (by decide +kernel) ⟨Nat.le_of_ble_eq_true rfl, Nat.le_of_ble_eq_true rfl⟩) (pv_ofE (X.same _) (fun U z1 z2 => X.mono _ _ U hFc (hEw _ _ hS U z1 z2)) hP hK hD (va_recv hK hP (ci := 10) (q0 := 8) rfl rfl)) rfl rfl hl.1 rfl (lv_room (Nat.le_of_ble_eq_true rfl)) d_Tu_keepSectors_44 ⟨by decide, by decide⟩) hS (fun q _ h => hFc q h) hFc (fun u t H locs ht hvm hw hB hz1 hk1 hS => ?_)
  obtain ⟨hP, -, hD⟩ := hB
  rw [ht] at hP
  have hD := lx_dj hD hFc
  refine lv_aload_n hx hb d_Tu_keepSectors_47 rfl (lv_at hl 0 rfl) ?_
  refine lv_iconst (v := 5) hx hb d_Tu_keepSectors_48 (by decide) ?_
  refine lv_iconst (v := 2) hx hb d_Tu_keepSectors_49 (by decide) ?_
  refine lv_aload_n hx hb d_Tu_keepSectors_50 rfl (lv_at hl 0 rfl) ?_
  refine va_get (D := (dC, dI)) (ci := 10) (v := .ref M.o_Pl) (C := R_Tu) (T := F_Tu) (N := 7) hx hb hts (fun w h => u_Vq_Tu w (i_Tu w h)) hown hK hP 8 rfl rfl 4 (by decide) (hts _ (u_Vq_Tu _ k_Tu_21)) (fun _ h9 => h9) rfl d_Tu_keepSectors_51 ?_
  refine lv_iconst (v := 1) hx hb d_Tu_keepSectors_54 (by decide) ?_
  obtain ⟨r_7, S_7, hc_7, h⟩ := lf_cE h
  have hFc := lx_free hD hS hA
  refine va_calli (va_runV (As := [.int 1]) (rest := [.int 2, .int 5, .ref M.o_Tu]) ⟨hx, hb, hml, hown, hts⟩ (l_Pl_room l dC dI X _ hc_7) (cwV 1 hts (gwV good_Vq (u_Vq_Tu _ k_Tu_37) (u_Vq_Pl _ k_Pl_96) (u_Vq_Pl _ k_Pl_97) (u_Vq_Pl _ k_Pl_0) (wcs (u_Vq_Pl _ k_Pl_98) (fun _ h => h))) rfl rfl rfl (by decide +kernel) ⟨Nat.le_of_ble_eq_true rfl, Nat.le_of_ble_eq_true rfl⟩) (pv_ofE (X.same _) (fun U z1 z2 => X.mono _ _ U hFc (hEw _ _ hS U z1 z2)) hP hK hD (va_recv hK hP (ci := 9) (q0 := 7) rfl rfl)) rfl rfl hl.1 rfl (lv_room (Nat.le_of_ble_eq_true rfl)) d_Tu_keepSectors_55 ⟨by decide, by decide⟩) hS (fun q _ h => hFc q h) hFc (fun r_ u t H locs ht hvm hw hB hz1 hk1 hS => ?_)
  rw [hw]
  obtain ⟨hP, -, hD⟩ := hB
  rw [ht] at hP
  have hD := lx_dj hD hFc
  refine lv_imul hx hb d_Tu_keepSectors_58 ?_
  refine lv_iconst (v := 1) hx hb d_Tu_keepSectors_59 (by decide) ?_
  refine lv_iadd hx hb d_Tu_keepSectors_60 ?_
  obtain ⟨S_8, hc_8, h⟩ := lf_bE h
  have hFc := lx_free hD hS hA
  refine va_callv (va_runV (As := [.int 5, .int ((2 * r_7) + 1)]) (rest := []) ⟨hx, hb, hml, hown, hts⟩ (l_Tu_copySector l dC dI X _ hc_8) (cwV 2 hts (gwV good_Vq (u_Vq_Tu _ k_Tu_38) (u_Vq_Tu _ k_Tu_39) (u_Vq_Tu _ k_Tu_160) (u_Vq_Tu _ k_Tu_0) (wcs (u_Vq_Tu _ k_Tu_40) (fun _ h => h))) rfl rfl rfl (by decide +kernel) ⟨Nat.le_of_ble_eq_true rfl, Nat.le_of_ble_eq_true rfl⟩) (pv_ofE (X.same _) (fun U z1 z2 => X.mono _ _ U hFc (hEw _ _ hS U z1 z2)) hP hK hD (va_recv hK hP (ci := 10) (q0 := 8) rfl rfl)) rfl rfl hl.1 rfl (lv_room (Nat.le_of_ble_eq_true rfl)) d_Tu_keepSectors_61 ⟨by decide, by decide⟩) hS (fun q _ h => hFc q h) hFc (fun u t H locs ht hvm hw hB hz1 hk1 hS => ?_)
  obtain ⟨hP, -, hD⟩ := hB
  rw [ht] at hP
  have hD := lx_dj hD hFc
  refine lv_aload_n hx hb d_Tu_keepSectors_64 rfl (lv_at hl 0 rfl) ?_
  refine lv_bipush (v := 7) hx hb d_Tu_keepSectors_65 (by decide) ?_
  refine lv_iconst (v := 2) hx hb d_Tu_keepSectors_67 (by decide) ?_
  refine lv_aload_n hx hb d_Tu_keepSectors_68 rfl (lv_at hl 0 rfl) ?_
  refine va_get (D := (dC, dI)) (ci := 10) (v := .ref M.o_Pl) (C := R_Tu) (T := F_Tu) (N := 7) hx hb hts (fun w h => u_Vq_Tu w (i_Tu w h)) hown hK hP 8 rfl rfl 4 (by decide) (hts _ (u_Vq_Tu _ k_Tu_21)) (fun _ h9 => h9) rfl d_Tu_keepSectors_69 ?_
  refine lv_iconst (v := 2) hx hb d_Tu_keepSectors_72 (by decide) ?_
  obtain ⟨r_9, S_9, hc_9, h⟩ := lf_cE h
  have hFc := lx_free hD hS hA
  refine va_calli (va_runV (As := [.int 2]) (rest := [.int 2, .int 7, .ref M.o_Tu]) ⟨hx, hb, hml, hown, hts⟩ (l_Pl_room l dC dI X _ hc_9) (cwV 1 hts (gwV good_Vq (u_Vq_Tu _ k_Tu_37) (u_Vq_Pl _ k_Pl_96) (u_Vq_Pl _ k_Pl_97) (u_Vq_Pl _ k_Pl_0) (wcs (u_Vq_Pl _ k_Pl_98) (fun _ h => h))) rfl rfl rfl (by decide +kernel) ⟨Nat.le_of_ble_eq_true rfl, Nat.le_of_ble_eq_true rfl⟩) (pv_ofE (X.same _) (fun U z1 z2 => X.mono _ _ U hFc (hEw _ _ hS U z1 z2)) hP hK hD (va_recv hK hP (ci := 9) (q0 := 7) rfl rfl)) rfl rfl hl.1 rfl (lv_room (Nat.le_of_ble_eq_true rfl)) d_Tu_keepSectors_73 ⟨by decide, by decide⟩) hS (fun q _ h => hFc q h) hFc (fun r_ u t H locs ht hvm hw hB hz1 hk1 hS => ?_)
  rw [hw]
  obtain ⟨hP, -, hD⟩ := hB
  rw [ht] at hP
  have hD := lx_dj hD hFc
  refine lv_imul hx hb d_Tu_keepSectors_76 ?_
  obtain ⟨S_10, hc_10, h⟩ := lf_bE h
  have hFc := lx_free hD hS hA
  refine va_callv (va_runV (As := [.int 7, .int (2 * r_9)]) (rest := []) ⟨hx, hb, hml, hown, hts⟩ (l_Tu_copySector l dC dI X _ hc_10) (cwV 2 hts (gwV good_Vq (u_Vq_Tu _ k_Tu_38) (u_Vq_Tu _ k_Tu_39) (u_Vq_Tu _ k_Tu_160) (u_Vq_Tu _ k_Tu_0) (wcs (u_Vq_Tu _ k_Tu_40) (fun _ h => h))) rfl rfl rfl (by decide +kernel) ⟨Nat.le_of_ble_eq_true rfl, Nat.le_of_ble_eq_true rfl⟩) (pv_ofE (X.same _) (fun U z1 z2 => X.mono _ _ U hFc (hEw _ _ hS U z1 z2)) hP hK hD (va_recv hK hP (ci := 10) (q0 := 8) rfl rfl)) rfl rfl hl.1 rfl (lv_room (Nat.le_of_ble_eq_true rfl)) d_Tu_keepSectors_77 ⟨by decide, by decide⟩) hS (fun q _ h => hFc q h) hFc (fun u t H locs ht hvm hw hB hz1 hk1 hS => ?_)
  obtain ⟨hP, -, hD⟩ := hB
  rw [ht] at hP
  have hD := lx_dj hD hFc
  refine lv_aload_n hx hb d_Tu_keepSectors_80 rfl (lv_at hl 0 rfl) ?_
  obtain ⟨S_11, hc_11, h⟩ := lf_bE h
  have hFc := lx_free hD hS hA
  refine va_callv (va_runV (As := []) (rest := []) ⟨hx, hb, hml, hown, hts⟩ (l_Tu_empty l dC dI X _ hc_11) (cwV 0 hts (gwV good_Vq (u_Vq_Tu _ k_Tu_57) (u_Vq_Tu _ k_Tu_58) (u_Vq_Tu _ k_Tu_164) (u_Vq_Tu _ k_Tu_0) (wcs (u_Vq_Tu _ k_Tu_59) (fun _ h => h))) rfl rfl rfl (by decide +kernel) ⟨Nat.le_of_ble_eq_true rfl, Nat.le_of_ble_eq_true rfl⟩) (pv_ofE (X.same _) (fun U z1 z2 => X.mono _ _ U hFc (hEw _ _ hS U z1 z2)) hP hK hD (va_recv hK hP (ci := 10) (q0 := 8) rfl rfl)) rfl rfl hl.1 rfl (lv_room (Nat.le_of_ble_eq_true rfl)) d_Tu_keepSectors_81 ⟨by decide, by decide⟩) hS (fun q _ h => hFc q h) hFc (fun u t H locs ht hvm hw hB hz1 hk1 hS => ?_)
  obtain ⟨hP, -, hD⟩ := hB
  rw [ht] at hP
  have hD := lx_dj hD hFc
  refine lv_aload_n hx hb d_Tu_keepSectors_84 rfl (lv_at hl 0 rfl) ?_
  refine va_get (D := (dC, dI)) (ci := 10) (v := .ref M.o_Dk) (C := R_Tu) (T := F_Tu) (N := 7) hx hb hts (fun w h => u_Vq_Tu w (i_Tu w h)) hown hK hP 8 rfl rfl 0 (by decide) (hts _ (u_Vq_Tu _ k_Tu_17)) (fun _ h9 => h9) rfl d_Tu_keepSectors_85 ?_
  refine lv_iconst (v := 2) hx hb d_Tu_keepSectors_88 (by decide) ?_
  refine lv_aload_n hx hb d_Tu_keepSectors_89 rfl (lv_at hl 0 rfl) ?_
  refine va_get (D := (dC, dI)) (ci := 10) (v := .ref M.o_Pl) (C := R_Tu) (T := F_Tu) (N := 7) hx hb hts (fun w h => u_Vq_Tu w (i_Tu w h)) hown hK hP 8 rfl rfl 4 (by decide) (hts _ (u_Vq_Tu _ k_Tu_21)) (fun _ h9 => h9) rfl d_Tu_keepSectors_90 ?_
  refine lv_iconst (v := 2) hx hb d_Tu_keepSectors_93 (by decide) ?_
  obtain ⟨r_12, S_12, hc_12, h⟩ := lf_cE h
  have hFc := lx_free hD hS hA
  refine va_calli (va_runV (As := [.int 2]) (rest := [.int 2, .ref M.o_Dk]) ⟨hx, hb, hml, hown, hts⟩ (l_Pl_room l dC dI X _ hc_12) (cwV 1 hts (gwV good_Vq (u_Vq_Tu _ k_Tu_37) (u_Vq_Pl _ k_Pl_96) (u_Vq_Pl _ k_Pl_97) (u_Vq_Pl _ k_Pl_0) (wcs (u_Vq_Pl _ k_Pl_98) (fun _ h => h))) rfl rfl rfl (by decide +kernel) ⟨Nat.le_of_ble_eq_true rfl, Nat.le_of_ble_eq_true rfl⟩) (pv_ofE (X.same _) (fun U z1 z2 => X.mono _ _ U hFc (hEw _ _ hS U z1 z2)) hP hK hD (va_recv hK hP (ci := 9) (q0 := 7) rfl rfl)) rfl rfl hl.1 rfl (lv_room (Nat.le_of_ble_eq_true rfl)) d_Tu_keepSectors_94 ⟨by decide, by decide⟩) hS (fun q _ h => hFc q h) hFc (fun r_ u t H locs ht hvm hw hB hz1 hk1 hS => ?_)
  rw [hw]
  obtain ⟨hP, -, hD⟩ := hB
  rw [ht] at hP
  have hD := lx_dj hD hFc
  refine lv_imul hx hb d_Tu_keepSectors_97 ?_
  refine lv_iconst (v := 1) hx hb d_Tu_keepSectors_98 (by decide) ?_
  refine lv_iadd hx hb d_Tu_keepSectors_99 ?_
  refine lv_aload_n hx hb d_Tu_keepSectors_100 rfl (lv_at hl 0 rfl) ?_
  refine va_get (D := (dC, dI)) (ci := 10) (v := .ref M.a_Tu_block) (C := R_Tu) (T := F_Tu) (N := 7) hx hb hts (fun w h => u_Vq_Tu w (i_Tu w h)) hown hK hP 8 rfl rfl 6 (by decide) (hts _ (u_Vq_Tu _ k_Tu_23)) (fun _ h9 => h9) rfl d_Tu_keepSectors_101 ?_
  refine lv_iconst (v := 0) hx hb d_Tu_keepSectors_104 (by decide) ?_
  obtain ⟨S_13, hc_13, h⟩ := lf_bE h
  have hFc := lx_free hD hS hA
  refine va_callv (va_runV (As := [.int ((2 * r_12) + 1), .ref M.a_Tu_block, .int 0]) (rest := []) ⟨hx, hb, hml, hown, hts⟩ (l_Dk_store_Tublock l dC dI X _ hc_13) (cwV 3 hts (gwV good_Vq (u_Vq_Tu _ k_Tu_42) (u_Vq_Dk _ k_Dk_41) (u_Vq_Dk _ k_Dk_42) (u_Vq_Dk _ k_Dk_0) (wcs (u_Vq_Dk _ k_Dk_43) (fun _ h => h))) rfl rfl rfl (by decide +kernel) ⟨Nat.le_of_ble_eq_true rfl, Nat.le_of_ble_eq_true rfl⟩) (pv_ofE (X.same _) (fun U z1 z2 => X.mono _ _ U hFc (hEw _ _ hS U z1 z2)) hP hK hD (va_recv hK hP (ci := 0) (q0 := 1) rfl rfl)) rfl rfl hl.1 rfl (lv_room (Nat.le_of_ble_eq_true rfl)) d_Tu_keepSectors_105 ⟨by decide, by decide⟩) hS (fun q _ h => hFc q h) hFc (fun u t H locs ht hvm hw hB hz1 hk1 hS => ?_)
  obtain ⟨hP, -, hD⟩ := hB
  rw [ht] at hP
  have hD := lx_dj hD hFc
  rw [hQ]
  have e2 : S_13 = S' := Option.some.inj h
  have hP := ly_newP e2.symm hP
  have hD := ly_newD e2.symm hD
  exact W.vret hx hb hr (fun t ht hW => ⟨⟨(), rfl, trivial, by rw [ht]; exact hP, va_K.moved hW.alike hK, hD⟩, hS.F ht⟩) hS.2.2 d_Tu_keepSectors_108
set_option maxHeartbeats 4000000 in
set_option maxRecDepth 100000 in
theorem l_Tu_putTwo (l : Launch) (dC : Nat → ClassId) (dI : Nat → Nat → Nat) {K : Nat} {M : CA} {E : (Nat → Prop) → State → Prop} (X : ly_X l dC dI K M E) (sz : Nat) {Y : CT} {G : CG} {S S' : CS} {p0 : Int32} {p1 : Int32} (h : f_Tu_putTwo K G S p0 p1 = some S') : Met l y_Tu_putTwo (.code y_Tu_putTwo cb_Tu_putTwo 3 none :: V_Vq) ({ frames := 0, cells := 0, slots := 0, locals := 0 }) (va_Pc [.ref M.o_Tu, .int p0, .int p1] (fun U => U.heap.size = sz ∧ at_ (dC, dI) (fun _ => True) (wV M Y G S) (tV M) U ∧ E (va_A (wV M Y G S) sz) U)) (va_Qv (fun (u : Unit) => True) (fun (u : Unit) t => at_ (dC, dI) (va_A (wV M Y G S) sz) (wV M Y G S') (tV M) t) (va_A (wV M Y G S) sz)) 0 0 (va_A (wV M Y G S) sz) := by
  refine Met.ofW (cc := cb_Tu_putTwo) (maxL := 3) (ret := none) (by decide) rfl ?_
  intro p e s m args below meth c s₁ B hml hv
  obtain ⟨rfl, hsz, ⟨hP, hK, hD0⟩, hE⟩ := hv
  have hx := B.exec
  have hb := B.bytes
  have hr := B.returns
  have hts0 := atoms_spec (ws := .code y_Tu_putTwo cb_Tu_putTwo 3 none :: V_Vq) B.pre
  have hts : ∀ w ∈ V_Vq, w.before ([.ref M.o_Tu, .int p0, .int p1] : List Value).toArray s = true := fun w h => hts0 w (List.mem_cons_of_mem _ h)
  have hown : s.vm.findClass R_Tu = some m.cls := findClass_of_methodNamed B.named
  subst hsz
  have hD := hD0.self (sz := s.heap.size)
  generalize hAe : va_A (wV M Y G S) s.heap.size = A at hD hE ⊢
  have hA : ∀ q : Nat, s.heap.size ≤ q → A q := fun q h => by rw [← hAe]; exact Or.inr h
  have hS : va_S A s.heap s.heap [] := va_S.rf
  have hP : va_P (dC, dI) classes (wV M Y G S) s.heap := hP
  have hK : va_K (dC, dI) classes (tV M) s := hK
  have hEw : ∀ (H : Heap) (locs : List Loc), va_S A s.heap H locs → ∀ U : State, U.heap = H → s.WarmedH U.vm → E A U := fun H locs hS U hU hW => X.kept A s U H locs hE hS hU hW
  have hl := lv_entry ([.ref M.o_Tu, .int p0, .int p1]) (n := 3) (Nat.le_of_ble_eq_true rfl)
  rw [lg_entry_eq]
  generalize (lg_sl ([.ref M.o_Tu, .int p0, .int p1]) ++ List.replicate (3 - (lg_sl ([.ref M.o_Tu, .int p0, .int p1])).length) Slot.unset).toArray = ls at hl ⊢
  have hl : lv_has ls 3 [(0, .ref M.o_Tu), (1, .int p0), (2, .int p1)] := hl
  refine qabs (fun Q hQ => ?_)
  rw [f_Tu_putTwo] at h
  refine lv_iload_n hx hb d_Tu_putTwo_0 rfl (lv_at hl 1 rfl) ?_
  refine lv_if_lt (tgt := 32) hx hb d_Tu_putTwo_1 (by decide) (fun c_1 => ?_) (fun c_1 => ?_)
  · have h := lf_t h c_1
    rw [hQ]
    have e2 : S = S' := Option.some.inj h
    have hP := ly_newP e2.symm hP
    have hD := ly_newD e2.symm hD
    exact W.vret hx hb hr (fun t ht hW => ⟨⟨(), rfl, trivial, by rw [ht]; exact hP, va_K.moved hW.alike hK, hD⟩, hS.F ht⟩) hS.2.2 d_Tu_putTwo_32
  · have h := lf_f h c_1
    refine lv_iload_n hx hb d_Tu_putTwo_4 rfl (lv_at hl 1 rfl) ?_
    refine lv_sipush (v := 1022) hx hb d_Tu_putTwo_5 (by decide) ?_
    refine lv_icmp_gt (tgt := 32) hx hb d_Tu_putTwo_8 (by decide) (fun c_2 => ?_) (fun c_2 => ?_)
    · have h := lf_t h c_2
      rw [hQ]
      have e2 : S = S' := Option.some.inj h
      have hP := ly_newP e2.symm hP
      have hD := ly_newD e2.symm hD
      exact W.vret hx hb hr (fun t ht hW => ⟨⟨(), rfl, trivial, by rw [ht]; exact hP, va_K.moved hW.alike hK, hD⟩, hS.F ht⟩) hS.2.2 d_Tu_putTwo_32
    · have h := lf_f h c_2
      refine lv_aload_n hx hb d_Tu_putTwo_11 rfl (lv_at hl 0 rfl) ?_
      refine va_get (D := (dC, dI)) (ci := 10) (v := .ref M.a_Tu_block) (C := R_Tu) (T := F_Tu) (N := 7) hx hb hts (fun w h => u_Vq_Tu w (i_Tu w h)) hown hK hP 8 rfl rfl 6 (by decide) (hts _ (u_Vq_Tu _ k_Tu_23)) (fun _ h9 => h9) rfl d_Tu_putTwo_12 ?_
      refine lv_iload_n hx hb d_Tu_putTwo_15 rfl (lv_at hl 1 rfl) ?_
      refine lv_iload_n hx hb d_Tu_putTwo_16 rfl (lv_at hl 2 rfl) ?_
      refine lv_i2b hx hb d_Tu_putTwo_17 rfl ?_
      obtain ⟨g_3, h⟩ := lf_gE h
      refine va_bast hx hb hK hP hD hS 44 0 rfl rfl g_3 d_Tu_putTwo_18 (fun H locs hP hD hS => ?_)
      obtain ⟨S_4, eS_4, h⟩ := lf_lX h
      have hP := ly_newP eS_4 hP
      have hD := ly_newD eS_4 hD
      refine lv_aload_n hx hb d_Tu_putTwo_19 rfl (lv_at hl 0 rfl) ?_
      refine va_get (D := (dC, dI)) (ci := 10) (v := .ref M.a_Tu_block) (C := R_Tu) (T := F_Tu) (N := 7) hx hb hts (fun w h => u_Vq_Tu w (i_Tu w h)) hown hK hP 8 rfl rfl 6 (by decide) (hts _ (u_Vq_Tu _ k_Tu_23)) (fun _ h9 => h9) rfl d_Tu_putTwo_20 ?_
      refine lv_iload_n hx hb d_Tu_putTwo_23 rfl (lv_at hl 1 rfl) ?_
      refine lv_iconst (v := 1) hx hb d_Tu_putTwo_24 (by decide) ?_
      refine lv_iadd hx hb d_Tu_putTwo_25 ?_
      refine lv_iload_n hx hb d_Tu_putTwo_26 rfl (lv_at hl 2 rfl) ?_
      refine lv_bipush (v := 8) hx hb d_Tu_putTwo_27 (by decide) ?_
      refine lv_ishr hx hb d_Tu_putTwo_29 ?_
      refine lv_i2b hx hb d_Tu_putTwo_30 rfl ?_
      obtain ⟨g_5, h⟩ := lf_gE h
      refine va_bast hx hb hK hP hD hS 44 0 rfl rfl g_5 d_Tu_putTwo_31 (fun H locs hP hD hS => ?_)
      obtain ⟨S_6, eS_6, h⟩ := lf_lX h
      have hP := ly_newP eS_6 hP
      have hD := ly_newD eS_6 hD
      rw [hQ]
      have e2 : S_6 = S' := Option.some.inj h
      have hP := ly_newP e2.symm hP
      have hD := ly_newD e2.symm hD
      exact W.vret hx hb hr (fun t ht hW => ⟨⟨(), rfl, trivial, by rw [ht]; exact hP, va_K.moved hW.alike hK, hD⟩, hS.F ht⟩) hS.2.2 d_Tu_putTwo_32
set_option maxHeartbeats 4000000 in
set_option maxRecDepth 100000 in
theorem l_Tu_storeBlock (l : Launch) (dC : Nat → ClassId) (dI : Nat → Nat → Nat) {K : Nat} {M : CA} {E : (Nat → Prop) → State → Prop} (X : ly_X l dC dI K M E) (sz : Nat) {Y : CT} {G : CG} {S S' : CS} {p0 : Int32} (h : f_Tu_storeBlock K G S p0 = some S') : Met l y_Tu_storeBlock (.code y_Tu_storeBlock cb_Tu_storeBlock 2 none :: V_Vq) ({ frames := 2, cells := 0, slots := 0, locals := 83 }) (va_Pc [.ref M.o_Tu, .int p0] (fun U => U.heap.size = sz ∧ at_ (dC, dI) (fun _ => True) (wV M Y G S) (tV M) U ∧ E (va_A (wV M Y G S) sz) U)) (va_Qv (fun (u : Unit) => True) (fun (u : Unit) t => at_ (dC, dI) (va_A (wV M Y G S) sz) (wV M Y G S') (tV M) t) (va_A (wV M Y G S) sz)) 0 0 (va_A (wV M Y G S) sz) := by
  refine Met.ofW (cc := cb_Tu_storeBlock) (maxL := 2) (ret := none) (by decide) rfl ?_
  intro p e s m args below meth c s₁ B hml hv
  obtain ⟨rfl, hsz, ⟨hP, hK, hD0⟩, hE⟩ := hv
  have hx := B.exec
  have hb := B.bytes
  have hr := B.returns
  have hts0 := atoms_spec (ws := .code y_Tu_storeBlock cb_Tu_storeBlock 2 none :: V_Vq) B.pre
  have hts : ∀ w ∈ V_Vq, w.before ([.ref M.o_Tu, .int p0] : List Value).toArray s = true := fun w h => hts0 w (List.mem_cons_of_mem _ h)
  have hown : s.vm.findClass R_Tu = some m.cls := findClass_of_methodNamed B.named
  subst hsz
  have hD := hD0.self (sz := s.heap.size)
  generalize hAe : va_A (wV M Y G S) s.heap.size = A at hD hE ⊢
  have hA : ∀ q : Nat, s.heap.size ≤ q → A q := fun q h => by rw [← hAe]; exact Or.inr h
  have hS : va_S A s.heap s.heap [] := va_S.rf
  have hP : va_P (dC, dI) classes (wV M Y G S) s.heap := hP
  have hK : va_K (dC, dI) classes (tV M) s := hK
  have hEw : ∀ (H : Heap) (locs : List Loc), va_S A s.heap H locs → ∀ U : State, U.heap = H → s.WarmedH U.vm → E A U := fun H locs hS U hU hW => X.kept A s U H locs hE hS hU hW
  have hl := lv_entry ([.ref M.o_Tu, .int p0]) (n := 2) (Nat.le_of_ble_eq_true rfl)
  rw [lg_entry_eq]
  generalize (lg_sl ([.ref M.o_Tu, .int p0]) ++ List.replicate (2 - (lg_sl ([.ref M.o_Tu, .int p0])).length) Slot.unset).toArray = ls at hl ⊢
  have hl : lv_has ls 2 [(0, .ref M.o_Tu), (1, .int p0)] := hl
  refine qabs (fun Q hQ => ?_)
  rw [f_Tu_storeBlock] at h
  refine lv_aload_n hx hb d_Tu_storeBlock_0 rfl (lv_at hl 0 rfl) ?_
  refine va_get (D := (dC, dI)) (ci := 10) (v := .ref M.o_Dk) (C := R_Tu) (T := F_Tu) (N := 7) hx hb hts (fun w h => u_Vq_Tu w (i_Tu w h)) hown hK hP 8 rfl rfl 0 (by decide) (hts _ (u_Vq_Tu _ k_Tu_17)) (fun _ h9 => h9) rfl d_Tu_storeBlock_1 ?_
  refine lv_iconst (v := 2) hx hb d_Tu_storeBlock_4 (by decide) ?_
  refine lv_iload_n hx hb d_Tu_storeBlock_5 rfl (lv_at hl 1 rfl) ?_
  refine lv_imul hx hb d_Tu_storeBlock_6 ?_
  refine lv_aload_n hx hb d_Tu_storeBlock_7 rfl (lv_at hl 0 rfl) ?_
  refine va_get (D := (dC, dI)) (ci := 10) (v := .ref M.a_Tu_block) (C := R_Tu) (T := F_Tu) (N := 7) hx hb hts (fun w h => u_Vq_Tu w (i_Tu w h)) hown hK hP 8 rfl rfl 6 (by decide) (hts _ (u_Vq_Tu _ k_Tu_23)) (fun _ h9 => h9) rfl d_Tu_storeBlock_8 ?_
  refine lv_iconst (v := 0) hx hb d_Tu_storeBlock_11 (by decide) ?_
  obtain ⟨S_1, hc_1, h⟩ := lf_bE h
  have hFc := lx_free hD hS hA
  refine va_callv (va_runV (As := [.int (2 * p0), .ref M.a_Tu_block, .int 0]) (rest := []) ⟨hx, hb, hml, hown, hts⟩ (l_Dk_store_Tublock l dC dI X _ hc_1) (cwV 3 hts (gwV good_Vq (u_Vq_Tu _ k_Tu_42) (u_Vq_Dk _ k_Dk_41) (u_Vq_Dk _ k_Dk_42) (u_Vq_Dk _ k_Dk_0) (wcs (u_Vq_Dk _ k_Dk_43) (fun _ h => h))) rfl rfl rfl (by decide +kernel) ⟨Nat.le_of_ble_eq_true rfl, Nat.le_of_ble_eq_true rfl⟩) (pv_ofE (X.same _) (fun U z1 z2 => X.mono _ _ U hFc (hEw _ _ hS U z1 z2)) hP hK hD (va_recv hK hP (ci := 0) (q0 := 1) rfl rfl)) rfl rfl hl.1 rfl (lv_room (Nat.le_of_ble_eq_true rfl)) d_Tu_storeBlock_12 ⟨by decide, by decide⟩) hS (fun q _ h => hFc q h) hFc (fun u t H locs ht hvm hw hB hz1 hk1 hS => ?_)
  obtain ⟨hP, -, hD⟩ := hB
  rw [ht] at hP
  have hD := lx_dj hD hFc
  refine lv_aload_n hx hb d_Tu_storeBlock_15 rfl (lv_at hl 0 rfl) ?_
  refine va_get (D := (dC, dI)) (ci := 10) (v := .ref M.o_Dk) (C := R_Tu) (T := F_Tu) (N := 7) hx hb hts (fun w h => u_Vq_Tu w (i_Tu w h)) hown hK hP 8 rfl rfl 0 (by decide) (hts _ (u_Vq_Tu _ k_Tu_17)) (fun _ h9 => h9) rfl d_Tu_storeBlock_16 ?_
  refine lv_iconst (v := 2) hx hb d_Tu_storeBlock_19 (by decide) ?_
  refine lv_iload_n hx hb d_Tu_storeBlock_20 rfl (lv_at hl 1 rfl) ?_
  refine lv_imul hx hb d_Tu_storeBlock_21 ?_
  refine lv_iconst (v := 1) hx hb d_Tu_storeBlock_22 (by decide) ?_
  refine lv_iadd hx hb d_Tu_storeBlock_23 ?_
  refine lv_aload_n hx hb d_Tu_storeBlock_24 rfl (lv_at hl 0 rfl) ?_
  refine va_get (D := (dC, dI)) (ci := 10) (v := .ref M.a_Tu_block) (C := R_Tu) (T := F_Tu) (N := 7) hx hb hts (fun w h => u_Vq_Tu w (i_Tu w h)) hown hK hP 8 rfl rfl 6 (by decide) (hts _ (u_Vq_Tu _ k_Tu_23)) (fun _ h9 => h9) rfl d_Tu_storeBlock_25 ?_
  refine lv_sipush (v := 512) hx hb d_Tu_storeBlock_28 (by decide) ?_
  obtain ⟨S_2, hc_2, h⟩ := lf_bE h
  have hFc := lx_free hD hS hA
  refine va_callv (va_runV (As := [.int ((2 * p0) + 1), .ref M.a_Tu_block, .int 512]) (rest := []) ⟨hx, hb, hml, hown, hts⟩ (l_Dk_store_Tublock l dC dI X _ hc_2) (cwV 3 hts (gwV good_Vq (u_Vq_Tu _ k_Tu_42) (u_Vq_Dk _ k_Dk_41) (u_Vq_Dk _ k_Dk_42) (u_Vq_Dk _ k_Dk_0) (wcs (u_Vq_Dk _ k_Dk_43) (fun _ h => h))) rfl rfl rfl (by decide +kernel) ⟨Nat.le_of_ble_eq_true rfl, Nat.le_of_ble_eq_true rfl⟩) (pv_ofE (X.same _) (fun U z1 z2 => X.mono _ _ U hFc (hEw _ _ hS U z1 z2)) hP hK hD (va_recv hK hP (ci := 0) (q0 := 1) rfl rfl)) rfl rfl hl.1 rfl (lv_room (Nat.le_of_ble_eq_true rfl)) d_Tu_storeBlock_31 ⟨by decide, by decide⟩) hS (fun q _ h => hFc q h) hFc (fun u t H locs ht hvm hw hB hz1 hk1 hS => ?_)
  obtain ⟨hP, -, hD⟩ := hB
  rw [ht] at hP
  have hD := lx_dj hD hFc
  rw [hQ]
  have e2 : S_2 = S' := Option.some.inj h
  have hP := ly_newP e2.symm hP
  have hD := ly_newD e2.symm hD
  exact W.vret hx hb hr (fun t ht hW => ⟨⟨(), rfl, trivial, by rw [ht]; exact hP, va_K.moved hW.alike hK, hD⟩, hS.F ht⟩) hS.2.2 d_Tu_storeBlock_34
set_option maxHeartbeats 4000000 in
set_option maxRecDepth 100000 in
theorem l_Tu_inodeOf (l : Launch) (dC : Nat → ClassId) (dI : Nat → Nat → Nat) {K : Nat} (sz : Nat) {p0 : Int32} {r : Int32} (h : f_Tu_inodeOf K p0 = some r) : Met l y_Tu_inodeOf (.code y_Tu_inodeOf b_Tu_inodeOf 1 (some .int) :: V_Vq) ({ frames := 0, cells := 0, slots := 0, locals := 0 }) (va_Pc [.int p0] (fun U => U.heap.size = sz ∧ at_ (dC, dI) (fun _ => True) [] [] U)) (va_Qi (fun (r_ : Int32) (u : Unit) => r_ = r) (fun (u : Unit) t => at_ (dC, dI) (va_A [] sz) [] [] t) (va_A [] sz)) 0 0 (va_A [] sz) := by
  refine Met.ofW (cc := b_Tu_inodeOf) (maxL := 1) (ret := (some .int)) (by decide) rfl ?_
  intro p e s m args below meth c s₁ B hml hv
  obtain ⟨rfl, hsz, hP, hK, hD0⟩ := hv
  have hx := B.exec
  have hb := B.bytes
  have hr := B.returns
  have hts0 := atoms_spec (ws := .code y_Tu_inodeOf b_Tu_inodeOf 1 (some .int) :: V_Vq) B.pre
  have hts : ∀ w ∈ V_Vq, w.before ([.int p0] : List Value).toArray s = true := fun w h => hts0 w (List.mem_cons_of_mem _ h)
  have hown : s.vm.findClass R_Tu = some m.cls := findClass_of_methodNamed B.named
  subst hsz
  have hD := hD0.self (sz := s.heap.size)
  generalize hAe : va_A [] s.heap.size = A at hD ⊢
  have hA : ∀ q : Nat, s.heap.size ≤ q → A q := fun q h => by rw [← hAe]; exact Or.inr h
  have hS : va_S A s.heap s.heap [] := va_S.rf
  have hP : va_P (dC, dI) classes [] s.heap := hP
  have hK : va_K (dC, dI) classes [] s := hK
  have hl := lv_entry ([.int p0]) (n := 1) (Nat.le_of_ble_eq_true rfl)
  rw [lg_entry_eq]
  generalize (lg_sl ([.int p0]) ++ List.replicate (1 - (lg_sl ([.int p0])).length) Slot.unset).toArray = ls at hl ⊢
  have hl : lv_has ls 1 [(0, .int p0)] := hl
  refine qabs (fun Q hQ => ?_)
  rw [f_Tu_inodeOf] at h
  refine lv_iload_n hx hb d_Tu_inodeOf_0 rfl (lv_at hl 0 rfl) ?_
  refine lv_if_ne (tgt := 8) hx hb d_Tu_inodeOf_1 (by decide) (fun c_1 => ?_) (fun c_1 => ?_)
  · have h := lf_f h c_1
    refine lv_bipush (v := 11) hx hb d_Tu_inodeOf_8 (by decide) ?_
    refine lv_iload_n hx hb d_Tu_inodeOf_10 rfl (lv_at hl 0 rfl) ?_
    refine lv_iadd hx hb d_Tu_inodeOf_11 ?_
    rw [hQ]
    have e1 : (11 + p0) = r := Option.some.inj h
    exact W.iret (v := (11 + p0)) hx hb hr (fun t ht hW => ⟨⟨(11 + p0), (), rfl, e1, by rw [ht]; exact hP, va_K.moved hW.alike hK, hD⟩, hS.F ht⟩) hS.2.2 d_Tu_inodeOf_12
  · have h := lf_t h c_1
    refine lv_iconst (v := 2) hx hb d_Tu_inodeOf_4 (by decide) ?_
    refine lv_goto (tgt := 12) hx hb d_Tu_inodeOf_5 (by decide) ?_
    rw [hQ]
    have e1 : (2 : Int32) = r := Option.some.inj h
    exact W.iret (v := 2) hx hb hr (fun t ht hW => ⟨⟨2, (), rfl, e1, by rw [ht]; exact hP, va_K.moved hW.alike hK, hD⟩, hS.F ht⟩) hS.2.2 d_Tu_inodeOf_12
set_option maxHeartbeats 4000000 in
set_option maxRecDepth 100000 in
theorem l_Tu_putFour (l : Launch) (dC : Nat → ClassId) (dI : Nat → Nat → Nat) {K : Nat} {M : CA} {E : (Nat → Prop) → State → Prop} (X : ly_X l dC dI K M E) (sz : Nat) {Y : CT} {G : CG} {S S' : CS} {p0 : Int32} {p1 : Int32} (h : f_Tu_putFour K G S p0 p1 = some S') : Met l y_Tu_putFour (.code y_Tu_putFour cb_Tu_putFour 3 none :: V_Vq) ({ frames := 0, cells := 0, slots := 0, locals := 0 }) (va_Pc [.ref M.o_Tu, .int p0, .int p1] (fun U => U.heap.size = sz ∧ at_ (dC, dI) (fun _ => True) (wV M Y G S) (tV M) U ∧ E (va_A (wV M Y G S) sz) U)) (va_Qv (fun (u : Unit) => True) (fun (u : Unit) t => at_ (dC, dI) (va_A (wV M Y G S) sz) (wV M Y G S') (tV M) t) (va_A (wV M Y G S) sz)) 0 0 (va_A (wV M Y G S) sz) := by
  refine Met.ofW (cc := cb_Tu_putFour) (maxL := 3) (ret := none) (by decide) rfl ?_
  intro p e s m args below meth c s₁ B hml hv
  obtain ⟨rfl, hsz, ⟨hP, hK, hD0⟩, hE⟩ := hv
  have hx := B.exec
  have hb := B.bytes
  have hr := B.returns
  have hts0 := atoms_spec (ws := .code y_Tu_putFour cb_Tu_putFour 3 none :: V_Vq) B.pre
  have hts : ∀ w ∈ V_Vq, w.before ([.ref M.o_Tu, .int p0, .int p1] : List Value).toArray s = true := fun w h => hts0 w (List.mem_cons_of_mem _ h)
  have hown : s.vm.findClass R_Tu = some m.cls := findClass_of_methodNamed B.named
  subst hsz
  have hD := hD0.self (sz := s.heap.size)
  generalize hAe : va_A (wV M Y G S) s.heap.size = A at hD hE ⊢
  have hA : ∀ q : Nat, s.heap.size ≤ q → A q := fun q h => by rw [← hAe]; exact Or.inr h
  have hS : va_S A s.heap s.heap [] := va_S.rf
  have hP : va_P (dC, dI) classes (wV M Y G S) s.heap := hP
  have hK : va_K (dC, dI) classes (tV M) s := hK
  have hEw : ∀ (H : Heap) (locs : List Loc), va_S A s.heap H locs → ∀ U : State, U.heap = H → s.WarmedH U.vm → E A U := fun H locs hS U hU hW => X.kept A s U H locs hE hS hU hW
  have hl := lv_entry ([.ref M.o_Tu, .int p0, .int p1]) (n := 3) (Nat.le_of_ble_eq_true rfl)
  rw [lg_entry_eq]
  generalize (lg_sl ([.ref M.o_Tu, .int p0, .int p1]) ++ List.replicate (3 - (lg_sl ([.ref M.o_Tu, .int p0, .int p1])).length) Slot.unset).toArray = ls at hl ⊢
  have hl : lv_has ls 3 [(0, .ref M.o_Tu), (1, .int p0), (2, .int p1)] := hl
  refine qabs (fun Q hQ => ?_)
  rw [f_Tu_putFour] at h
  refine lv_iload_n hx hb d_Tu_putFour_0 rfl (lv_at hl 1 rfl) ?_
  refine lv_if_lt (tgt := 58) hx hb d_Tu_putFour_1 (by decide) (fun c_1 => ?_) (fun c_1 => ?_)
  · have h := lf_t h c_1
    rw [hQ]
    have e2 : S = S' := Option.some.inj h
    have hP := ly_newP e2.symm hP
    have hD := ly_newD e2.symm hD
    exact W.vret hx hb hr (fun t ht hW => ⟨⟨(), rfl, trivial, by rw [ht]; exact hP, va_K.moved hW.alike hK, hD⟩, hS.F ht⟩) hS.2.2 d_Tu_putFour_58
  · have h := lf_f h c_1
    refine lv_iload_n hx hb d_Tu_putFour_4 rfl (lv_at hl 1 rfl) ?_
    refine lv_sipush (v := 1020) hx hb d_Tu_putFour_5 (by decide) ?_
    refine lv_icmp_gt (tgt := 58) hx hb d_Tu_putFour_8 (by decide) (fun c_2 => ?_) (fun c_2 => ?_)
    · have h := lf_t h c_2
      rw [hQ]
      have e2 : S = S' := Option.some.inj h
      have hP := ly_newP e2.symm hP
      have hD := ly_newD e2.symm hD
      exact W.vret hx hb hr (fun t ht hW => ⟨⟨(), rfl, trivial, by rw [ht]; exact hP, va_K.moved hW.alike hK, hD⟩, hS.F ht⟩) hS.2.2 d_Tu_putFour_58
    · have h := lf_f h c_2
      refine lv_aload_n hx hb d_Tu_putFour_11 rfl (lv_at hl 0 rfl) ?_
      refine va_get (D := (dC, dI)) (ci := 10) (v := .ref M.a_Tu_block) (C := R_Tu) (T := F_Tu) (N := 7) hx hb hts (fun w h => u_Vq_Tu w (i_Tu w h)) hown hK hP 8 rfl rfl 6 (by decide) (hts _ (u_Vq_Tu _ k_Tu_23)) (fun _ h9 => h9) rfl d_Tu_putFour_12 ?_
      refine lv_iload_n hx hb d_Tu_putFour_15 rfl (lv_at hl 1 rfl) ?_
      refine lv_iload_n hx hb d_Tu_putFour_16 rfl (lv_at hl 2 rfl) ?_
      refine lv_i2b hx hb d_Tu_putFour_17 rfl ?_
      obtain ⟨g_3, h⟩ := lf_gE h
      refine va_bast hx hb hK hP hD hS 44 0 rfl rfl g_3 d_Tu_putFour_18 (fun H locs hP hD hS => ?_)
      obtain ⟨S_4, eS_4, h⟩ := lf_lX h
      have hP := ly_newP eS_4 hP
      have hD := ly_newD eS_4 hD
      refine lv_aload_n hx hb d_Tu_putFour_19 rfl (lv_at hl 0 rfl) ?_
      refine va_get (D := (dC, dI)) (ci := 10) (v := .ref M.a_Tu_block) (C := R_Tu) (T := F_Tu) (N := 7) hx hb hts (fun w h => u_Vq_Tu w (i_Tu w h)) hown hK hP 8 rfl rfl 6 (by decide) (hts _ (u_Vq_Tu _ k_Tu_23)) (fun _ h9 => h9) rfl d_Tu_putFour_20 ?_
      refine lv_iload_n hx hb d_Tu_putFour_23 rfl (lv_at hl 1 rfl) ?_
      refine lv_iconst (v := 1) hx hb d_Tu_putFour_24 (by decide) ?_
      refine lv_iadd hx hb d_Tu_putFour_25 ?_
      refine lv_iload_n hx hb d_Tu_putFour_26 rfl (lv_at hl 2 rfl) ?_
      refine lv_bipush (v := 8) hx hb d_Tu_putFour_27 (by decide) ?_
      refine lv_ishr hx hb d_Tu_putFour_29 ?_
      refine lv_i2b hx hb d_Tu_putFour_30 rfl ?_
      obtain ⟨g_5, h⟩ := lf_gE h
      refine va_bast hx hb hK hP hD hS 44 0 rfl rfl g_5 d_Tu_putFour_31 (fun H locs hP hD hS => ?_)
      obtain ⟨S_6, eS_6, h⟩ := lf_lX h
      have hP := ly_newP eS_6 hP
      have hD := ly_newD eS_6 hD
      refine lv_aload_n hx hb d_Tu_putFour_32 rfl (lv_at hl 0 rfl) ?_
      refine va_get (D := (dC, dI)) (ci := 10) (v := .ref M.a_Tu_block) (C := R_Tu) (T := F_Tu) (N := 7) hx hb hts (fun w h => u_Vq_Tu w (i_Tu w h)) hown hK hP 8 rfl rfl 6 (by decide) (hts _ (u_Vq_Tu _ k_Tu_23)) (fun _ h9 => h9) rfl d_Tu_putFour_33 ?_
      refine lv_iload_n hx hb d_Tu_putFour_36 rfl (lv_at hl 1 rfl) ?_
      refine lv_iconst (v := 2) hx hb d_Tu_putFour_37 (by decide) ?_
      refine lv_iadd hx hb d_Tu_putFour_38 ?_
      refine lv_iload_n hx hb d_Tu_putFour_39 rfl (lv_at hl 2 rfl) ?_
      refine lv_bipush (v := 16) hx hb d_Tu_putFour_40 (by decide) ?_
      refine lv_ishr hx hb d_Tu_putFour_42 ?_
      refine lv_i2b hx hb d_Tu_putFour_43 rfl ?_
      obtain ⟨g_7, h⟩ := lf_gE h
      refine va_bast hx hb hK hP hD hS 44 0 rfl rfl g_7 d_Tu_putFour_44 (fun H locs hP hD hS => ?_)
      obtain ⟨S_8, eS_8, h⟩ := lf_lX h
      have hP := ly_newP eS_8 hP
      have hD := ly_newD eS_8 hD
      refine lv_aload_n hx hb d_Tu_putFour_45 rfl (lv_at hl 0 rfl) ?_
      refine va_get (D := (dC, dI)) (ci := 10) (v := .ref M.a_Tu_block) (C := R_Tu) (T := F_Tu) (N := 7) hx hb hts (fun w h => u_Vq_Tu w (i_Tu w h)) hown hK hP 8 rfl rfl 6 (by decide) (hts _ (u_Vq_Tu _ k_Tu_23)) (fun _ h9 => h9) rfl d_Tu_putFour_46 ?_
      refine lv_iload_n hx hb d_Tu_putFour_49 rfl (lv_at hl 1 rfl) ?_
      refine lv_iconst (v := 3) hx hb d_Tu_putFour_50 (by decide) ?_
      refine lv_iadd hx hb d_Tu_putFour_51 ?_
      refine lv_iload_n hx hb d_Tu_putFour_52 rfl (lv_at hl 2 rfl) ?_
      refine lv_bipush (v := 24) hx hb d_Tu_putFour_53 (by decide) ?_
      refine lv_ishr hx hb d_Tu_putFour_55 ?_
      refine lv_i2b hx hb d_Tu_putFour_56 rfl ?_
      obtain ⟨g_9, h⟩ := lf_gE h
      refine va_bast hx hb hK hP hD hS 44 0 rfl rfl g_9 d_Tu_putFour_57 (fun H locs hP hD hS => ?_)
      obtain ⟨S_10, eS_10, h⟩ := lf_lX h
      have hP := ly_newP eS_10 hP
      have hD := ly_newD eS_10 hD
      rw [hQ]
      have e2 : S_10 = S' := Option.some.inj h
      have hP := ly_newP e2.symm hP
      have hD := ly_newD e2.symm hD
      exact W.vret hx hb hr (fun t ht hW => ⟨⟨(), rfl, trivial, by rw [ht]; exact hP, va_K.moved hW.alike hK, hD⟩, hS.F ht⟩) hS.2.2 d_Tu_putFour_58
set_option maxHeartbeats 4000000 in
set_option maxRecDepth 100000 in
theorem l_Tu_putOne (l : Launch) (dC : Nat → ClassId) (dI : Nat → Nat → Nat) {K : Nat} {M : CA} {E : (Nat → Prop) → State → Prop} (X : ly_X l dC dI K M E) (sz : Nat) {Y : CT} {G : CG} {S S' : CS} {p0 : Int32} {p1 : Int32} (h : f_Tu_putOne K G S p0 p1 = some S') : Met l y_Tu_putOne (.code y_Tu_putOne cb_Tu_putOne 3 none :: V_Vq) ({ frames := 0, cells := 0, slots := 0, locals := 0 }) (va_Pc [.ref M.o_Tu, .int p0, .int p1] (fun U => U.heap.size = sz ∧ at_ (dC, dI) (fun _ => True) (wV M Y G S) (tV M) U ∧ E (va_A (wV M Y G S) sz) U)) (va_Qv (fun (u : Unit) => True) (fun (u : Unit) t => at_ (dC, dI) (va_A (wV M Y G S) sz) (wV M Y G S') (tV M) t) (va_A (wV M Y G S) sz)) 0 0 (va_A (wV M Y G S) sz) := by
  refine Met.ofW (cc := cb_Tu_putOne) (maxL := 3) (ret := none) (by decide) rfl ?_
  intro p e s m args below meth c s₁ B hml hv
  obtain ⟨rfl, hsz, ⟨hP, hK, hD0⟩, hE⟩ := hv
  have hx := B.exec
  have hb := B.bytes
  have hr := B.returns
  have hts0 := atoms_spec (ws := .code y_Tu_putOne cb_Tu_putOne 3 none :: V_Vq) B.pre
  have hts : ∀ w ∈ V_Vq, w.before ([.ref M.o_Tu, .int p0, .int p1] : List Value).toArray s = true := fun w h => hts0 w (List.mem_cons_of_mem _ h)
  have hown : s.vm.findClass R_Tu = some m.cls := findClass_of_methodNamed B.named
  subst hsz
  have hD := hD0.self (sz := s.heap.size)
  generalize hAe : va_A (wV M Y G S) s.heap.size = A at hD hE ⊢
  have hA : ∀ q : Nat, s.heap.size ≤ q → A q := fun q h => by rw [← hAe]; exact Or.inr h
  have hS : va_S A s.heap s.heap [] := va_S.rf
  have hP : va_P (dC, dI) classes (wV M Y G S) s.heap := hP
  have hK : va_K (dC, dI) classes (tV M) s := hK
  have hEw : ∀ (H : Heap) (locs : List Loc), va_S A s.heap H locs → ∀ U : State, U.heap = H → s.WarmedH U.vm → E A U := fun H locs hS U hU hW => X.kept A s U H locs hE hS hU hW
  have hl := lv_entry ([.ref M.o_Tu, .int p0, .int p1]) (n := 3) (Nat.le_of_ble_eq_true rfl)
  rw [lg_entry_eq]
  generalize (lg_sl ([.ref M.o_Tu, .int p0, .int p1]) ++ List.replicate (3 - (lg_sl ([.ref M.o_Tu, .int p0, .int p1])).length) Slot.unset).toArray = ls at hl ⊢
  have hl : lv_has ls 3 [(0, .ref M.o_Tu), (1, .int p0), (2, .int p1)] := hl
  refine qabs (fun Q hQ => ?_)
  rw [f_Tu_putOne] at h
  refine lv_iload_n hx hb d_Tu_putOne_0 rfl (lv_at hl 1 rfl) ?_
  refine lv_if_lt (tgt := 19) hx hb d_Tu_putOne_1 (by decide) (fun c_1 => ?_) (fun c_1 => ?_)
  · have h := lf_t h c_1
    rw [hQ]
    have e2 : S = S' := Option.some.inj h
    have hP := ly_newP e2.symm hP
    have hD := ly_newD e2.symm hD
    exact W.vret hx hb hr (fun t ht hW => ⟨⟨(), rfl, trivial, by rw [ht]; exact hP, va_K.moved hW.alike hK, hD⟩, hS.F ht⟩) hS.2.2 d_Tu_putOne_19
  · have h := lf_f h c_1
    refine lv_iload_n hx hb d_Tu_putOne_4 rfl (lv_at hl 1 rfl) ?_
    refine lv_sipush (v := 1024) hx hb d_Tu_putOne_5 (by decide) ?_
    refine lv_icmp_ge (tgt := 19) hx hb d_Tu_putOne_8 (by decide) (fun c_2 => ?_) (fun c_2 => ?_)
    · have h := lf_t h c_2
      rw [hQ]
      have e2 : S = S' := Option.some.inj h
      have hP := ly_newP e2.symm hP
      have hD := ly_newD e2.symm hD
      exact W.vret hx hb hr (fun t ht hW => ⟨⟨(), rfl, trivial, by rw [ht]; exact hP, va_K.moved hW.alike hK, hD⟩, hS.F ht⟩) hS.2.2 d_Tu_putOne_19
    · have h := lf_f h c_2
      refine lv_aload_n hx hb d_Tu_putOne_11 rfl (lv_at hl 0 rfl) ?_
      refine va_get (D := (dC, dI)) (ci := 10) (v := .ref M.a_Tu_block) (C := R_Tu) (T := F_Tu) (N := 7) hx hb hts (fun w h => u_Vq_Tu w (i_Tu w h)) hown hK hP 8 rfl rfl 6 (by decide) (hts _ (u_Vq_Tu _ k_Tu_23)) (fun _ h9 => h9) rfl d_Tu_putOne_12 ?_
      refine lv_iload_n hx hb d_Tu_putOne_15 rfl (lv_at hl 1 rfl) ?_
      refine lv_iload_n hx hb d_Tu_putOne_16 rfl (lv_at hl 2 rfl) ?_
      refine lv_i2b hx hb d_Tu_putOne_17 rfl ?_
      obtain ⟨g_3, h⟩ := lf_gE h
      refine va_bast hx hb hK hP hD hS 44 0 rfl rfl g_3 d_Tu_putOne_18 (fun H locs hP hD hS => ?_)
      obtain ⟨S_4, eS_4, h⟩ := lf_lX h
      have hP := ly_newP eS_4 hP
      have hD := ly_newD eS_4 hD
      rw [hQ]
      have e2 : S_4 = S' := Option.some.inj h
      have hP := ly_newP e2.symm hP
      have hD := ly_newD e2.symm hD
      exact W.vret hx hb hr (fun t ht hW => ⟨⟨(), rfl, trivial, by rw [ht]; exact hP, va_K.moved hW.alike hK, hD⟩, hS.F ht⟩) hS.2.2 d_Tu_putOne_19
set_option maxHeartbeats 4000000 in
set_option maxRecDepth 100000 in
theorem l_Tu_putEntry (l : Launch) (dC : Nat → ClassId) (dI : Nat → Nat → Nat) {K : Nat} {M : CA} {E : (Nat → Prop) → State → Prop} (X : ly_X l dC dI K M E) (sz : Nat) {Y : CT} {G : CG} {S S' : CS} {p0 : Int32} {p1 : Int32} {p2 : Int32} (h : f_Tu_putEntry K G S p0 p1 p2 = some S') : Met l y_Tu_putEntry (.code y_Tu_putEntry cb_Tu_putEntry 9 none :: V_Vq) ({ frames := 8, cells := 0, slots := 0, locals := 242 }) (va_Pc [.ref M.o_Tu, .int p0, .int p1, .int p2] (fun U => U.heap.size = sz ∧ at_ (dC, dI) (fun _ => True) (wV M Y G S) (tV M) U ∧ E (va_A (wV M Y G S) sz) U)) (va_Qv (fun (u : Unit) => True) (fun (u : Unit) t => at_ (dC, dI) (va_A (wV M Y G S) sz) (wV M Y G S') (tV M) t) (va_A (wV M Y G S) sz)) 0 0 (va_A (wV M Y G S) sz) := by
  refine Met.ofW (cc := cb_Tu_putEntry) (maxL := 9) (ret := none) (by decide) rfl ?_
  intro p e s m args below meth c s₁ B hml hv
  obtain ⟨rfl, hsz, ⟨hP, hK, hD0⟩, hE⟩ := hv
  have hx := B.exec
  have hb := B.bytes
  have hr := B.returns
  have hts0 := atoms_spec (ws := .code y_Tu_putEntry cb_Tu_putEntry 9 none :: V_Vq) B.pre
  have hts : ∀ w ∈ V_Vq, w.before ([.ref M.o_Tu, .int p0, .int p1, .int p2] : List Value).toArray s = true := fun w h => hts0 w (List.mem_cons_of_mem _ h)
  have hown : s.vm.findClass R_Tu = some m.cls := findClass_of_methodNamed B.named
  subst hsz
  have hD := hD0.self (sz := s.heap.size)
  generalize hAe : va_A (wV M Y G S) s.heap.size = A at hD hE ⊢
  have hA : ∀ q : Nat, s.heap.size ≤ q → A q := fun q h => by rw [← hAe]; exact Or.inr h
  have hS : va_S A s.heap s.heap [] := va_S.rf
  have hP : va_P (dC, dI) classes (wV M Y G S) s.heap := hP
  have hK : va_K (dC, dI) classes (tV M) s := hK
  have hEw : ∀ (H : Heap) (locs : List Loc), va_S A s.heap H locs → ∀ U : State, U.heap = H → s.WarmedH U.vm → E A U := fun H locs hS U hU hW => X.kept A s U H locs hE hS hU hW
  have hl := lv_entry ([.ref M.o_Tu, .int p0, .int p1, .int p2]) (n := 9) (Nat.le_of_ble_eq_true rfl)
  rw [lg_entry_eq]
  generalize (lg_sl ([.ref M.o_Tu, .int p0, .int p1, .int p2]) ++ List.replicate (9 - (lg_sl ([.ref M.o_Tu, .int p0, .int p1, .int p2])).length) Slot.unset).toArray = ls at hl ⊢
  have hl : lv_has ls 9 [(0, .ref M.o_Tu), (1, .int p0), (2, .int p1), (3, .int p2)] := hl
  refine qabs (fun Q hQ => ?_)
  have hB_199 : ∀ (rec_142 : Int32 → Int32 → Int32 → Int32 → Int32 → Int32 → CS → Option (CS)) (hr_142 : ∀ (y_1 : Int32) (y_3 : Int32) (y_4 : Int32) (y_5 : Int32) (y_6 : Int32) (y_7 : Int32) (S : CS) (H : Heap) (locs : List Loc) (ls : Array Slot), rec_142 y_1 y_3 y_4 y_5 y_6 y_7 S = some S' → va_P (dC, dI) classes (wV M Y G S) H → va_D A (wV M Y G S) → va_S A s.heap H locs → lv_has ls 9 [(0, .ref M.o_Tu), (1, .int y_1), (3, .int y_3), (4, .int y_4), (5, .int y_5), (6, .int y_6), (7, .int y_7)] → W p l e ({ frames := 8, cells := 0, slots := 0, locals := 242 }) s m ([.ref M.o_Tu, .int p0, .int p1, .int p2] : List Value).toArray below meth c H locs 0 0 Q (F0 m 142 ls [])), ∀ (y_1 : Int32) (y_3 : Int32) (y_4 : Int32) (y_5 : Int32) (y_6 : Int32) (y_7 : Int32) (z_0 : Int32) (S : CS) (H : Heap) (locs : List Loc) (ls : Array Slot), f_Tu_putEntry_199 K G rec_142 y_1 y_3 y_4 y_5 y_6 y_7 z_0 S = some S' → va_P (dC, dI) classes (wV M Y G S) H → va_D A (wV M Y G S) → va_S A s.heap H locs → lv_has ls 9 [(0, .ref M.o_Tu), (1, .int y_1), (3, .int y_3), (4, .int y_4), (5, .int y_5), (6, .int y_6), (7, .int y_7)] → W p l e ({ frames := 8, cells := 0, slots := 0, locals := 242 }) s m ([.ref M.o_Tu, .int p0, .int p1, .int p2] : List Value).toArray below meth c H locs 0 0 Q (F0 m 199 ls [.int z_0]) := by
    intro rec_142 hr_142 y_1 y_3 y_4 y_5 y_6 y_7 z_0 S H locs ls h hP hD hS hl
    rw [f_Tu_putEntry_199] at h
    refine lv_istore (lv' := [(8, .int z_0), (0, .ref M.o_Tu), (1, .int y_1), (3, .int y_3), (4, .int y_4), (5, .int y_5), (6, .int y_6), (7, .int y_7)]) hx hb d_Tu_putEntry_199 hl (by decide) rfl (fun ls hl => ?_)
    refine lv_aload_n hx hb d_Tu_putEntry_201 rfl (lv_at hl 1 rfl) ?_
    refine lv_iload_n hx hb d_Tu_putEntry_202 rfl (lv_at hl 2 rfl) ?_
    refine lv_bipush (v := 8) hx hb d_Tu_putEntry_203 (by decide) ?_
    refine lv_iadd hx hb d_Tu_putEntry_205 ?_
    refine lv_iload hx hb d_Tu_putEntry_206 (lv_at hl 7 rfl) ?_
    refine lv_iadd hx hb d_Tu_putEntry_208 ?_
    refine lv_iload hx hb d_Tu_putEntry_209 (lv_at hl 0 rfl) ?_
    obtain ⟨S_24, hc_24, h⟩ := lf_bE h
    have hFc := lx_free hD hS hA
    refine va_callv (va_runV (As := [.int ((y_1 + 8) + y_7), .int z_0]) (rest := []) ⟨hx, hb, hml, hown, hts⟩ (l_Tu_putOne l dC dI X _ hc_24) (cwV 2 hts (gwV good_Vq (u_Vq_Tu _ k_Tu_87) (u_Vq_Tu _ k_Tu_88) (u_Vq_Tu _ k_Tu_166) (u_Vq_Tu _ k_Tu_0) (wcs (u_Vq_Tu _ k_Tu_89) (fun _ h => h))) rfl rfl rfl (by decide +kernel) ⟨Nat.le_of_ble_eq_true rfl, Nat.le_of_ble_eq_true rfl⟩) (pv_ofE (X.same _) (fun U z1 z2 => X.mono _ _ U hFc (hEw _ _ hS U z1 z2)) hP hK hD (va_recv hK hP (ci := 10) (q0 := 8) rfl rfl)) rfl rfl hl.1 rfl (lv_room (Nat.le_of_ble_eq_true rfl)) d_Tu_putEntry_211 ⟨by decide, by decide⟩) hS (fun q _ h => hFc q h) hFc (fun u t H locs ht hvm hw hB hz1 hk1 hS => ?_)
    obtain ⟨hP, -, hD⟩ := hB
    rw [ht] at hP
    have hD := lx_dj hD hFc
    obtain ⟨x_25, ex_25, h⟩ := lf_lX h
    refine lv_iinc (v := x_25) (lv' := [(7, .int x_25), (8, .int z_0), (0, .ref M.o_Tu), (1, .int y_1), (3, .int y_3), (4, .int y_4), (5, .int y_5), (6, .int y_6)]) hx hb d_Tu_putEntry_214 hl (k := 7) rfl (by rw [ex_25]; rfl) (by decide) rfl (fun ls hl => ?_)
    refine lv_goto (tgt := 142) hx hb d_Tu_putEntry_217 (by decide) ?_
    exact hr_142 y_1 y_3 y_4 y_5 y_6 x_25 S_24 _ _ _ h hP hD hS (lv_sub hl [2, 3, 4, 5, 6, 7, 0] rfl)
  have hB_142 : ∀ (k : Nat), ∀ (y_1 : Int32) (y_3 : Int32) (y_4 : Int32) (y_5 : Int32) (y_6 : Int32) (y_7 : Int32) (S : CS) (H : Heap) (locs : List Loc) (ls : Array Slot), f_Tu_putEntry_142 K G k y_1 y_3 y_4 y_5 y_6 y_7 S = some S' → va_P (dC, dI) classes (wV M Y G S) H → va_D A (wV M Y G S) → va_S A s.heap H locs → lv_has ls 9 [(0, .ref M.o_Tu), (1, .int y_1), (3, .int y_3), (4, .int y_4), (5, .int y_5), (6, .int y_6), (7, .int y_7)] → W p l e ({ frames := 8, cells := 0, slots := 0, locals := 242 }) s m ([.ref M.o_Tu, .int p0, .int p1, .int p2] : List Value).toArray below meth c H locs 0 0 Q (F0 m 142 ls []) := by
    intro k
    induction k with
    | zero => intro y_1 y_3 y_4 y_5 y_6 y_7 S H locs ls h; exact lf_no h
    | succ k hr_142 =>
      intro y_1 y_3 y_4 y_5 y_6 y_7 S H locs ls h hP hD hS hl
      rw [f_Tu_putEntry_142] at h
      refine lv_iload hx hb d_Tu_putEntry_142 (lv_at hl 6 rfl) ?_
      refine lv_iload hx hb d_Tu_putEntry_144 (lv_at hl 5 rfl) ?_
      refine lv_icmp_ge (tgt := 220) hx hb d_Tu_putEntry_146 (by decide) (fun c_17 => ?_) (fun c_17 => ?_)
      · have h := lf_t h c_17
        rw [hQ]
        have e2 : S = S' := Option.some.inj h
        have hP := ly_newP e2.symm hP
        have hD := ly_newD e2.symm hD
        exact W.vret hx hb hr (fun t ht hW => ⟨⟨(), rfl, trivial, by rw [ht]; exact hP, va_K.moved hW.alike hK, hD⟩, hS.F ht⟩) hS.2.2 d_Tu_putEntry_220
      · have h := lf_f h c_17
        refine lv_iload_n hx hb d_Tu_putEntry_149 rfl (lv_at hl 2 rfl) ?_
        refine lv_iconst (v := 2) hx hb d_Tu_putEntry_150 (by decide) ?_
        refine lv_icmp_ge (tgt := 159) hx hb d_Tu_putEntry_151 (by decide) (fun c_18 => ?_) (fun c_18 => ?_)
        · have h := lf_t h c_18
          refine lv_iload hx hb d_Tu_putEntry_159 (lv_at hl 3 rfl) ?_
          refine lv_if_eq (tgt := 178) hx hb d_Tu_putEntry_161 (by decide) (fun c_19 => ?_) (fun c_19 => ?_)
          · have h := lf_t h c_19
            refine lv_iload hx hb d_Tu_putEntry_178 (lv_at hl 6 rfl) ?_
            refine va_ldcS hx hb hown (X.str_Tu_203 A s hE) d_Tu_putEntry_180 ?_
            have hFc := lx_free0 hS hA
            refine va_calli (va_runV (As := []) (rest := [.int y_7]) ⟨hx, hb, hml, hown, hts⟩ (X.length_Tu_203 _) (cwV 0 hts (gwV good_Vq (u_Vq_Tu _ k_Tu_91) (k_Vq_3) (k_Vq_4) (k_Vq_0) (wcs (k_Vq_5) (fun _ h => h))) rfl rfl rfl (by decide +kernel) ⟨Nat.le_of_ble_eq_true rfl, Nat.le_of_ble_eq_true rfl⟩) (pv_ofE (W := []) (tys := []) (X.same _) (fun U z1 z2 => X.mono _ _ U hFc (hEw _ _ hS U z1 z2)) (hP.sub (ws' := []) [] rfl) (hK.sub [] rfl) (hD.sub (ws' := []) [] (by decide) rfl) (X.recv_Tu_203 _ (lx_s s _) (hEw _ _ hS (lx_s s _) rfl (State.WarmedH.refl s)))) rfl rfl hl.1 rfl (lv_room (Nat.le_of_ble_eq_true rfl)) d_Tu_putEntry_182 ⟨by decide, by decide⟩) hS (fun q _ h => hFc q h) hFc (fun r_ u t H locs ht hvm hw hB hz1 hk1 hS => ?_)
            rw [hw]
            have hP := lx_stat (A := A) hP hk1
            refine lv_icmp_ge (tgt := 198) hx hb d_Tu_putEntry_185 (by decide) (fun c_21 => ?_) (fun c_21 => ?_)
            · have h := lf_t h c_21
              refine lv_iconst (v := 0) hx hb d_Tu_putEntry_198 (by decide) ?_
              exact hB_199 _ hr_142 y_1 y_3 y_4 y_5 y_6 y_7 0 S _ _ _ h hP hD hS (lv_sub hl [0, 1, 2, 3, 4, 5, 6] rfl)
            · have h := lf_f h c_21
              refine va_ldcS hx hb hown (X.str_Tu_203 A s hE) d_Tu_putEntry_188 ?_
              refine lv_iload hx hb d_Tu_putEntry_190 (lv_at hl 6 rfl) ?_
              obtain ⟨x_22, hc_x_22, h⟩ := lf_bE h
              have hFc := lx_free0 hS hA
              refine va_calli (va_runV (As := [.int y_7]) (rest := []) ⟨hx, hb, hml, hown, hts⟩ (X.charAt_Tu_203 _ hc_x_22) (cwV 1 hts (gwV good_Vq (u_Vq_Tu _ k_Tu_92) (k_Vq_11) (k_Vq_12) (k_Vq_0) (wcs (k_Vq_13) (fun _ h => h))) rfl rfl rfl (by decide +kernel) ⟨Nat.le_of_ble_eq_true rfl, Nat.le_of_ble_eq_true rfl⟩) (pv_ofE (W := []) (tys := []) (X.same _) (fun U z1 z2 => X.mono _ _ U hFc (hEw _ _ hS U z1 z2)) (hP.sub (ws' := []) [] rfl) (hK.sub [] rfl) (hD.sub (ws' := []) [] (by decide) rfl) (X.recv_Tu_203 _ (lx_s s _) (hEw _ _ hS (lx_s s _) rfl (State.WarmedH.refl s)))) rfl rfl hl.1 rfl (lv_room (Nat.le_of_ble_eq_true rfl)) d_Tu_putEntry_192 ⟨by decide, by decide⟩) hS (fun q _ h => hFc q h) hFc (fun r_ u t H locs ht hvm hw hB hz1 hk1 hS => ?_)
              rw [hw]
              have hP := lx_stat (A := A) hP hk1
              refine lv_goto (tgt := 199) hx hb d_Tu_putEntry_195 (by decide) ?_
              exact hB_199 _ hr_142 y_1 y_3 y_4 y_5 y_6 y_7 x_22 S _ _ _ h hP hD hS (lv_sub hl [0, 1, 2, 3, 4, 5, 6] rfl)
          · have h := lf_f h c_19
            refine lv_aload_n hx hb d_Tu_putEntry_164 rfl (lv_at hl 0 rfl) ?_
            refine va_get (D := (dC, dI)) (ci := 10) (v := .ref M.o_Tr) (C := R_Tu) (T := F_Tu) (N := 7) hx hb hts (fun w h => u_Vq_Tu w (i_Tu w h)) hown hK hP 8 rfl rfl 2 (by decide) (hts _ (u_Vq_Tu _ k_Tu_19)) (fun _ h9 => h9) rfl d_Tu_putEntry_165 ?_
            refine lv_iload hx hb d_Tu_putEntry_168 (lv_at hl 4 rfl) ?_
            refine lv_iload hx hb d_Tu_putEntry_170 (lv_at hl 6 rfl) ?_
            obtain ⟨r_23, S_23, hc_23, h⟩ := lf_cE h
            have hFc := lx_free hD hS hA
            refine va_calli (va_runV (As := [.int y_5, .int y_7]) (rest := []) ⟨hx, hb, hml, hown, hts⟩ (l_Tr_nameByte l dC dI X _ hc_23) (cwV 2 hts (gwV good_Vq (u_Vq_Tu _ k_Tu_90) (u_Vq_Tr _ k_Tr_97) (u_Vq_Tr _ k_Tr_98) (u_Vq_Tr _ k_Tr_0) (wcs (u_Vq_Tr _ k_Tr_99) (fun _ h => h))) rfl rfl rfl (by decide +kernel) ⟨Nat.le_of_ble_eq_true rfl, Nat.le_of_ble_eq_true rfl⟩) (pv_ofE (X.same _) (fun U z1 z2 => X.mono _ _ U hFc (hEw _ _ hS U z1 z2)) hP hK hD (va_recv hK hP (ci := 5) (q0 := 4) rfl rfl)) rfl rfl hl.1 rfl (lv_room (Nat.le_of_ble_eq_true rfl)) d_Tu_putEntry_172 ⟨by decide, by decide⟩) hS (fun q _ h => hFc q h) hFc (fun r_ u t H locs ht hvm hw hB hz1 hk1 hS => ?_)
            rw [hw]
            obtain ⟨hP, -, hD⟩ := hB
            rw [ht] at hP
            have hD := lx_dj hD hFc
            refine lv_goto (tgt := 199) hx hb d_Tu_putEntry_175 (by decide) ?_
            exact hB_199 _ hr_142 y_1 y_3 y_4 y_5 y_6 y_7 r_23 S_23 _ _ _ h hP hD hS (lv_sub hl [0, 1, 2, 3, 4, 5, 6] rfl)
        · have h := lf_f h c_18
          refine lv_bipush (v := 46) hx hb d_Tu_putEntry_154 (by decide) ?_
          refine lv_goto (tgt := 199) hx hb d_Tu_putEntry_156 (by decide) ?_
          exact hB_199 _ hr_142 y_1 y_3 y_4 y_5 y_6 y_7 46 S _ _ _ h hP hD hS (lv_sub hl [0, 1, 2, 3, 4, 5, 6] rfl)
  have hB_136 : ∀ (y_1 : Int32) (y_3 : Int32) (y_4 : Int32) (y_5 : Int32) (y_6 : Int32) (z_1 : Int32) (z_2 : Int32) (S : CS) (H : Heap) (locs : List Loc) (ls : Array Slot), f_Tu_putEntry_136 K G y_1 y_3 y_4 y_5 y_6 z_1 z_2 S = some S' → va_P (dC, dI) classes (wV M Y G S) H → va_D A (wV M Y G S) → va_S A s.heap H locs → lv_has ls 9 [(0, .ref M.o_Tu), (1, .int y_1), (3, .int y_3), (4, .int y_4), (5, .int y_5), (6, .int y_6)] → W p l e ({ frames := 8, cells := 0, slots := 0, locals := 242 }) s m ([.ref M.o_Tu, .int p0, .int p1, .int p2] : List Value).toArray below meth c H locs 0 0 Q (F0 m 136 ls [.int z_2, .int z_1, .ref M.o_Tu]) := by
    intro y_1 y_3 y_4 y_5 y_6 z_1 z_2 S H locs ls h hP hD hS hl
    rw [f_Tu_putEntry_136] at h
    obtain ⟨S_16, hc_16, h⟩ := lf_bE h
    have hFc := lx_free hD hS hA
    refine va_callv (va_runV (As := [.int z_1, .int z_2]) (rest := []) ⟨hx, hb, hml, hown, hts⟩ (l_Tu_putOne l dC dI X _ hc_16) (cwV 2 hts (gwV good_Vq (u_Vq_Tu _ k_Tu_87) (u_Vq_Tu _ k_Tu_88) (u_Vq_Tu _ k_Tu_166) (u_Vq_Tu _ k_Tu_0) (wcs (u_Vq_Tu _ k_Tu_89) (fun _ h => h))) rfl rfl rfl (by decide +kernel) ⟨Nat.le_of_ble_eq_true rfl, Nat.le_of_ble_eq_true rfl⟩) (pv_ofE (X.same _) (fun U z1 z2 => X.mono _ _ U hFc (hEw _ _ hS U z1 z2)) hP hK hD (va_recv hK hP (ci := 10) (q0 := 8) rfl rfl)) rfl rfl hl.1 rfl (lv_room (Nat.le_of_ble_eq_true rfl)) d_Tu_putEntry_136 ⟨by decide, by decide⟩) hS (fun q _ h => hFc q h) hFc (fun u t H locs ht hvm hw hB hz1 hk1 hS => ?_)
    obtain ⟨hP, -, hD⟩ := hB
    rw [ht] at hP
    have hD := lx_dj hD hFc
    refine lv_iconst (v := 0) hx hb d_Tu_putEntry_139 (by decide) ?_
    refine lv_istore (lv' := [(7, .int 0), (0, .ref M.o_Tu), (1, .int y_1), (3, .int y_3), (4, .int y_4), (5, .int y_5), (6, .int y_6)]) hx hb d_Tu_putEntry_140 hl (by decide) rfl (fun ls hl => ?_)
    exact hB_142 K y_1 y_3 y_4 y_5 y_6 0 S_16 _ _ _ h hP hD hS (lv_sub hl [1, 2, 3, 4, 5, 6, 0] rfl)
  have hB_101 : ∀ (y_1 : Int32) (y_3 : Int32) (y_4 : Int32) (y_5 : Int32) (y_6 : Int32) (z_1 : Int32) (z_2 : Int32) (S : CS) (H : Heap) (locs : List Loc) (ls : Array Slot), f_Tu_putEntry_101 K G y_1 y_3 y_4 y_5 y_6 z_1 z_2 S = some S' → va_P (dC, dI) classes (wV M Y G S) H → va_D A (wV M Y G S) → va_S A s.heap H locs → lv_has ls 9 [(0, .ref M.o_Tu), (1, .int y_1), (3, .int y_3), (4, .int y_4), (5, .int y_5), (6, .int y_6)] → W p l e ({ frames := 8, cells := 0, slots := 0, locals := 242 }) s m ([.ref M.o_Tu, .int p0, .int p1, .int p2] : List Value).toArray below meth c H locs 0 0 Q (F0 m 101 ls [.int z_2, .int z_1, .ref M.o_Tu]) := by
    intro y_1 y_3 y_4 y_5 y_6 z_1 z_2 S H locs ls h hP hD hS hl
    rw [f_Tu_putEntry_101] at h
    obtain ⟨S_12, hc_12, h⟩ := lf_bE h
    have hFc := lx_free hD hS hA
    refine va_callv (va_runV (As := [.int z_1, .int z_2]) (rest := []) ⟨hx, hb, hml, hown, hts⟩ (l_Tu_putFour l dC dI X _ hc_12) (cwV 2 hts (gwV good_Vq (u_Vq_Tu _ k_Tu_84) (u_Vq_Tu _ k_Tu_85) (u_Vq_Tu _ k_Tu_168) (u_Vq_Tu _ k_Tu_0) (wcs (u_Vq_Tu _ k_Tu_86) (fun _ h => h))) rfl rfl rfl (by decide +kernel) ⟨Nat.le_of_ble_eq_true rfl, Nat.le_of_ble_eq_true rfl⟩) (pv_ofE (X.same _) (fun U z1 z2 => X.mono _ _ U hFc (hEw _ _ hS U z1 z2)) hP hK hD (va_recv hK hP (ci := 10) (q0 := 8) rfl rfl)) rfl rfl hl.1 rfl (lv_room (Nat.le_of_ble_eq_true rfl)) d_Tu_putEntry_101 ⟨by decide, by decide⟩) hS (fun q _ h => hFc q h) hFc (fun u t H locs ht hvm hw hB hz1 hk1 hS => ?_)
    obtain ⟨hP, -, hD⟩ := hB
    rw [ht] at hP
    have hD := lx_dj hD hFc
    refine lv_aload_n hx hb d_Tu_putEntry_104 rfl (lv_at hl 0 rfl) ?_
    refine lv_iload_n hx hb d_Tu_putEntry_105 rfl (lv_at hl 1 rfl) ?_
    refine lv_bipush (v := 6) hx hb d_Tu_putEntry_106 (by decide) ?_
    refine lv_iadd hx hb d_Tu_putEntry_108 ?_
    refine lv_iload hx hb d_Tu_putEntry_109 (lv_at hl 5 rfl) ?_
    obtain ⟨S_13, hc_13, h⟩ := lf_bE h
    have hFc := lx_free hD hS hA
    refine va_callv (va_runV (As := [.int (y_1 + 6), .int y_6]) (rest := []) ⟨hx, hb, hml, hown, hts⟩ (l_Tu_putOne l dC dI X _ hc_13) (cwV 2 hts (gwV good_Vq (u_Vq_Tu _ k_Tu_87) (u_Vq_Tu _ k_Tu_88) (u_Vq_Tu _ k_Tu_166) (u_Vq_Tu _ k_Tu_0) (wcs (u_Vq_Tu _ k_Tu_89) (fun _ h => h))) rfl rfl rfl (by decide +kernel) ⟨Nat.le_of_ble_eq_true rfl, Nat.le_of_ble_eq_true rfl⟩) (pv_ofE (X.same _) (fun U z1 z2 => X.mono _ _ U hFc (hEw _ _ hS U z1 z2)) hP hK hD (va_recv hK hP (ci := 10) (q0 := 8) rfl rfl)) rfl rfl hl.1 rfl (lv_room (Nat.le_of_ble_eq_true rfl)) d_Tu_putEntry_111 ⟨by decide, by decide⟩) hS (fun q _ h => hFc q h) hFc (fun u t H locs ht hvm hw hB hz1 hk1 hS => ?_)
    obtain ⟨hP, -, hD⟩ := hB
    rw [ht] at hP
    have hD := lx_dj hD hFc
    refine lv_aload_n hx hb d_Tu_putEntry_114 rfl (lv_at hl 0 rfl) ?_
    refine lv_iload_n hx hb d_Tu_putEntry_115 rfl (lv_at hl 1 rfl) ?_
    refine lv_bipush (v := 7) hx hb d_Tu_putEntry_116 (by decide) ?_
    refine lv_iadd hx hb d_Tu_putEntry_118 ?_
    refine lv_aload_n hx hb d_Tu_putEntry_119 rfl (lv_at hl 0 rfl) ?_
    refine va_get (D := (dC, dI)) (ci := 10) (v := .ref M.o_Tr) (C := R_Tu) (T := F_Tu) (N := 7) hx hb hts (fun w h => u_Vq_Tu w (i_Tu w h)) hown hK hP 8 rfl rfl 2 (by decide) (hts _ (u_Vq_Tu _ k_Tu_19)) (fun _ h9 => h9) rfl d_Tu_putEntry_120 ?_
    refine lv_iload hx hb d_Tu_putEntry_123 (lv_at hl 4 rfl) ?_
    obtain ⟨r_14, S_14, hc_14, h⟩ := lf_cE h
    have hFc := lx_free hD hS hA
    refine va_calli (va_runV (As := [.int y_5]) (rest := [.int (y_1 + 7), .ref M.o_Tu]) ⟨hx, hb, hml, hown, hts⟩ (l_Tr_isDirectory l dC dI X _ hc_14) (cwV 1 hts (gwV good_Vq (u_Vq_Tu _ k_Tu_61) (u_Vq_Tr _ k_Tr_42) (u_Vq_Tr _ k_Tr_43) (u_Vq_Tr _ k_Tr_0) (wcs (u_Vq_Tr _ k_Tr_44) (fun _ h => h))) rfl rfl rfl (by decide +kernel) ⟨Nat.le_of_ble_eq_true rfl, Nat.le_of_ble_eq_true rfl⟩) (pv_ofE (X.same _) (fun U z1 z2 => X.mono _ _ U hFc (hEw _ _ hS U z1 z2)) hP hK hD (va_recv hK hP (ci := 5) (q0 := 4) rfl rfl)) rfl rfl hl.1 rfl (lv_room (Nat.le_of_ble_eq_true rfl)) d_Tu_putEntry_125 ⟨by decide, by decide⟩) hS (fun q _ h => hFc q h) hFc (fun r_ u t H locs ht hvm hw hB hz1 hk1 hS => ?_)
    rw [hw]
    obtain ⟨hP, -, hD⟩ := hB
    rw [ht] at hP
    have hD := lx_dj hD hFc
    refine lv_if_eq (tgt := 135) hx hb d_Tu_putEntry_128 (by decide) (fun c_15 => ?_) (fun c_15 => ?_)
    · have h := lf_t h c_15
      refine lv_iconst (v := 1) hx hb d_Tu_putEntry_135 (by decide) ?_
      exact hB_136 y_1 y_3 y_4 y_5 y_6 (y_1 + 7) 1 S_14 _ _ _ h hP hD hS (lv_sub hl [0, 1, 2, 3, 4, 5] rfl)
    · have h := lf_f h c_15
      refine lv_iconst (v := 2) hx hb d_Tu_putEntry_131 (by decide) ?_
      refine lv_goto (tgt := 136) hx hb d_Tu_putEntry_132 (by decide) ?_
      exact hB_136 y_1 y_3 y_4 y_5 y_6 (y_1 + 7) 2 S_14 _ _ _ h hP hD hS (lv_sub hl [0, 1, 2, 3, 4, 5] rfl)
  have hB_70 : ∀ (y_1 : Int32) (y_2 : Int32) (y_3 : Int32) (y_4 : Int32) (z_0 : Int32) (S : CS) (H : Heap) (locs : List Loc) (ls : Array Slot), f_Tu_putEntry_70 K G y_1 y_2 y_3 y_4 z_0 S = some S' → va_P (dC, dI) classes (wV M Y G S) H → va_D A (wV M Y G S) → va_S A s.heap H locs → lv_has ls 9 [(0, .ref M.o_Tu), (1, .int y_1), (2, .int y_2), (3, .int y_3), (4, .int y_4)] → W p l e ({ frames := 8, cells := 0, slots := 0, locals := 242 }) s m ([.ref M.o_Tu, .int p0, .int p1, .int p2] : List Value).toArray below meth c H locs 0 0 Q (F0 m 70 ls [.int z_0]) := by
    intro y_1 y_2 y_3 y_4 z_0 S H locs ls h hP hD hS hl
    rw [f_Tu_putEntry_70] at h
    refine lv_istore (lv' := [(5, .int z_0), (0, .ref M.o_Tu), (1, .int y_1), (2, .int y_2), (3, .int y_3), (4, .int y_4)]) hx hb d_Tu_putEntry_70 hl (by decide) rfl (fun ls hl => ?_)
    refine lv_aload_n hx hb d_Tu_putEntry_72 rfl (lv_at hl 1 rfl) ?_
    refine va_get (D := (dC, dI)) (ci := 10) (v := .ref M.o_Pl) (C := R_Tu) (T := F_Tu) (N := 7) hx hb hts (fun w h => u_Vq_Tu w (i_Tu w h)) hown hK hP 8 rfl rfl 4 (by decide) (hts _ (u_Vq_Tu _ k_Tu_21)) (fun _ h9 => h9) rfl d_Tu_putEntry_73 ?_
    refine lv_iload_n hx hb d_Tu_putEntry_76 rfl (lv_at hl 3 rfl) ?_
    refine lv_iload_n hx hb d_Tu_putEntry_77 rfl (lv_at hl 4 rfl) ?_
    obtain ⟨r_9, S_9, hc_9, h⟩ := lf_cE h
    have hFc := lx_free hD hS hA
    refine va_calli (va_runV (As := [.int y_2, .int y_3]) (rest := []) ⟨hx, hb, hml, hown, hts⟩ (l_Pl_nameSize l dC dI X _ hc_9) (cwV 2 hts (gwV good_Vq (u_Vq_Tu _ k_Tu_67) (u_Vq_Pl _ k_Pl_122) (u_Vq_Pl _ k_Pl_123) (u_Vq_Pl _ k_Pl_0) (wcs (u_Vq_Pl _ k_Pl_124) (fun _ h => h))) rfl rfl rfl (by decide +kernel) ⟨Nat.le_of_ble_eq_true rfl, Nat.le_of_ble_eq_true rfl⟩) (pv_ofE (X.same _) (fun U z1 z2 => X.mono _ _ U hFc (hEw _ _ hS U z1 z2)) hP hK hD (va_recv hK hP (ci := 9) (q0 := 7) rfl rfl)) rfl rfl hl.1 rfl (lv_room (Nat.le_of_ble_eq_true rfl)) d_Tu_putEntry_78 ⟨by decide, by decide⟩) hS (fun q _ h => hFc q h) hFc (fun r_ u t H locs ht hvm hw hB hz1 hk1 hS => ?_)
    rw [hw]
    obtain ⟨hP, -, hD⟩ := hB
    rw [ht] at hP
    have hD := lx_dj hD hFc
    refine lv_istore (lv' := [(6, .int r_9), (5, .int z_0), (0, .ref M.o_Tu), (1, .int y_1), (2, .int y_2), (3, .int y_3), (4, .int y_4)]) hx hb d_Tu_putEntry_81 hl (by decide) rfl (fun ls hl => ?_)
    refine lv_aload_n hx hb d_Tu_putEntry_83 rfl (lv_at hl 2 rfl) ?_
    refine lv_iload_n hx hb d_Tu_putEntry_84 rfl (lv_at hl 3 rfl) ?_
    refine lv_iload hx hb d_Tu_putEntry_85 (lv_at hl 1 rfl) ?_
    refine lv_iconst (v := (-1)) hx hb d_Tu_putEntry_87 (by decide) ?_
    refine lv_icmp_ne (tgt := 96) hx hb d_Tu_putEntry_88 (by decide) (fun c_10 => ?_) (fun c_10 => ?_)
    · have h := lf_f h c_10
      refine lv_iload hx hb d_Tu_putEntry_96 (lv_at hl 1 rfl) ?_
      obtain ⟨r_11, hc_11, h⟩ := lf_bE h
      have hFc := lx_free0 hS hA
      refine va_calli (va_runS (As := [.int z_0]) (rest := [.int y_1, .ref M.o_Tu]) ⟨hx, hb, hml, hown, hts⟩ (l_Tu_inodeOf l dC dI  _ hc_11) (va_cwS 1 hts (gwS good_Vq (u_Vq_Tu _ k_Tu_81) (u_Vq_Tu _ k_Tu_82) (u_Vq_Tu _ k_Tu_0) (wcs (u_Vq_Tu _ k_Tu_83) (fun _ h => h))) rfl rfl rfl (by decide +kernel) ⟨Nat.le_of_ble_eq_true rfl, Nat.le_of_ble_eq_true rfl⟩) (ps_of (W := []) (tys := []) (hP.sub (ws' := []) [] rfl) (hK.sub [] rfl) (hD.sub (ws' := []) [] (by decide) rfl)) rfl rfl hl.1 rfl (lv_room (Nat.le_of_ble_eq_true rfl)) d_Tu_putEntry_98 ⟨by decide, by decide⟩) hS (fun q _ h => hFc q h) hFc (fun r_ u t H locs ht hvm hw hB hz1 hk1 hS => ?_)
      rw [hw]
      have hP := lx_stat (A := A) hP hk1
      exact hB_101 y_1 y_3 y_4 z_0 r_9 y_1 r_11 S_9 _ _ _ h hP hD hS (lv_sub hl [2, 3, 5, 6, 1, 0] rfl)
    · have h := lf_t h c_10
      refine lv_bipush (v := 11) hx hb d_Tu_putEntry_91 (by decide) ?_
      refine lv_goto (tgt := 101) hx hb d_Tu_putEntry_93 (by decide) ?_
      exact hB_101 y_1 y_3 y_4 z_0 r_9 y_1 11 S_9 _ _ _ h hP hD hS (lv_sub hl [2, 3, 5, 6, 1, 0] rfl)
  have hB_24 : ∀ (y_1 : Int32) (y_2 : Int32) (y_3 : Int32) (z_0 : Int32) (S : CS) (H : Heap) (locs : List Loc) (ls : Array Slot), f_Tu_putEntry_24 K G y_1 y_2 y_3 z_0 S = some S' → va_P (dC, dI) classes (wV M Y G S) H → va_D A (wV M Y G S) → va_S A s.heap H locs → lv_has ls 9 [(0, .ref M.o_Tu), (1, .int y_1), (2, .int y_2), (3, .int y_3)] → W p l e ({ frames := 8, cells := 0, slots := 0, locals := 242 }) s m ([.ref M.o_Tu, .int p0, .int p1, .int p2] : List Value).toArray below meth c H locs 0 0 Q (F0 m 24 ls [.int z_0]) := by
    intro y_1 y_2 y_3 z_0 S H locs ls h hP hD hS hl
    rw [f_Tu_putEntry_24] at h
    refine lv_istore (lv' := [(4, .int z_0), (0, .ref M.o_Tu), (1, .int y_1), (2, .int y_2), (3, .int y_3)]) hx hb d_Tu_putEntry_24 hl (by decide) rfl (fun ls hl => ?_)
    refine lv_iload_n hx hb d_Tu_putEntry_26 rfl (lv_at hl 4 rfl) ?_
    refine lv_if_ne (tgt := 34) hx hb d_Tu_putEntry_27 (by decide) (fun c_4 => ?_) (fun c_4 => ?_)
    · have h := lf_f h c_4
      refine lv_iload_n hx hb d_Tu_putEntry_34 rfl (lv_at hl 4 rfl) ?_
      refine lv_iconst (v := 1) hx hb d_Tu_putEntry_35 (by decide) ?_
      refine lv_icmp_ne (tgt := 50) hx hb d_Tu_putEntry_36 (by decide) (fun c_5 => ?_) (fun c_5 => ?_)
      · have h := lf_f h c_5
        refine lv_iload hx hb d_Tu_putEntry_50 (lv_at hl 0 rfl) ?_
        refine lv_if_eq (tgt := 69) hx hb d_Tu_putEntry_52 (by decide) (fun c_6 => ?_) (fun c_6 => ?_)
        · have h := lf_t h c_6
          refine lv_iconst (v := (-1)) hx hb d_Tu_putEntry_69 (by decide) ?_
          exact hB_70 y_1 y_2 y_3 z_0 ((-1)) S _ _ _ h hP hD hS (lv_sub hl [1, 2, 3, 4, 0] rfl)
        · have h := lf_f h c_6
          refine lv_aload_n hx hb d_Tu_putEntry_55 rfl (lv_at hl 1 rfl) ?_
          refine va_get (D := (dC, dI)) (ci := 10) (v := .ref M.o_Tr) (C := R_Tu) (T := F_Tu) (N := 7) hx hb hts (fun w h => u_Vq_Tu w (i_Tu w h)) hown hK hP 8 rfl rfl 2 (by decide) (hts _ (u_Vq_Tu _ k_Tu_19)) (fun _ h9 => h9) rfl d_Tu_putEntry_56 ?_
          refine lv_iload_n hx hb d_Tu_putEntry_59 rfl (lv_at hl 3 rfl) ?_
          refine lv_iload_n hx hb d_Tu_putEntry_60 rfl (lv_at hl 4 rfl) ?_
          refine lv_iconst (v := 2) hx hb d_Tu_putEntry_61 (by decide) ?_
          refine lv_isub hx hb d_Tu_putEntry_62 ?_
          obtain ⟨r_7, S_7, hc_7, h⟩ := lf_cE h
          have hFc := lx_free hD hS hA
          refine va_calli (va_runV (As := [.int y_2, .int (y_3 - 2)]) (rest := []) ⟨hx, hb, hml, hown, hts⟩ (l_Tr_kid l dC dI X _ hc_7) (cwV 2 hts (gwV good_Vq (u_Vq_Tu _ k_Tu_80) (u_Vq_Tr _ k_Tr_54) (u_Vq_Tr _ k_Tr_55) (u_Vq_Tr _ k_Tr_0) (wcs (u_Vq_Tr _ k_Tr_56) (fun _ h => h))) rfl rfl rfl (by decide +kernel) ⟨Nat.le_of_ble_eq_true rfl, Nat.le_of_ble_eq_true rfl⟩) (pv_ofE (X.same _) (fun U z1 z2 => X.mono _ _ U hFc (hEw _ _ hS U z1 z2)) hP hK hD (va_recv hK hP (ci := 5) (q0 := 4) rfl rfl)) rfl rfl hl.1 rfl (lv_room (Nat.le_of_ble_eq_true rfl)) d_Tu_putEntry_63 ⟨by decide, by decide⟩) hS (fun q _ h => hFc q h) hFc (fun r_ u t H locs ht hvm hw hB hz1 hk1 hS => ?_)
          rw [hw]
          obtain ⟨hP, -, hD⟩ := hB
          rw [ht] at hP
          have hD := lx_dj hD hFc
          refine lv_goto (tgt := 70) hx hb d_Tu_putEntry_66 (by decide) ?_
          exact hB_70 y_1 y_2 y_3 z_0 r_7 S_7 _ _ _ h hP hD hS (lv_sub hl [1, 2, 3, 4, 0] rfl)
      · have h := lf_t h c_5
        refine lv_aload_n hx hb d_Tu_putEntry_39 rfl (lv_at hl 1 rfl) ?_
        refine va_get (D := (dC, dI)) (ci := 10) (v := .ref M.o_Tr) (C := R_Tu) (T := F_Tu) (N := 7) hx hb hts (fun w h => u_Vq_Tu w (i_Tu w h)) hown hK hP 8 rfl rfl 2 (by decide) (hts _ (u_Vq_Tu _ k_Tu_19)) (fun _ h9 => h9) rfl d_Tu_putEntry_40 ?_
        refine lv_iload_n hx hb d_Tu_putEntry_43 rfl (lv_at hl 3 rfl) ?_
        obtain ⟨r_8, S_8, hc_8, h⟩ := lf_cE h
        have hFc := lx_free hD hS hA
        refine va_calli (va_runV (As := [.int y_2]) (rest := []) ⟨hx, hb, hml, hown, hts⟩ (l_Tr_parentOf l dC dI X _ hc_8) (cwV 1 hts (gwV good_Vq (u_Vq_Tu _ k_Tu_79) (u_Vq_Tr _ k_Tr_51) (u_Vq_Tr _ k_Tr_52) (u_Vq_Tr _ k_Tr_0) (wcs (u_Vq_Tr _ k_Tr_53) (fun _ h => h))) rfl rfl rfl (by decide +kernel) ⟨Nat.le_of_ble_eq_true rfl, Nat.le_of_ble_eq_true rfl⟩) (pv_ofE (X.same _) (fun U z1 z2 => X.mono _ _ U hFc (hEw _ _ hS U z1 z2)) hP hK hD (va_recv hK hP (ci := 5) (q0 := 4) rfl rfl)) rfl rfl hl.1 rfl (lv_room (Nat.le_of_ble_eq_true rfl)) d_Tu_putEntry_44 ⟨by decide, by decide⟩) hS (fun q _ h => hFc q h) hFc (fun r_ u t H locs ht hvm hw hB hz1 hk1 hS => ?_)
        rw [hw]
        obtain ⟨hP, -, hD⟩ := hB
        rw [ht] at hP
        have hD := lx_dj hD hFc
        refine lv_goto (tgt := 70) hx hb d_Tu_putEntry_47 (by decide) ?_
        exact hB_70 y_1 y_2 y_3 z_0 r_8 S_8 _ _ _ h hP hD hS (lv_sub hl [1, 2, 3, 4, 0] rfl)
    · have h := lf_t h c_4
      refine lv_iload_n hx hb d_Tu_putEntry_30 rfl (lv_at hl 3 rfl) ?_
      refine lv_goto (tgt := 70) hx hb d_Tu_putEntry_31 (by decide) ?_
      exact hB_70 y_1 y_2 y_3 z_0 y_2 S _ _ _ h hP hD hS (lv_sub hl [1, 2, 3, 4, 0] rfl)
  have hB_23 : ∀ (y_1 : Int32) (y_2 : Int32) (y_3 : Int32) (S : CS) (H : Heap) (locs : List Loc) (ls : Array Slot), f_Tu_putEntry_23 K G y_1 y_2 y_3 S = some S' → va_P (dC, dI) classes (wV M Y G S) H → va_D A (wV M Y G S) → va_S A s.heap H locs → lv_has ls 9 [(0, .ref M.o_Tu), (1, .int y_1), (2, .int y_2), (3, .int y_3)] → W p l e ({ frames := 8, cells := 0, slots := 0, locals := 242 }) s m ([.ref M.o_Tu, .int p0, .int p1, .int p2] : List Value).toArray below meth c H locs 0 0 Q (F0 m 23 ls []) := by
    intro y_1 y_2 y_3 S H locs ls h hP hD hS hl
    rw [f_Tu_putEntry_23] at h
    refine lv_iconst (v := 0) hx hb d_Tu_putEntry_23 (by decide) ?_
    exact hB_24 y_1 y_2 y_3 0 S _ _ _ h hP hD hS (lv_sub hl [0, 1, 2, 3] rfl)
  rw [f_Tu_putEntry] at h
  refine lv_iload_n hx hb d_Tu_putEntry_0 rfl (lv_at hl 3 rfl) ?_
  refine lv_iconst (v := 2) hx hb d_Tu_putEntry_1 (by decide) ?_
  refine lv_icmp_lt (tgt := 23) hx hb d_Tu_putEntry_2 (by decide) (fun c_1 => ?_) (fun c_1 => ?_)
  · have h := lf_t h c_1
    exact hB_23 p0 p1 p2 S _ _ _ h hP hD hS (lv_sub hl [0, 1, 2, 3] rfl)
  · have h := lf_f h c_1
    refine lv_iload_n hx hb d_Tu_putEntry_5 rfl (lv_at hl 3 rfl) ?_
    refine lv_iconst (v := 2) hx hb d_Tu_putEntry_6 (by decide) ?_
    refine lv_isub hx hb d_Tu_putEntry_7 ?_
    refine lv_aload_n hx hb d_Tu_putEntry_8 rfl (lv_at hl 0 rfl) ?_
    refine va_get (D := (dC, dI)) (ci := 10) (v := .ref M.o_Tr) (C := R_Tu) (T := F_Tu) (N := 7) hx hb hts (fun w h => u_Vq_Tu w (i_Tu w h)) hown hK hP 8 rfl rfl 2 (by decide) (hts _ (u_Vq_Tu _ k_Tu_19)) (fun _ h9 => h9) rfl d_Tu_putEntry_9 ?_
    refine lv_iload_n hx hb d_Tu_putEntry_12 rfl (lv_at hl 2 rfl) ?_
    obtain ⟨r_2, S_2, hc_2, h⟩ := lf_cE h
    have hFc := lx_free hD hS hA
    refine va_calli (va_runV (As := [.int p1]) (rest := [.int (p2 - 2)]) ⟨hx, hb, hml, hown, hts⟩ (l_Tr_countIn l dC dI X _ hc_2) (cwV 1 hts (gwV good_Vq (u_Vq_Tu _ k_Tu_78) (u_Vq_Tr _ k_Tr_91) (u_Vq_Tr _ k_Tr_92) (u_Vq_Tr _ k_Tr_0) (wcs (u_Vq_Tr _ k_Tr_93) (fun _ h => h))) rfl rfl rfl (by decide +kernel) ⟨Nat.le_of_ble_eq_true rfl, Nat.le_of_ble_eq_true rfl⟩) (pv_ofE (X.same _) (fun U z1 z2 => X.mono _ _ U hFc (hEw _ _ hS U z1 z2)) hP hK hD (va_recv hK hP (ci := 5) (q0 := 4) rfl rfl)) rfl rfl hl.1 rfl (lv_room (Nat.le_of_ble_eq_true rfl)) d_Tu_putEntry_13 ⟨by decide, by decide⟩) hS (fun q _ h => hFc q h) hFc (fun r_ u t H locs ht hvm hw hB hz1 hk1 hS => ?_)
    rw [hw]
    obtain ⟨hP, -, hD⟩ := hB
    rw [ht] at hP
    have hD := lx_dj hD hFc
    refine lv_icmp_ge (tgt := 23) hx hb d_Tu_putEntry_16 (by decide) (fun c_3 => ?_) (fun c_3 => ?_)
    · have h := lf_t h c_3
      exact hB_23 p0 p1 p2 S_2 _ _ _ h hP hD hS (lv_sub hl [0, 1, 2, 3] rfl)
    · have h := lf_f h c_3
      refine lv_iconst (v := 1) hx hb d_Tu_putEntry_19 (by decide) ?_
      refine lv_goto (tgt := 24) hx hb d_Tu_putEntry_20 (by decide) ?_
      exact hB_24 p0 p1 p2 1 S_2 _ _ _ h hP hD hS (lv_sub hl [0, 1, 2, 3] rfl)
set_option maxHeartbeats 4000000 in
set_option maxRecDepth 100000 in
theorem l_Tu_buildDirectory (l : Launch) (dC : Nat → ClassId) (dI : Nat → Nat → Nat) {K : Nat} {M : CA} {E : (Nat → Prop) → State → Prop} (X : ly_X l dC dI K M E) (sz : Nat) {Y : CT} {G : CG} {S S' : CS} {p0 : Int32} (h : f_Tu_buildDirectory K G S p0 = some S') : Met l y_Tu_buildDirectory (.code y_Tu_buildDirectory cb_Tu_buildDirectory 7 none :: V_Vq) ({ frames := 9, cells := 0, slots := 0, locals := 270 }) (va_Pc [.ref M.o_Tu, .int p0] (fun U => U.heap.size = sz ∧ at_ (dC, dI) (fun _ => True) (wV M Y G S) (tV M) U ∧ E (va_A (wV M Y G S) sz) U)) (va_Qv (fun (u : Unit) => True) (fun (u : Unit) t => at_ (dC, dI) (va_A (wV M Y G S) sz) (wV M Y G S') (tV M) t) (va_A (wV M Y G S) sz)) 0 0 (va_A (wV M Y G S) sz) := by
  refine Met.ofW (cc := cb_Tu_buildDirectory) (maxL := 7) (ret := none) (by decide) rfl ?_
  intro p e s m args below meth c s₁ B hml hv
  obtain ⟨rfl, hsz, ⟨hP, hK, hD0⟩, hE⟩ := hv
  have hx := B.exec
  have hb := B.bytes
  have hr := B.returns
  have hts0 := atoms_spec (ws := .code y_Tu_buildDirectory cb_Tu_buildDirectory 7 none :: V_Vq) B.pre
  have hts : ∀ w ∈ V_Vq, w.before ([.ref M.o_Tu, .int p0] : List Value).toArray s = true := fun w h => hts0 w (List.mem_cons_of_mem _ h)
  have hown : s.vm.findClass R_Tu = some m.cls := findClass_of_methodNamed B.named
  subst hsz
  have hD := hD0.self (sz := s.heap.size)
  generalize hAe : va_A (wV M Y G S) s.heap.size = A at hD hE ⊢
  have hA : ∀ q : Nat, s.heap.size ≤ q → A q := fun q h => by rw [← hAe]; exact Or.inr h
  have hS : va_S A s.heap s.heap [] := va_S.rf
  have hP : va_P (dC, dI) classes (wV M Y G S) s.heap := hP
  have hK : va_K (dC, dI) classes (tV M) s := hK
  have hEw : ∀ (H : Heap) (locs : List Loc), va_S A s.heap H locs → ∀ U : State, U.heap = H → s.WarmedH U.vm → E A U := fun H locs hS U hU hW => X.kept A s U H locs hE hS hU hW
  have hl := lv_entry ([.ref M.o_Tu, .int p0]) (n := 7) (Nat.le_of_ble_eq_true rfl)
  rw [lg_entry_eq]
  generalize (lg_sl ([.ref M.o_Tu, .int p0]) ++ List.replicate (7 - (lg_sl ([.ref M.o_Tu, .int p0])).length) Slot.unset).toArray = ls at hl ⊢
  have hl : lv_has ls 7 [(0, .ref M.o_Tu), (1, .int p0)] := hl
  refine qabs (fun Q hQ => ?_)
  have hB_94 : ∀ (rec_21 : Int32 → Int32 → Int32 → Int32 → Int32 → CS → Option (CS)) (hr_21 : ∀ (y_1 : Int32) (y_2 : Int32) (y_3 : Int32) (y_4 : Int32) (y_5 : Int32) (S : CS) (H : Heap) (locs : List Loc) (ls : Array Slot), rec_21 y_1 y_2 y_3 y_4 y_5 S = some S' → va_P (dC, dI) classes (wV M Y G S) H → va_D A (wV M Y G S) → va_S A s.heap H locs → lv_has ls 7 [(0, .ref M.o_Tu), (1, .int y_1), (2, .int y_2), (3, .int y_3), (4, .int y_4), (5, .int y_5)] → W p l e ({ frames := 9, cells := 0, slots := 0, locals := 270 }) s m ([.ref M.o_Tu, .int p0] : List Value).toArray below meth c H locs 0 0 Q (F0 m 21 ls [])), ∀ (y_1 : Int32) (y_2 : Int32) (y_3 : Int32) (y_5 : Int32) (y_6 : Int32) (S : CS) (H : Heap) (locs : List Loc) (ls : Array Slot), f_Tu_buildDirectory_94 K G rec_21 y_1 y_2 y_3 y_5 y_6 S = some S' → va_P (dC, dI) classes (wV M Y G S) H → va_D A (wV M Y G S) → va_S A s.heap H locs → lv_has ls 7 [(0, .ref M.o_Tu), (1, .int y_1), (2, .int y_2), (3, .int y_3), (5, .int y_5), (6, .int y_6)] → W p l e ({ frames := 9, cells := 0, slots := 0, locals := 270 }) s m ([.ref M.o_Tu, .int p0] : List Value).toArray below meth c H locs 0 0 Q (F0 m 94 ls []) := by
    intro rec_21 hr_21 y_1 y_2 y_3 y_5 y_6 S H locs ls h hP hD hS hl
    rw [f_Tu_buildDirectory_94] at h
    refine lv_aload_n hx hb d_Tu_buildDirectory_94 rfl (lv_at hl 0 rfl) ?_
    refine lv_iload_n hx hb d_Tu_buildDirectory_95 rfl (lv_at hl 3 rfl) ?_
    refine lv_iload_n hx hb d_Tu_buildDirectory_96 rfl (lv_at hl 1 rfl) ?_
    refine lv_iload hx hb d_Tu_buildDirectory_97 (lv_at hl 4 rfl) ?_
    obtain ⟨S_16, hc_16, h⟩ := lf_bE h
    have hFc := lx_free hD hS hA
    refine va_callv (va_runV (As := [.int y_3, .int y_1, .int y_5]) (rest := []) ⟨hx, hb, hml, hown, hts⟩ (l_Tu_putEntry l dC dI X _ hc_16) (cwV 3 hts (gwV good_Vq (u_Vq_Tu _ k_Tu_75) (u_Vq_Tu _ k_Tu_76) (u_Vq_Tu _ k_Tu_170) (u_Vq_Tu _ k_Tu_0) (wcs (u_Vq_Tu _ k_Tu_77) (fun _ h => h))) rfl rfl rfl (by decide +kernel) ⟨Nat.le_of_ble_eq_true rfl, Nat.le_of_ble_eq_true rfl⟩) (pv_ofE (X.same _) (fun U z1 z2 => X.mono _ _ U hFc (hEw _ _ hS U z1 z2)) hP hK hD (va_recv hK hP (ci := 10) (q0 := 8) rfl rfl)) rfl rfl hl.1 rfl (lv_room (Nat.le_of_ble_eq_true rfl)) d_Tu_buildDirectory_99 ⟨by decide, by decide⟩) hS (fun q _ h => hFc q h) hFc (fun u t H locs ht hvm hw hB hz1 hk1 hS => ?_)
    obtain ⟨hP, -, hD⟩ := hB
    rw [ht] at hP
    have hD := lx_dj hD hFc
    refine lv_aload_n hx hb d_Tu_buildDirectory_102 rfl (lv_at hl 0 rfl) ?_
    refine lv_iload_n hx hb d_Tu_buildDirectory_103 rfl (lv_at hl 3 rfl) ?_
    refine lv_iconst (v := 4) hx hb d_Tu_buildDirectory_104 (by decide) ?_
    refine lv_iadd hx hb d_Tu_buildDirectory_105 ?_
    refine lv_iload hx hb d_Tu_buildDirectory_106 (lv_at hl 5 rfl) ?_
    obtain ⟨S_17, hc_17, h⟩ := lf_bE h
    have hFc := lx_free hD hS hA
    refine va_callv (va_runV (As := [.int (y_3 + 4), .int y_6]) (rest := []) ⟨hx, hb, hml, hown, hts⟩ (l_Tu_putTwo l dC dI X _ hc_17) (cwV 2 hts (gwV good_Vq (u_Vq_Tu _ k_Tu_69) (u_Vq_Tu _ k_Tu_70) (u_Vq_Tu _ k_Tu_167) (u_Vq_Tu _ k_Tu_0) (wcs (u_Vq_Tu _ k_Tu_71) (fun _ h => h))) rfl rfl rfl (by decide +kernel) ⟨Nat.le_of_ble_eq_true rfl, Nat.le_of_ble_eq_true rfl⟩) (pv_ofE (X.same _) (fun U z1 z2 => X.mono _ _ U hFc (hEw _ _ hS U z1 z2)) hP hK hD (va_recv hK hP (ci := 10) (q0 := 8) rfl rfl)) rfl rfl hl.1 rfl (lv_room (Nat.le_of_ble_eq_true rfl)) d_Tu_buildDirectory_108 ⟨by decide, by decide⟩) hS (fun q _ h => hFc q h) hFc (fun u t H locs ht hvm hw hB hz1 hk1 hS => ?_)
    obtain ⟨hP, -, hD⟩ := hB
    rw [ht] at hP
    have hD := lx_dj hD hFc
    refine lv_iload_n hx hb d_Tu_buildDirectory_111 rfl (lv_at hl 3 rfl) ?_
    refine lv_istore (lv' := [(4, .int y_3), (0, .ref M.o_Tu), (1, .int y_1), (2, .int y_2), (3, .int y_3), (5, .int y_5), (6, .int y_6)]) hx hb d_Tu_buildDirectory_112 hl (by decide) rfl (fun ls hl => ?_)
    refine lv_iload_n hx hb d_Tu_buildDirectory_114 rfl (lv_at hl 4 rfl) ?_
    refine lv_iload hx hb d_Tu_buildDirectory_115 (lv_at hl 6 rfl) ?_
    refine lv_iadd hx hb d_Tu_buildDirectory_117 ?_
    refine lv_topi (fun x_18 ex_18 => ?_)
    have h := lf_lE h ex_18
    refine lv_istore_n (lv' := [(3, .int x_18), (4, .int y_3), (0, .ref M.o_Tu), (1, .int y_1), (2, .int y_2), (5, .int y_5), (6, .int y_6)]) hx hb d_Tu_buildDirectory_118 rfl hl (by decide) rfl (fun ls hl => ?_)
    obtain ⟨x_19, ex_19, h⟩ := lf_lX h
    refine lv_iinc (v := x_19) (lv' := [(5, .int x_19), (3, .int x_18), (4, .int y_3), (0, .ref M.o_Tu), (1, .int y_1), (2, .int y_2), (6, .int y_6)]) hx hb d_Tu_buildDirectory_119 hl (k := 5) rfl (by rw [ex_19]; rfl) (by decide) rfl (fun ls hl => ?_)
    refine lv_goto (tgt := 21) hx hb d_Tu_buildDirectory_122 (by decide) ?_
    exact hr_21 y_1 y_2 x_18 y_3 x_19 S_17 _ _ _ h hP hD hS (lv_sub hl [3, 4, 5, 1, 2, 0] rfl)
  have hB_21 : ∀ (k : Nat), ∀ (y_1 : Int32) (y_2 : Int32) (y_3 : Int32) (y_4 : Int32) (y_5 : Int32) (S : CS) (H : Heap) (locs : List Loc) (ls : Array Slot), f_Tu_buildDirectory_21 K G k y_1 y_2 y_3 y_4 y_5 S = some S' → va_P (dC, dI) classes (wV M Y G S) H → va_D A (wV M Y G S) → va_S A s.heap H locs → lv_has ls 7 [(0, .ref M.o_Tu), (1, .int y_1), (2, .int y_2), (3, .int y_3), (4, .int y_4), (5, .int y_5)] → W p l e ({ frames := 9, cells := 0, slots := 0, locals := 270 }) s m ([.ref M.o_Tu, .int p0] : List Value).toArray below meth c H locs 0 0 Q (F0 m 21 ls []) := by
    intro k
    induction k with
    | zero => intro y_1 y_2 y_3 y_4 y_5 S H locs ls h; exact lf_no h
    | succ k hr_21 =>
      intro y_1 y_2 y_3 y_4 y_5 S H locs ls h hP hD hS hl
      rw [f_Tu_buildDirectory_21] at h
      refine lv_iload hx hb d_Tu_buildDirectory_21 (lv_at hl 5 rfl) ?_
      refine lv_aload_n hx hb d_Tu_buildDirectory_23 rfl (lv_at hl 0 rfl) ?_
      refine va_get (D := (dC, dI)) (ci := 10) (v := .ref M.o_Pl) (C := R_Tu) (T := F_Tu) (N := 7) hx hb hts (fun w h => u_Vq_Tu w (i_Tu w h)) hown hK hP 8 rfl rfl 4 (by decide) (hts _ (u_Vq_Tu _ k_Tu_21)) (fun _ h9 => h9) rfl d_Tu_buildDirectory_24 ?_
      refine lv_iload_n hx hb d_Tu_buildDirectory_27 rfl (lv_at hl 1 rfl) ?_
      obtain ⟨r_3, S_3, hc_3, h⟩ := lf_cE h
      have hFc := lx_free hD hS hA
      refine va_calli (va_runV (As := [.int y_1]) (rest := [.int y_5]) ⟨hx, hb, hml, hown, hts⟩ (l_Pl_entriesOf l dC dI X _ hc_3) (cwV 1 hts (gwV good_Vq (u_Vq_Tu _ k_Tu_66) (u_Vq_Pl _ k_Pl_117) (u_Vq_Pl _ k_Pl_118) (u_Vq_Pl _ k_Pl_0) (wcs (u_Vq_Pl _ k_Pl_119) (fun _ h => h))) rfl rfl rfl (by decide +kernel) ⟨Nat.le_of_ble_eq_true rfl, Nat.le_of_ble_eq_true rfl⟩) (pv_ofE (X.same _) (fun U z1 z2 => X.mono _ _ U hFc (hEw _ _ hS U z1 z2)) hP hK hD (va_recv hK hP (ci := 9) (q0 := 7) rfl rfl)) rfl rfl hl.1 rfl (lv_room (Nat.le_of_ble_eq_true rfl)) d_Tu_buildDirectory_28 ⟨by decide, by decide⟩) hS (fun q _ h => hFc q h) hFc (fun r_ u t H locs ht hvm hw hB hz1 hk1 hS => ?_)
      rw [hw]
      obtain ⟨hP, -, hD⟩ := hB
      rw [ht] at hP
      have hD := lx_dj hD hFc
      refine lv_icmp_ge (tgt := 125) hx hb d_Tu_buildDirectory_31 (by decide) (fun c_4 => ?_) (fun c_4 => ?_)
      · have h := lf_t h c_4
        refine lv_aload_n hx hb d_Tu_buildDirectory_125 rfl (lv_at hl 0 rfl) ?_
        refine lv_iload hx hb d_Tu_buildDirectory_126 (lv_at hl 4 rfl) ?_
        refine lv_iconst (v := 4) hx hb d_Tu_buildDirectory_128 (by decide) ?_
        refine lv_iadd hx hb d_Tu_buildDirectory_129 ?_
        refine lv_sipush (v := 1024) hx hb d_Tu_buildDirectory_130 (by decide) ?_
        refine lv_iload hx hb d_Tu_buildDirectory_133 (lv_at hl 4 rfl) ?_
        refine lv_isub hx hb d_Tu_buildDirectory_135 ?_
        obtain ⟨S_5, hc_5, h⟩ := lf_bE h
        have hFc := lx_free hD hS hA
        refine va_callv (va_runV (As := [.int (y_4 + 4), .int (1024 - y_4)]) (rest := []) ⟨hx, hb, hml, hown, hts⟩ (l_Tu_putTwo l dC dI X _ hc_5) (cwV 2 hts (gwV good_Vq (u_Vq_Tu _ k_Tu_69) (u_Vq_Tu _ k_Tu_70) (u_Vq_Tu _ k_Tu_167) (u_Vq_Tu _ k_Tu_0) (wcs (u_Vq_Tu _ k_Tu_71) (fun _ h => h))) rfl rfl rfl (by decide +kernel) ⟨Nat.le_of_ble_eq_true rfl, Nat.le_of_ble_eq_true rfl⟩) (pv_ofE (X.same _) (fun U z1 z2 => X.mono _ _ U hFc (hEw _ _ hS U z1 z2)) hP hK hD (va_recv hK hP (ci := 10) (q0 := 8) rfl rfl)) rfl rfl hl.1 rfl (lv_room (Nat.le_of_ble_eq_true rfl)) d_Tu_buildDirectory_136 ⟨by decide, by decide⟩) hS (fun q _ h => hFc q h) hFc (fun u t H locs ht hvm hw hB hz1 hk1 hS => ?_)
        obtain ⟨hP, -, hD⟩ := hB
        rw [ht] at hP
        have hD := lx_dj hD hFc
        refine lv_aload_n hx hb d_Tu_buildDirectory_139 rfl (lv_at hl 0 rfl) ?_
        refine lv_aload_n hx hb d_Tu_buildDirectory_140 rfl (lv_at hl 0 rfl) ?_
        refine va_get (D := (dC, dI)) (ci := 10) (v := .ref M.o_Pl) (C := R_Tu) (T := F_Tu) (N := 7) hx hb hts (fun w h => u_Vq_Tu w (i_Tu w h)) hown hK hP 8 rfl rfl 4 (by decide) (hts _ (u_Vq_Tu _ k_Tu_21)) (fun _ h9 => h9) rfl d_Tu_buildDirectory_141 ?_
        refine lv_iload_n hx hb d_Tu_buildDirectory_144 rfl (lv_at hl 2 rfl) ?_
        obtain ⟨r_6, S_6, hc_6, h⟩ := lf_cE h
        have hFc := lx_free hD hS hA
        refine va_calli (va_runV (As := [.int y_2]) (rest := [.ref M.o_Tu]) ⟨hx, hb, hml, hown, hts⟩ (l_Pl_room l dC dI X _ hc_6) (cwV 1 hts (gwV good_Vq (u_Vq_Tu _ k_Tu_37) (u_Vq_Pl _ k_Pl_96) (u_Vq_Pl _ k_Pl_97) (u_Vq_Pl _ k_Pl_0) (wcs (u_Vq_Pl _ k_Pl_98) (fun _ h => h))) rfl rfl rfl (by decide +kernel) ⟨Nat.le_of_ble_eq_true rfl, Nat.le_of_ble_eq_true rfl⟩) (pv_ofE (X.same _) (fun U z1 z2 => X.mono _ _ U hFc (hEw _ _ hS U z1 z2)) hP hK hD (va_recv hK hP (ci := 9) (q0 := 7) rfl rfl)) rfl rfl hl.1 rfl (lv_room (Nat.le_of_ble_eq_true rfl)) d_Tu_buildDirectory_145 ⟨by decide, by decide⟩) hS (fun q _ h => hFc q h) hFc (fun r_ u t H locs ht hvm hw hB hz1 hk1 hS => ?_)
        rw [hw]
        obtain ⟨hP, -, hD⟩ := hB
        rw [ht] at hP
        have hD := lx_dj hD hFc
        obtain ⟨S_7, hc_7, h⟩ := lf_bE h
        have hFc := lx_free hD hS hA
        refine va_callv (va_runV (As := [.int r_6]) (rest := []) ⟨hx, hb, hml, hown, hts⟩ (l_Tu_storeBlock l dC dI X _ hc_7) (cwV 1 hts (gwV good_Vq (u_Vq_Tu _ k_Tu_72) (u_Vq_Tu _ k_Tu_73) (u_Vq_Tu _ k_Tu_165) (u_Vq_Tu _ k_Tu_0) (wcs (u_Vq_Tu _ k_Tu_74) (fun _ h => h))) rfl rfl rfl (by decide +kernel) ⟨Nat.le_of_ble_eq_true rfl, Nat.le_of_ble_eq_true rfl⟩) (pv_ofE (X.same _) (fun U z1 z2 => X.mono _ _ U hFc (hEw _ _ hS U z1 z2)) hP hK hD (va_recv hK hP (ci := 10) (q0 := 8) rfl rfl)) rfl rfl hl.1 rfl (lv_room (Nat.le_of_ble_eq_true rfl)) d_Tu_buildDirectory_148 ⟨by decide, by decide⟩) hS (fun q _ h => hFc q h) hFc (fun u t H locs ht hvm hw hB hz1 hk1 hS => ?_)
        obtain ⟨hP, -, hD⟩ := hB
        rw [ht] at hP
        have hD := lx_dj hD hFc
        rw [hQ]
        have e2 : S_7 = S' := Option.some.inj h
        have hP := ly_newP e2.symm hP
        have hD := ly_newD e2.symm hD
        exact W.vret hx hb hr (fun t ht hW => ⟨⟨(), rfl, trivial, by rw [ht]; exact hP, va_K.moved hW.alike hK, hD⟩, hS.F ht⟩) hS.2.2 d_Tu_buildDirectory_151
      · have h := lf_f h c_4
        refine lv_aload_n hx hb d_Tu_buildDirectory_34 rfl (lv_at hl 0 rfl) ?_
        refine va_get (D := (dC, dI)) (ci := 10) (v := .ref M.o_Pl) (C := R_Tu) (T := F_Tu) (N := 7) hx hb hts (fun w h => u_Vq_Tu w (i_Tu w h)) hown hK hP 8 rfl rfl 4 (by decide) (hts _ (u_Vq_Tu _ k_Tu_21)) (fun _ h9 => h9) rfl d_Tu_buildDirectory_35 ?_
        refine lv_iload_n hx hb d_Tu_buildDirectory_38 rfl (lv_at hl 1 rfl) ?_
        refine lv_iload hx hb d_Tu_buildDirectory_39 (lv_at hl 5 rfl) ?_
        obtain ⟨r_8, S_8, hc_8, h⟩ := lf_cE h
        have hFc := lx_free hD hS hA
        refine va_calli (va_runV (As := [.int y_1, .int y_5]) (rest := []) ⟨hx, hb, hml, hown, hts⟩ (l_Pl_nameSize l dC dI X _ hc_8) (cwV 2 hts (gwV good_Vq (u_Vq_Tu _ k_Tu_67) (u_Vq_Pl _ k_Pl_122) (u_Vq_Pl _ k_Pl_123) (u_Vq_Pl _ k_Pl_0) (wcs (u_Vq_Pl _ k_Pl_124) (fun _ h => h))) rfl rfl rfl (by decide +kernel) ⟨Nat.le_of_ble_eq_true rfl, Nat.le_of_ble_eq_true rfl⟩) (pv_ofE (X.same _) (fun U z1 z2 => X.mono _ _ U hFc (hEw _ _ hS U z1 z2)) hP hK hD (va_recv hK hP (ci := 9) (q0 := 7) rfl rfl)) rfl rfl hl.1 rfl (lv_room (Nat.le_of_ble_eq_true rfl)) d_Tu_buildDirectory_41 ⟨by decide, by decide⟩) hS (fun q _ h => hFc q h) hFc (fun r_ u t H locs ht hvm hw hB hz1 hk1 hS => ?_)
        rw [hw]
        obtain ⟨hP, -, hD⟩ := hB
        rw [ht] at hP
        have hD := lx_dj hD hFc
        obtain ⟨r_9, hc_9, h⟩ := lf_bE h
        have hFc := lx_free0 hS hA
        refine va_calli (va_runS (As := [.int r_8]) (rest := []) ⟨hx, hb, hml, hown, hts⟩ (l_Pl_entryLength l dC dI  _ hc_9) (va_cwS 1 hts (gwS good_Vq (u_Vq_Tu _ k_Tu_68) (u_Vq_Pl _ k_Pl_128) (u_Vq_Pl _ k_Pl_0) (wcs (u_Vq_Pl _ k_Pl_129) (fun _ h => h))) rfl rfl rfl (by decide +kernel) ⟨Nat.le_of_ble_eq_true rfl, Nat.le_of_ble_eq_true rfl⟩) (ps_of (W := []) (tys := []) (hP.sub (ws' := []) [] rfl) (hK.sub [] rfl) (hD.sub (ws' := []) [] (by decide) rfl)) rfl rfl hl.1 rfl (lv_room (Nat.le_of_ble_eq_true rfl)) d_Tu_buildDirectory_44 ⟨by decide, by decide⟩) hS (fun q _ h => hFc q h) hFc (fun r_ u t H locs ht hvm hw hB hz1 hk1 hS => ?_)
        rw [hw]
        have hP := lx_stat (A := A) hP hk1
        refine lv_istore (lv' := [(6, .int r_9), (0, .ref M.o_Tu), (1, .int y_1), (2, .int y_2), (3, .int y_3), (4, .int y_4), (5, .int y_5)]) hx hb d_Tu_buildDirectory_47 hl (by decide) rfl (fun ls hl => ?_)
        refine lv_iload_n hx hb d_Tu_buildDirectory_49 rfl (lv_at hl 4 rfl) ?_
        refine lv_iload hx hb d_Tu_buildDirectory_50 (lv_at hl 0 rfl) ?_
        refine lv_iadd hx hb d_Tu_buildDirectory_52 ?_
        refine lv_sipush (v := 1024) hx hb d_Tu_buildDirectory_53 (by decide) ?_
        refine lv_icmp_le (tgt := 94) hx hb d_Tu_buildDirectory_56 (by decide) (fun c_10 => ?_) (fun c_10 => ?_)
        · have h := lf_t h c_10
          exact hB_94 _ hr_21 y_1 y_2 y_3 y_5 r_9 S_8 _ _ _ h hP hD hS (lv_sub hl [1, 2, 3, 4, 6, 0] rfl)
        · have h := lf_f h c_10
          refine lv_aload_n hx hb d_Tu_buildDirectory_59 rfl (lv_at hl 1 rfl) ?_
          refine lv_iload hx hb d_Tu_buildDirectory_60 (lv_at hl 5 rfl) ?_
          refine lv_iconst (v := 4) hx hb d_Tu_buildDirectory_62 (by decide) ?_
          refine lv_iadd hx hb d_Tu_buildDirectory_63 ?_
          refine lv_sipush (v := 1024) hx hb d_Tu_buildDirectory_64 (by decide) ?_
          refine lv_iload hx hb d_Tu_buildDirectory_67 (lv_at hl 5 rfl) ?_
          refine lv_isub hx hb d_Tu_buildDirectory_69 ?_
          obtain ⟨S_11, hc_11, h⟩ := lf_bE h
          have hFc := lx_free hD hS hA
          refine va_callv (va_runV (As := [.int (y_4 + 4), .int (1024 - y_4)]) (rest := []) ⟨hx, hb, hml, hown, hts⟩ (l_Tu_putTwo l dC dI X _ hc_11) (cwV 2 hts (gwV good_Vq (u_Vq_Tu _ k_Tu_69) (u_Vq_Tu _ k_Tu_70) (u_Vq_Tu _ k_Tu_167) (u_Vq_Tu _ k_Tu_0) (wcs (u_Vq_Tu _ k_Tu_71) (fun _ h => h))) rfl rfl rfl (by decide +kernel) ⟨Nat.le_of_ble_eq_true rfl, Nat.le_of_ble_eq_true rfl⟩) (pv_ofE (X.same _) (fun U z1 z2 => X.mono _ _ U hFc (hEw _ _ hS U z1 z2)) hP hK hD (va_recv hK hP (ci := 10) (q0 := 8) rfl rfl)) rfl rfl hl.1 rfl (lv_room (Nat.le_of_ble_eq_true rfl)) d_Tu_buildDirectory_70 ⟨by decide, by decide⟩) hS (fun q _ h => hFc q h) hFc (fun u t H locs ht hvm hw hB hz1 hk1 hS => ?_)
          obtain ⟨hP, -, hD⟩ := hB
          rw [ht] at hP
          have hD := lx_dj hD hFc
          refine lv_aload_n hx hb d_Tu_buildDirectory_73 rfl (lv_at hl 1 rfl) ?_
          refine lv_aload_n hx hb d_Tu_buildDirectory_74 rfl (lv_at hl 1 rfl) ?_
          refine va_get (D := (dC, dI)) (ci := 10) (v := .ref M.o_Pl) (C := R_Tu) (T := F_Tu) (N := 7) hx hb hts (fun w h => u_Vq_Tu w (i_Tu w h)) hown hK hP 8 rfl rfl 4 (by decide) (hts _ (u_Vq_Tu _ k_Tu_21)) (fun _ h9 => h9) rfl d_Tu_buildDirectory_75 ?_
          refine lv_iload_n hx hb d_Tu_buildDirectory_78 rfl (lv_at hl 3 rfl) ?_
          obtain ⟨r_12, S_12, hc_12, h⟩ := lf_cE h
          have hFc := lx_free hD hS hA
          refine va_calli (va_runV (As := [.int y_2]) (rest := [.ref M.o_Tu]) ⟨hx, hb, hml, hown, hts⟩ (l_Pl_room l dC dI X _ hc_12) (cwV 1 hts (gwV good_Vq (u_Vq_Tu _ k_Tu_37) (u_Vq_Pl _ k_Pl_96) (u_Vq_Pl _ k_Pl_97) (u_Vq_Pl _ k_Pl_0) (wcs (u_Vq_Pl _ k_Pl_98) (fun _ h => h))) rfl rfl rfl (by decide +kernel) ⟨Nat.le_of_ble_eq_true rfl, Nat.le_of_ble_eq_true rfl⟩) (pv_ofE (X.same _) (fun U z1 z2 => X.mono _ _ U hFc (hEw _ _ hS U z1 z2)) hP hK hD (va_recv hK hP (ci := 9) (q0 := 7) rfl rfl)) rfl rfl hl.1 rfl (lv_room (Nat.le_of_ble_eq_true rfl)) d_Tu_buildDirectory_79 ⟨by decide, by decide⟩) hS (fun q _ h => hFc q h) hFc (fun r_ u t H locs ht hvm hw hB hz1 hk1 hS => ?_)
          rw [hw]
          obtain ⟨hP, -, hD⟩ := hB
          rw [ht] at hP
          have hD := lx_dj hD hFc
          obtain ⟨S_13, hc_13, h⟩ := lf_bE h
          have hFc := lx_free hD hS hA
          refine va_callv (va_runV (As := [.int r_12]) (rest := []) ⟨hx, hb, hml, hown, hts⟩ (l_Tu_storeBlock l dC dI X _ hc_13) (cwV 1 hts (gwV good_Vq (u_Vq_Tu _ k_Tu_72) (u_Vq_Tu _ k_Tu_73) (u_Vq_Tu _ k_Tu_165) (u_Vq_Tu _ k_Tu_0) (wcs (u_Vq_Tu _ k_Tu_74) (fun _ h => h))) rfl rfl rfl (by decide +kernel) ⟨Nat.le_of_ble_eq_true rfl, Nat.le_of_ble_eq_true rfl⟩) (pv_ofE (X.same _) (fun U z1 z2 => X.mono _ _ U hFc (hEw _ _ hS U z1 z2)) hP hK hD (va_recv hK hP (ci := 10) (q0 := 8) rfl rfl)) rfl rfl hl.1 rfl (lv_room (Nat.le_of_ble_eq_true rfl)) d_Tu_buildDirectory_82 ⟨by decide, by decide⟩) hS (fun q _ h => hFc q h) hFc (fun u t H locs ht hvm hw hB hz1 hk1 hS => ?_)
          obtain ⟨hP, -, hD⟩ := hB
          rw [ht] at hP
          have hD := lx_dj hD hFc
          refine lv_aload_n hx hb d_Tu_buildDirectory_85 rfl (lv_at hl 1 rfl) ?_
          obtain ⟨S_14, hc_14, h⟩ := lf_bE h
          have hFc := lx_free hD hS hA
          refine va_callv (va_runV (As := []) (rest := []) ⟨hx, hb, hml, hown, hts⟩ (l_Tu_empty l dC dI X _ hc_14) (cwV 0 hts (gwV good_Vq (u_Vq_Tu _ k_Tu_57) (u_Vq_Tu _ k_Tu_58) (u_Vq_Tu _ k_Tu_164) (u_Vq_Tu _ k_Tu_0) (wcs (u_Vq_Tu _ k_Tu_59) (fun _ h => h))) rfl rfl rfl (by decide +kernel) ⟨Nat.le_of_ble_eq_true rfl, Nat.le_of_ble_eq_true rfl⟩) (pv_ofE (X.same _) (fun U z1 z2 => X.mono _ _ U hFc (hEw _ _ hS U z1 z2)) hP hK hD (va_recv hK hP (ci := 10) (q0 := 8) rfl rfl)) rfl rfl hl.1 rfl (lv_room (Nat.le_of_ble_eq_true rfl)) d_Tu_buildDirectory_86 ⟨by decide, by decide⟩) hS (fun q _ h => hFc q h) hFc (fun u t H locs ht hvm hw hB hz1 hk1 hS => ?_)
          obtain ⟨hP, -, hD⟩ := hB
          rw [ht] at hP
          have hD := lx_dj hD hFc
          obtain ⟨x_15, ex_15, h⟩ := lf_lX h
          refine lv_iinc (v := x_15) (lv' := [(2, .int x_15), (6, .int r_9), (0, .ref M.o_Tu), (1, .int y_1), (3, .int y_3), (4, .int y_4), (5, .int y_5)]) hx hb d_Tu_buildDirectory_89 hl (k := 3) rfl (by rw [ex_15]; rfl) (by decide) rfl (fun ls hl => ?_)
          refine lv_iconst (v := 0) hx hb d_Tu_buildDirectory_92 (by decide) ?_
          refine lv_istore_n (lv' := [(3, .int 0), (2, .int x_15), (6, .int r_9), (0, .ref M.o_Tu), (1, .int y_1), (4, .int y_4), (5, .int y_5)]) hx hb d_Tu_buildDirectory_93 rfl hl (by decide) rfl (fun ls hl => ?_)
          exact hB_94 _ hr_21 y_1 x_15 0 y_5 r_9 S_14 _ _ _ h hP hD hS (lv_sub hl [3, 4, 1, 0, 6, 2] rfl)
  rw [f_Tu_buildDirectory] at h
  refine lv_aload_n hx hb d_Tu_buildDirectory_0 rfl (lv_at hl 0 rfl) ?_
  refine va_get (D := (dC, dI)) (ci := 10) (v := .ref M.o_Tr) (C := R_Tu) (T := F_Tu) (N := 7) hx hb hts (fun w h => u_Vq_Tu w (i_Tu w h)) hown hK hP 8 rfl rfl 2 (by decide) (hts _ (u_Vq_Tu _ k_Tu_19)) (fun _ h9 => h9) rfl d_Tu_buildDirectory_1 ?_
  refine lv_iload_n hx hb d_Tu_buildDirectory_4 rfl (lv_at hl 1 rfl) ?_
  obtain ⟨r_1, S_1, hc_1, h⟩ := lf_cE h
  have hFc := lx_free hD hS hA
  refine va_calli (va_runV (As := [.int p0]) (rest := []) ⟨hx, hb, hml, hown, hts⟩ (l_Tr_builtOf l dC dI X _ hc_1) (cwV 1 hts (gwV good_Vq (u_Vq_Tu _ k_Tu_65) (u_Vq_Tr _ k_Tr_85) (u_Vq_Tr _ k_Tr_86) (u_Vq_Tr _ k_Tr_0) (wcs (u_Vq_Tr _ k_Tr_87) (fun _ h => h))) rfl rfl rfl (by decide +kernel) ⟨Nat.le_of_ble_eq_true rfl, Nat.le_of_ble_eq_true rfl⟩) (pv_ofE (X.same _) (fun U z1 z2 => X.mono _ _ U hFc (hEw _ _ hS U z1 z2)) hP hK hD (va_recv hK hP (ci := 5) (q0 := 4) rfl rfl)) rfl rfl hl.1 rfl (lv_room (Nat.le_of_ble_eq_true rfl)) d_Tu_buildDirectory_5 ⟨by decide, by decide⟩) hS (fun q _ h => hFc q h) hFc (fun r_ u t H locs ht hvm hw hB hz1 hk1 hS => ?_)
  rw [hw]
  obtain ⟨hP, -, hD⟩ := hB
  rw [ht] at hP
  have hD := lx_dj hD hFc
  refine lv_istore_n (lv' := [(2, .int r_1), (0, .ref M.o_Tu), (1, .int p0)]) hx hb d_Tu_buildDirectory_8 rfl hl (by decide) rfl (fun ls hl => ?_)
  refine lv_iconst (v := 0) hx hb d_Tu_buildDirectory_9 (by decide) ?_
  refine lv_istore_n (lv' := [(3, .int 0), (2, .int r_1), (0, .ref M.o_Tu), (1, .int p0)]) hx hb d_Tu_buildDirectory_10 rfl hl (by decide) rfl (fun ls hl => ?_)
  refine lv_iconst (v := 0) hx hb d_Tu_buildDirectory_11 (by decide) ?_
  refine lv_istore (lv' := [(4, .int 0), (3, .int 0), (2, .int r_1), (0, .ref M.o_Tu), (1, .int p0)]) hx hb d_Tu_buildDirectory_12 hl (by decide) rfl (fun ls hl => ?_)
  refine lv_aload_n hx hb d_Tu_buildDirectory_14 rfl (lv_at hl 3 rfl) ?_
  obtain ⟨S_2, hc_2, h⟩ := lf_bE h
  have hFc := lx_free hD hS hA
  refine va_callv (va_runV (As := []) (rest := []) ⟨hx, hb, hml, hown, hts⟩ (l_Tu_empty l dC dI X _ hc_2) (cwV 0 hts (gwV good_Vq (u_Vq_Tu _ k_Tu_57) (u_Vq_Tu _ k_Tu_58) (u_Vq_Tu _ k_Tu_164) (u_Vq_Tu _ k_Tu_0) (wcs (u_Vq_Tu _ k_Tu_59) (fun _ h => h))) rfl rfl rfl (by decide +kernel) ⟨Nat.le_of_ble_eq_true rfl, Nat.le_of_ble_eq_true rfl⟩) (pv_ofE (X.same _) (fun U z1 z2 => X.mono _ _ U hFc (hEw _ _ hS U z1 z2)) hP hK hD (va_recv hK hP (ci := 10) (q0 := 8) rfl rfl)) rfl rfl hl.1 rfl (lv_room (Nat.le_of_ble_eq_true rfl)) d_Tu_buildDirectory_15 ⟨by decide, by decide⟩) hS (fun q _ h => hFc q h) hFc (fun u t H locs ht hvm hw hB hz1 hk1 hS => ?_)
  obtain ⟨hP, -, hD⟩ := hB
  rw [ht] at hP
  have hD := lx_dj hD hFc
  refine lv_iconst (v := 0) hx hb d_Tu_buildDirectory_18 (by decide) ?_
  refine lv_istore (lv' := [(5, .int 0), (4, .int 0), (3, .int 0), (2, .int r_1), (0, .ref M.o_Tu), (1, .int p0)]) hx hb d_Tu_buildDirectory_19 hl (by decide) rfl (fun ls hl => ?_)
  exact hB_21 K p0 r_1 0 0 0 S_2 _ _ _ h hP hD hS (lv_sub hl [4, 5, 3, 2, 1, 0] rfl)
