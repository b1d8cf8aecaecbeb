set_option maxHeartbeats 4000000 in
set_option maxRecDepth 100000 in
theorem l_Mo_write (l : Launch) (dC : Nat → ClassId) (dI : Nat → Nat → Nat) {K : Nat} {M : MA} {E : (Nat → Prop) → State → Prop} (X : lx_X l dC dI K M E) (sz : Nat) {S S' : MS} {p0 : Int32} {r : Int32} (h : f_Mo_write K S p0 = some (r, S')) : Met l y_Mo_write (.code y_Mo_write b_Mo_write 3 (some .int) :: V_Mq) ({ frames := 14, cells := 0, slots := 0, locals := 381 }) (va_Pc [.ref M.o, .int p0] (fun U => U.heap.size = sz ∧ at_ (dC, dI) (fun _ => True) (wM M S) (tM M) U ∧ E (va_A (wM M S) sz) U)) (va_Qi (fun (r_ : Int32) (u : Unit) => r_ = r) (fun (u : Unit) t => at_ (dC, dI) (va_A (wM M S) sz) (wM M S') (tM M) t) (va_A (wM M S) sz)) 0 0 (va_A (wM M S) sz) := by
  refine Met.ofW (cc := b_Mo_write) (maxL := 3) (ret := (some .int)) (by decide) rfl ?_
  intro p e s m args below meth c s₁ B hml hv
  obtain ⟨rfl, hsz, ⟨hP, hK, hD0⟩, hE⟩ := hv
  have hx := B.exec
  have hb := B.bytes
  have hr := B.returns
  have hts0 := atoms_spec (ws := .code y_Mo_write b_Mo_write 3 (some .int) :: V_Mq) B.pre
  have hts : ∀ w ∈ V_Mq, w.before ([.ref M.o, .int p0] : List Value).toArray s = true := fun w h => hts0 w (List.mem_cons_of_mem _ h)
  have hown : s.vm.findClass R_Mo = some m.cls := findClass_of_methodNamed B.named
  subst hsz
  have hD := hD0.self (sz := s.heap.size)
  generalize hAe : va_A (wM M S) s.heap.size = A at hD hE ⊢
  have hA : ∀ q : Nat, s.heap.size ≤ q → A q := fun q h => by rw [← hAe]; exact Or.inr h
  have hS : va_S A s.heap s.heap [] := va_S.rf
  have hP : va_P (dC, dI) classes (wM M S) s.heap := hP
  have hK : va_K (dC, dI) classes (tM M) s := hK
  have hEw : ∀ (H : Heap) (locs : List Loc), va_S A s.heap H locs → ∀ U : State, U.heap = H → s.WarmedH U.vm → E A U := fun H locs hS U hU hW => X.kept A s U H locs hE hS hU hW
  have hl := lv_entry ([.ref M.o, .int p0]) (n := 3) (Nat.le_of_ble_eq_true rfl)
  rw [lg_entry_eq]
  generalize (lg_sl ([.ref M.o, .int p0]) ++ List.replicate (3 - (lg_sl ([.ref M.o, .int p0])).length) Slot.unset).toArray = ls at hl ⊢
  have hl : lv_has ls 3 [(0, .ref M.o), (1, .int p0)] := hl
  refine qabs (fun Q hQ => ?_)
  rw [f_Mo_write] at h
  refine lv_aload_n hx hb d_Mo_write_0 rfl (lv_at hl 0 rfl) ?_
  refine va_get (D := (dC, dI)) (ci := 12) (v := .int S.v_taped) (C := R_Mo) (T := F_Mo) (N := 66) hx hb hts (fun w h => u_Mq_Mo w (i_Mo w h)) hown hK hP 0 rfl rfl 5 (by decide) (hts _ (u_Mq_Mo _ k_Mo_12)) (fun _ h9 => h9) rfl d_Mo_write_1 ?_
  refine lv_topi (fun x_1 ex_1 => ?_)
  have h := lf_lE h ex_1
  refine lv_istore_n (lv' := [(2, .int x_1), (0, .ref M.o), (1, .int p0)]) hx hb d_Mo_write_4 rfl hl (by decide) rfl (fun ls hl => ?_)
  refine lv_aload_n hx hb d_Mo_write_5 rfl (lv_at hl 1 rfl) ?_
  refine lv_iconst (v := 0) hx hb d_Mo_write_6 (by decide) ?_
  refine va_put (D := (dC, dI)) (ci := 12) (v := .int 0) (ty := .int) (C := R_Mo) (T := F_Mo) (N := 66) hx hb hts (fun w h => u_Mq_Mo w (i_Mo w h)) t_Mo t_Mo_ok n_Mo hown hK hP hD hS 0 rfl rfl 5 (by decide) (hts _ (u_Mq_Mo _ k_Mo_12)) (fun _ h9 => h9) rfl (by decide +kernel) rfl rfl (Nat.le_of_ble_eq_true rfl) d_Mo_write_7 (fun H locs hP hD hS => ?_)
  obtain ⟨S_2, eS_2, h⟩ := lf_lX h
  have hP := lx_newP eS_2 hP
  have hD := lx_newD eS_2 hD
  refine lv_aload_n hx hb d_Mo_write_10 rfl (lv_at hl 1 rfl) ?_
  refine lv_iload_n hx hb d_Mo_write_11 rfl (lv_at hl 2 rfl) ?_
  refine lv_iconst (v := 0) hx hb d_Mo_write_12 (by decide) ?_
  obtain ⟨r_3, S_3, hc_3, h⟩ := lf_cE h
  have hFc := lx_free hD hS hA
  refine va_calli (va_runV (As := [.int p0, .int 0]) (rest := []) ⟨hx, hb, hml, hown, hts⟩ (l_Mo_noFile l dC dI X _ hc_3) (cwV 2 hts (gwV good_Mq (u_Mq_Mo _ k_Mo_345) (u_Mq_Mo _ k_Mo_346) (u_Mq_Mo _ k_Mo_524) (u_Mq_Mo _ k_Mo_0) (wcs (u_Mq_Mo _ k_Mo_347) (fun _ h => h))) rfl rfl rfl (by decide +kernel) ⟨Nat.le_of_ble_eq_true rfl, Nat.le_of_ble_eq_true rfl⟩) (pv_ofE (X.same _) (fun U z1 z2 => X.mono _ _ U hFc (hEw _ _ hS U z1 z2)) hP hK hD (va_recv hK hP (ci := 12) (q0 := 0) rfl rfl)) rfl rfl hl.1 rfl (lv_room (Nat.le_of_ble_eq_true rfl)) d_Mo_write_13 ⟨by decide, by decide⟩) hS (fun q _ h => hFc q h) hFc (fun r_ u t H locs ht hvm hw hB hz1 hk1 hS => ?_)
  rw [hw]
  obtain ⟨hP, -, hD⟩ := hB
  rw [ht] at hP
  have hD := lx_dj hD hFc
  refine lv_if_eq (tgt := 23) hx hb d_Mo_write_16 (by decide) (fun c_4 => ?_) (fun c_4 => ?_)
  · have h := lf_t h c_4
    refine lv_aload_n hx hb d_Mo_write_23 rfl (lv_at hl 1 rfl) ?_
    refine lv_aload_n hx hb d_Mo_write_24 rfl (lv_at hl 1 rfl) ?_
    refine lv_iload_n hx hb d_Mo_write_25 rfl (lv_at hl 2 rfl) ?_
    obtain ⟨r_5, S_5, hc_5, h⟩ := lf_cE h
    have hFc := lx_free hD hS hA
    refine va_calli (va_runV (As := [.int p0]) (rest := [.ref M.o]) ⟨hx, hb, hml, hown, hts⟩ (l_Mo_item l dC dI X _ hc_5) (cwV 1 hts (gwV good_Mq (u_Mq_Mo _ k_Mo_255) (u_Mq_Mo _ k_Mo_256) (u_Mq_Mo _ k_Mo_511) (u_Mq_Mo _ k_Mo_0) (wcs (u_Mq_Mo _ k_Mo_257) (fun _ h => h))) rfl rfl rfl (by decide +kernel) ⟨Nat.le_of_ble_eq_true rfl, Nat.le_of_ble_eq_true rfl⟩) (pv_ofE (X.same _) (fun U z1 z2 => X.mono _ _ U hFc (hEw _ _ hS U z1 z2)) hP hK hD (va_recv hK hP (ci := 12) (q0 := 0) rfl rfl)) rfl rfl hl.1 rfl (lv_room (Nat.le_of_ble_eq_true rfl)) d_Mo_write_26 ⟨by decide, by decide⟩) hS (fun q _ h => hFc q h) hFc (fun r_ u t H locs ht hvm hw hB hz1 hk1 hS => ?_)
    rw [hw]
    obtain ⟨hP, -, hD⟩ := hB
    rw [ht] at hP
    have hD := lx_dj hD hFc
    refine lv_iload_n hx hb d_Mo_write_29 rfl (lv_at hl 0 rfl) ?_
    refine lv_iconst (v := 1) hx hb d_Mo_write_30 (by decide) ?_
    refine lv_iconst (v := 0) hx hb d_Mo_write_31 (by decide) ?_
    obtain ⟨r_6, S_6, hc_6, h⟩ := lf_cE h
    have hFc := lx_free hD hS hA
    refine va_calli (va_runV (As := [.int r_5, .int x_1, .int 1, .int 0]) (rest := []) ⟨hx, hb, hml, hown, hts⟩ (l_Mo_append l dC dI X _ hc_6) (cwV 4 hts (gwV good_Mq (u_Mq_Mo _ k_Mo_348) (u_Mq_Mo _ k_Mo_349) (u_Mq_Mo _ k_Mo_523) (u_Mq_Mo _ k_Mo_0) (wcs (u_Mq_Mo _ k_Mo_350) (fun _ h => h))) rfl rfl rfl (by decide +kernel) ⟨Nat.le_of_ble_eq_true rfl, Nat.le_of_ble_eq_true rfl⟩) (pv_ofE (X.same _) (fun U z1 z2 => X.mono _ _ U hFc (hEw _ _ hS U z1 z2)) hP hK hD (va_recv hK hP (ci := 12) (q0 := 0) rfl rfl)) rfl rfl hl.1 rfl (lv_room (Nat.le_of_ble_eq_true rfl)) d_Mo_write_32 ⟨by decide, by decide⟩) hS (fun q _ h => hFc q h) hFc (fun r_ u t H locs ht hvm hw hB hz1 hk1 hS => ?_)
    rw [hw]
    obtain ⟨hP, -, hD⟩ := hB
    rw [ht] at hP
    have hD := lx_dj hD hFc
    rw [hQ]
    have e1 : r_6 = r := congrArg Prod.fst (Option.some.inj h)
    have e2 : S_6 = S' := congrArg Prod.snd (Option.some.inj h)
    have hP := lx_newP e2.symm hP
    have hD := lx_newD e2.symm hD
    exact W.iret (v := r_6) hx hb hr (fun t ht hW => ⟨⟨r_6, (), rfl, e1, by rw [ht]; exact hP, va_K.moved hW.alike hK, hD⟩, hS.F ht⟩) hS.2.2 d_Mo_write_35
  · have h := lf_f h c_4
    refine lv_iconst (v := 0) hx hb d_Mo_write_19 (by decide) ?_
    refine lv_goto (tgt := 35) hx hb d_Mo_write_20 (by decide) ?_
    rw [hQ]
    have e1 : (0 : Int32) = r := congrArg Prod.fst (Option.some.inj h)
    have e2 : S_3 = S' := congrArg Prod.snd (Option.some.inj h)
    have hP := lx_newP e2.symm hP
    have hD := lx_newD e2.symm hD
    exact W.iret (v := 0) hx hb hr (fun t ht hW => ⟨⟨0, (), rfl, e1, by rw [ht]; exact hP, va_K.moved hW.alike hK, hD⟩, hS.F ht⟩) hS.2.2 d_Mo_write_35
set_option maxHeartbeats 4000000 in
set_option maxRecDepth 100000 in
theorem l_Mo_grow (l : Launch) (dC : Nat → ClassId) (dI : Nat → Nat → Nat) {K : Nat} {M : MA} {E : (Nat → Prop) → State → Prop} (X : lx_X l dC dI K M E) (sz : Nat) {S S' : MS} {p0 : Int32} {p1 : Int32} {p2 : Int32} {r : Int32} (h : f_Mo_grow K S p0 p1 p2 = some (r, S')) : Met l y_Mo_grow (.code y_Mo_grow b_Mo_grow 4 (some .int) :: V_Mq) ({ frames := 14, cells := 0, slots := 0, locals := 381 }) (va_Pc [.ref M.o, .int p0, .int p1, .int p2] (fun U => U.heap.size = sz ∧ at_ (dC, dI) (fun _ => True) (wM M S) (tM M) U ∧ E (va_A (wM M S) sz) U)) (va_Qi (fun (r_ : Int32) (u : Unit) => r_ = r) (fun (u : Unit) t => at_ (dC, dI) (va_A (wM M S) sz) (wM M S') (tM M) t) (va_A (wM M S) sz)) 0 0 (va_A (wM M S) sz) := by
  refine Met.ofW (cc := b_Mo_grow) (maxL := 4) (ret := (some .int)) (by decide) rfl ?_
  intro p e s m args below meth c s₁ B hml hv
  obtain ⟨rfl, hsz, ⟨hP, hK, hD0⟩, hE⟩ := hv
  have hx := B.exec
  have hb := B.bytes
  have hr := B.returns
  have hts0 := atoms_spec (ws := .code y_Mo_grow b_Mo_grow 4 (some .int) :: V_Mq) B.pre
  have hts : ∀ w ∈ V_Mq, w.before ([.ref M.o, .int p0, .int p1, .int p2] : List Value).toArray s = true := fun w h => hts0 w (List.mem_cons_of_mem _ h)
  have hown : s.vm.findClass R_Mo = some m.cls := findClass_of_methodNamed B.named
  subst hsz
  have hD := hD0.self (sz := s.heap.size)
  generalize hAe : va_A (wM M S) s.heap.size = A at hD hE ⊢
  have hA : ∀ q : Nat, s.heap.size ≤ q → A q := fun q h => by rw [← hAe]; exact Or.inr h
  have hS : va_S A s.heap s.heap [] := va_S.rf
  have hP : va_P (dC, dI) classes (wM M S) s.heap := hP
  have hK : va_K (dC, dI) classes (tM M) s := hK
  have hEw : ∀ (H : Heap) (locs : List Loc), va_S A s.heap H locs → ∀ U : State, U.heap = H → s.WarmedH U.vm → E A U := fun H locs hS U hU hW => X.kept A s U H locs hE hS hU hW
  have hl := lv_entry ([.ref M.o, .int p0, .int p1, .int p2]) (n := 4) (Nat.le_of_ble_eq_true rfl)
  rw [lg_entry_eq]
  generalize (lg_sl ([.ref M.o, .int p0, .int p1, .int p2]) ++ List.replicate (4 - (lg_sl ([.ref M.o, .int p0, .int p1, .int p2])).length) Slot.unset).toArray = ls at hl ⊢
  have hl : lv_has ls 4 [(0, .ref M.o), (1, .int p0), (2, .int p1), (3, .int p2)] := hl
  refine qabs (fun Q hQ => ?_)
  have hB_18 : ∀ (y_1 : Int32) (y_2 : Int32) (y_3 : Int32) (z_1 : Int32) (z_2 : Int32) (S : MS) (H : Heap) (locs : List Loc) (ls : Array Slot), f_Mo_grow_18 K y_1 y_2 y_3 z_1 z_2 S = some (r, S') → va_P (dC, dI) classes (wM M S) H → va_D A (wM M S) → va_S A s.heap H locs → lv_has ls 4 [(0, .ref M.o), (1, .int y_1), (2, .int y_2), (3, .int y_3)] → W p l e ({ frames := 14, cells := 0, slots := 0, locals := 381 }) s m ([.ref M.o, .int p0, .int p1, .int p2] : List Value).toArray below meth c H locs 0 0 Q (F0 m 18 ls [.int z_2, .int z_1, .ref M.o]) := by
    intro y_1 y_2 y_3 z_1 z_2 S H locs ls h hP hD hS hl
    rw [f_Mo_grow_18] at h
    obtain ⟨r_3, S_3, hc_3, h⟩ := lf_cE h
    have hFc := lx_free hD hS hA
    refine va_calli (va_runV (As := [.int z_1, .int z_2]) (rest := []) ⟨hx, hb, hml, hown, hts⟩ (l_Mo_noFile l dC dI X _ hc_3) (cwV 2 hts (gwV good_Mq (u_Mq_Mo _ k_Mo_345) (u_Mq_Mo _ k_Mo_346) (u_Mq_Mo _ k_Mo_524) (u_Mq_Mo _ k_Mo_0) (wcs (u_Mq_Mo _ k_Mo_347) (fun _ h => h))) rfl rfl rfl (by decide +kernel) ⟨Nat.le_of_ble_eq_true rfl, Nat.le_of_ble_eq_true rfl⟩) (pv_ofE (X.same _) (fun U z1 z2 => X.mono _ _ U hFc (hEw _ _ hS U z1 z2)) hP hK hD (va_recv hK hP (ci := 12) (q0 := 0) rfl rfl)) rfl rfl hl.1 rfl (lv_room (Nat.le_of_ble_eq_true rfl)) d_Mo_grow_18 ⟨by decide, by decide⟩) hS (fun q _ h => hFc q h) hFc (fun r_ u t H locs ht hvm hw hB hz1 hk1 hS => ?_)
    rw [hw]
    obtain ⟨hP, -, hD⟩ := hB
    rw [ht] at hP
    have hD := lx_dj hD hFc
    refine lv_if_eq (tgt := 28) hx hb d_Mo_grow_21 (by decide) (fun c_4 => ?_) (fun c_4 => ?_)
    · have h := lf_t h c_4
      refine lv_aload_n hx hb d_Mo_grow_28 rfl (lv_at hl 0 rfl) ?_
      refine lv_aload_n hx hb d_Mo_grow_29 rfl (lv_at hl 0 rfl) ?_
      refine lv_iload_n hx hb d_Mo_grow_30 rfl (lv_at hl 1 rfl) ?_
      obtain ⟨r_5, S_5, hc_5, h⟩ := lf_cE h
      have hFc := lx_free hD hS hA
      refine va_calli (va_runV (As := [.int y_1]) (rest := [.ref M.o]) ⟨hx, hb, hml, hown, hts⟩ (l_Mo_item l dC dI X _ hc_5) (cwV 1 hts (gwV good_Mq (u_Mq_Mo _ k_Mo_255) (u_Mq_Mo _ k_Mo_256) (u_Mq_Mo _ k_Mo_511) (u_Mq_Mo _ k_Mo_0) (wcs (u_Mq_Mo _ k_Mo_257) (fun _ h => h))) rfl rfl rfl (by decide +kernel) ⟨Nat.le_of_ble_eq_true rfl, Nat.le_of_ble_eq_true rfl⟩) (pv_ofE (X.same _) (fun U z1 z2 => X.mono _ _ U hFc (hEw _ _ hS U z1 z2)) hP hK hD (va_recv hK hP (ci := 12) (q0 := 0) rfl rfl)) rfl rfl hl.1 rfl (lv_room (Nat.le_of_ble_eq_true rfl)) d_Mo_grow_31 ⟨by decide, by decide⟩) hS (fun q _ h => hFc q h) hFc (fun r_ u t H locs ht hvm hw hB hz1 hk1 hS => ?_)
      rw [hw]
      obtain ⟨hP, -, hD⟩ := hB
      rw [ht] at hP
      have hD := lx_dj hD hFc
      refine lv_iload_n hx hb d_Mo_grow_34 rfl (lv_at hl 2 rfl) ?_
      refine lv_iconst (v := 0) hx hb d_Mo_grow_35 (by decide) ?_
      refine lv_iload_n hx hb d_Mo_grow_36 rfl (lv_at hl 3 rfl) ?_
      obtain ⟨r_6, S_6, hc_6, h⟩ := lf_cE h
      have hFc := lx_free hD hS hA
      refine va_calli (va_runV (As := [.int r_5, .int y_2, .int 0, .int y_3]) (rest := []) ⟨hx, hb, hml, hown, hts⟩ (l_Mo_append l dC dI X _ hc_6) (cwV 4 hts (gwV good_Mq (u_Mq_Mo _ k_Mo_348) (u_Mq_Mo _ k_Mo_349) (u_Mq_Mo _ k_Mo_523) (u_Mq_Mo _ k_Mo_0) (wcs (u_Mq_Mo _ k_Mo_350) (fun _ h => h))) rfl rfl rfl (by decide +kernel) ⟨Nat.le_of_ble_eq_true rfl, Nat.le_of_ble_eq_true rfl⟩) (pv_ofE (X.same _) (fun U z1 z2 => X.mono _ _ U hFc (hEw _ _ hS U z1 z2)) hP hK hD (va_recv hK hP (ci := 12) (q0 := 0) rfl rfl)) rfl rfl hl.1 rfl (lv_room (Nat.le_of_ble_eq_true rfl)) d_Mo_grow_37 ⟨by decide, by decide⟩) hS (fun q _ h => hFc q h) hFc (fun r_ u t H locs ht hvm hw hB hz1 hk1 hS => ?_)
      rw [hw]
      obtain ⟨hP, -, hD⟩ := hB
      rw [ht] at hP
      have hD := lx_dj hD hFc
      rw [hQ]
      have e1 : r_6 = r := congrArg Prod.fst (Option.some.inj h)
      have e2 : S_6 = S' := congrArg Prod.snd (Option.some.inj h)
      have hP := lx_newP e2.symm hP
      have hD := lx_newD e2.symm hD
      exact W.iret (v := r_6) hx hb hr (fun t ht hW => ⟨⟨r_6, (), rfl, e1, by rw [ht]; exact hP, va_K.moved hW.alike hK, hD⟩, hS.F ht⟩) hS.2.2 d_Mo_grow_40
    · have h := lf_f h c_4
      refine lv_iconst (v := 0) hx hb d_Mo_grow_24 (by decide) ?_
      refine lv_goto (tgt := 40) hx hb d_Mo_grow_25 (by decide) ?_
      rw [hQ]
      have e1 : (0 : Int32) = r := congrArg Prod.fst (Option.some.inj h)
      have e2 : S_3 = S' := congrArg Prod.snd (Option.some.inj h)
      have hP := lx_newP e2.symm hP
      have hD := lx_newD e2.symm hD
      exact W.iret (v := 0) hx hb hr (fun t ht hW => ⟨⟨0, (), rfl, e1, by rw [ht]; exact hP, va_K.moved hW.alike hK, hD⟩, hS.F ht⟩) hS.2.2 d_Mo_grow_40
  have hB_13 : ∀ (y_1 : Int32) (y_2 : Int32) (y_3 : Int32) (z_1 : Int32) (S : MS) (H : Heap) (locs : List Loc) (ls : Array Slot), f_Mo_grow_13 K y_1 y_2 y_3 z_1 S = some (r, S') → va_P (dC, dI) classes (wM M S) H → va_D A (wM M S) → va_S A s.heap H locs → lv_has ls 4 [(0, .ref M.o), (1, .int y_1), (2, .int y_2), (3, .int y_3)] → W p l e ({ frames := 14, cells := 0, slots := 0, locals := 381 }) s m ([.ref M.o, .int p0, .int p1, .int p2] : List Value).toArray below meth c H locs 0 0 Q (F0 m 13 ls [.int z_1, .ref M.o]) := by
    intro y_1 y_2 y_3 z_1 S H locs ls h hP hD hS hl
    rw [f_Mo_grow_13] at h
    refine lv_iconst (v := 1) hx hb d_Mo_grow_13 (by decide) ?_
    refine lv_goto (tgt := 18) hx hb d_Mo_grow_14 (by decide) ?_
    exact hB_18 y_1 y_2 y_3 z_1 1 S _ _ _ h hP hD hS (lv_sub hl [0, 1, 2, 3] rfl)
  rw [f_Mo_grow] at h
  refine lv_aload_n hx hb d_Mo_grow_0 rfl (lv_at hl 0 rfl) ?_
  refine lv_iload_n hx hb d_Mo_grow_1 rfl (lv_at hl 1 rfl) ?_
  refine lv_iload_n hx hb d_Mo_grow_2 rfl (lv_at hl 2 rfl) ?_
  refine lv_if_lt (tgt := 13) hx hb d_Mo_grow_3 (by decide) (fun c_1 => ?_) (fun c_1 => ?_)
  · have h := lf_t h c_1
    exact hB_13 p0 p1 p2 p0 S _ _ _ h hP hD hS (lv_sub hl [0, 1, 2, 3] rfl)
  · have h := lf_f h c_1
    refine lv_iload_n hx hb d_Mo_grow_6 rfl (lv_at hl 2 rfl) ?_
    refine lv_ldcw (v := 400000) hx hb hown (hts _ (u_Mq_Mo _ k_Mo_354)) d_Mo_grow_7 ?_
    refine lv_icmp_le (tgt := 17) hx hb d_Mo_grow_10 (by decide) (fun c_2 => ?_) (fun c_2 => ?_)
    · have h := lf_t h c_2
      refine lv_iconst (v := 0) hx hb d_Mo_grow_17 (by decide) ?_
      exact hB_18 p0 p1 p2 p0 0 S _ _ _ h hP hD hS (lv_sub hl [0, 1, 2, 3] rfl)
    · have h := lf_f h c_2
      exact hB_13 p0 p1 p2 p0 S _ _ _ h hP hD hS (lv_sub hl [0, 1, 2, 3] rfl)
set_option maxHeartbeats 4000000 in
set_option maxRecDepth 100000 in
theorem l_Mo_cut (l : Launch) (dC : Nat → ClassId) (dI : Nat → Nat → Nat) {K : Nat} {M : MA} {E : (Nat → Prop) → State → Prop} (X : lx_X l dC dI K M E) (sz : Nat) {S S' : MS} {p0 : Int32} {p1 : Int32} {r : Int32} (h : f_Mo_cut K S p0 p1 = some (r, S')) : Met l y_Mo_cut (.code y_Mo_cut b_Mo_cut 6 (some .int) :: V_Mq) ({ frames := 14, cells := 0, slots := 0, locals := 381 }) (va_Pc [.ref M.o, .int p0, .int p1] (fun U => U.heap.size = sz ∧ at_ (dC, dI) (fun _ => True) (wM M S) (tM M) U ∧ E (va_A (wM M S) sz) U)) (va_Qi (fun (r_ : Int32) (u : Unit) => r_ = r) (fun (u : Unit) t => at_ (dC, dI) (va_A (wM M S) sz) (wM M S') (tM M) t) (va_A (wM M S) sz)) 0 0 (va_A (wM M S) sz) := by
  refine Met.ofW (cc := b_Mo_cut) (maxL := 6) (ret := (some .int)) (by decide) rfl ?_
  intro p e s m args below meth c s₁ B hml hv
  obtain ⟨rfl, hsz, ⟨hP, hK, hD0⟩, hE⟩ := hv
  have hx := B.exec
  have hb := B.bytes
  have hr := B.returns
  have hts0 := atoms_spec (ws := .code y_Mo_cut b_Mo_cut 6 (some .int) :: V_Mq) B.pre
  have hts : ∀ w ∈ V_Mq, w.before ([.ref M.o, .int p0, .int p1] : List Value).toArray s = true := fun w h => hts0 w (List.mem_cons_of_mem _ h)
  have hown : s.vm.findClass R_Mo = some m.cls := findClass_of_methodNamed B.named
  subst hsz
  have hD := hD0.self (sz := s.heap.size)
  generalize hAe : va_A (wM M S) s.heap.size = A at hD hE ⊢
  have hA : ∀ q : Nat, s.heap.size ≤ q → A q := fun q h => by rw [← hAe]; exact Or.inr h
  have hS : va_S A s.heap s.heap [] := va_S.rf
  have hP : va_P (dC, dI) classes (wM M S) s.heap := hP
  have hK : va_K (dC, dI) classes (tM M) s := hK
  have hEw : ∀ (H : Heap) (locs : List Loc), va_S A s.heap H locs → ∀ U : State, U.heap = H → s.WarmedH U.vm → E A U := fun H locs hS U hU hW => X.kept A s U H locs hE hS hU hW
  have hl := lv_entry ([.ref M.o, .int p0, .int p1]) (n := 6) (Nat.le_of_ble_eq_true rfl)
  rw [lg_entry_eq]
  generalize (lg_sl ([.ref M.o, .int p0, .int p1]) ++ List.replicate (6 - (lg_sl ([.ref M.o, .int p0, .int p1])).length) Slot.unset).toArray = ls at hl ⊢
  have hl : lv_has ls 6 [(0, .ref M.o), (1, .int p0), (2, .int p1)] := hl
  refine qabs (fun Q hQ => ?_)
  have hB_51 : ∀ (S : MS) (H : Heap) (locs : List Loc) (ls : Array Slot), f_Mo_cut_51 K S = some (r, S') → va_P (dC, dI) classes (wM M S) H → va_D A (wM M S) → va_S A s.heap H locs → lv_has ls 6 [] → W p l e ({ frames := 14, cells := 0, slots := 0, locals := 381 }) s m ([.ref M.o, .int p0, .int p1] : List Value).toArray below meth c H locs 0 0 Q (F0 m 51 ls []) := by
    intro S H locs ls h hP hD hS hl
    rw [f_Mo_cut_51] at h
    refine lv_iconst (v := 0) hx hb d_Mo_cut_51 (by decide) ?_
    rw [hQ]
    have e1 : (0 : Int32) = r := congrArg Prod.fst (Option.some.inj h)
    have e2 : S = S' := congrArg Prod.snd (Option.some.inj h)
    have hP := lx_newP e2.symm hP
    have hD := lx_newD e2.symm hD
    exact W.iret (v := 0) hx hb hr (fun t ht hW => ⟨⟨0, (), rfl, e1, by rw [ht]; exact hP, va_K.moved hW.alike hK, hD⟩, hS.F ht⟩) hS.2.2 d_Mo_cut_52
  have hB_170 : ∀ (y_2 : Int32) (y_3 : Int32) (y_4 : Int32) (S : MS) (H : Heap) (locs : List Loc) (ls : Array Slot), f_Mo_cut_170 K y_2 y_3 y_4 S = some (r, S') → va_P (dC, dI) classes (wM M S) H → va_D A (wM M S) → va_S A s.heap H locs → lv_has ls 6 [(0, .ref M.o), (2, .int y_2), (3, .int y_3), (4, .int y_4)] → W p l e ({ frames := 14, cells := 0, slots := 0, locals := 381 }) s m ([.ref M.o, .int p0, .int p1] : List Value).toArray below meth c H locs 0 0 Q (F0 m 170 ls []) := by
    intro y_2 y_3 y_4 S H locs ls h hP hD hS hl
    rw [f_Mo_cut_170] at h
    refine lv_aload_n hx hb d_Mo_cut_170 rfl (lv_at hl 0 rfl) ?_
    refine lv_iload_n hx hb d_Mo_cut_171 rfl (lv_at hl 2 rfl) ?_
    refine lv_bipush (v := 28) hx hb d_Mo_cut_172 (by decide) ?_
    refine lv_iadd hx hb d_Mo_cut_174 ?_
    refine lv_iconst (v := 4) hx hb d_Mo_cut_175 (by decide) ?_
    refine lv_iload_n hx hb d_Mo_cut_176 rfl (lv_at hl 1 rfl) ?_
    refine lv_i2l hx hb d_Mo_cut_177 rfl ?_
    obtain ⟨S_26, hc_26, h⟩ := lf_bE h
    have hFc := lx_free hD hS hA
    refine va_callv (va_runV (As := [.int (y_3 + 28), .int 4, .long y_2.toInt64]) (rest := []) ⟨hx, hb, hml, hown, hts⟩ (l_Mo_set l dC dI X _ hc_26) (cwV 3 hts (gwV good_Mq (u_Mq_Mo _ k_Mo_221) (u_Mq_Mo _ k_Mo_222) (u_Mq_Mo _ k_Mo_478) (u_Mq_Mo _ k_Mo_0) (wcs (u_Mq_Mo _ k_Mo_223) (fun _ h => h))) rfl rfl rfl (by decide +kernel) ⟨Nat.le_of_ble_eq_true rfl, Nat.le_of_ble_eq_true rfl⟩) (pv_ofE (X.same _) (fun U z1 z2 => X.mono _ _ U hFc (hEw _ _ hS U z1 z2)) hP hK hD (va_recv hK hP (ci := 12) (q0 := 0) rfl rfl)) rfl rfl hl.1 rfl (lv_room (Nat.le_of_ble_eq_true rfl)) d_Mo_cut_178 ⟨by decide, by decide⟩) hS (fun q _ h => hFc q h) hFc (fun u t H locs ht hvm hw hB hz1 hk1 hS => ?_)
    obtain ⟨hP, -, hD⟩ := hB
    rw [ht] at hP
    have hD := lx_dj hD hFc
    refine lv_aload_n hx hb d_Mo_cut_181 rfl (lv_at hl 0 rfl) ?_
    obtain ⟨S_27, hc_27, h⟩ := lf_bE h
    have hFc := lx_free hD hS hA
    refine va_callv (va_runV (As := []) (rest := []) ⟨hx, hb, hml, hown, hts⟩ (l_Mo_changed l dC dI X _ hc_27) (cwV 0 hts (gwV good_Mq (u_Mq_Mo _ k_Mo_205) (u_Mq_Mo _ k_Mo_206) (u_Mq_Mo _ k_Mo_506) (u_Mq_Mo _ k_Mo_0) (wcs (u_Mq_Mo _ k_Mo_207) (fun _ h => h))) rfl rfl rfl (by decide +kernel) ⟨Nat.le_of_ble_eq_true rfl, Nat.le_of_ble_eq_true rfl⟩) (pv_ofE (X.same _) (fun U z1 z2 => X.mono _ _ U hFc (hEw _ _ hS U z1 z2)) hP hK hD (va_recv hK hP (ci := 12) (q0 := 0) rfl rfl)) rfl rfl hl.1 rfl (lv_room (Nat.le_of_ble_eq_true rfl)) d_Mo_cut_182 ⟨by decide, by decide⟩) hS (fun q _ h => hFc q h) hFc (fun u t H locs ht hvm hw hB hz1 hk1 hS => ?_)
    obtain ⟨hP, -, hD⟩ := hB
    rw [ht] at hP
    have hD := lx_dj hD hFc
    refine lv_aload_n hx hb d_Mo_cut_185 rfl (lv_at hl 0 rfl) ?_
    refine va_get (D := (dC, dI)) (ci := 12) (v := .int S_27.v_links) (C := R_Mo) (T := F_Mo) (N := 66) hx hb hts (fun w h => u_Mq_Mo w (i_Mo w h)) hown hK hP 0 rfl rfl 35 (by decide) (hts _ (u_Mq_Mo _ k_Mo_42)) (fun _ h9 => h9) rfl d_Mo_cut_186 ?_
    refine lv_iload hx hb d_Mo_cut_189 (lv_at hl 3 rfl) ?_
    refine lv_isub hx hb d_Mo_cut_191 ?_
    rw [hQ]
    have e1 : (S_27.v_links - y_4) = r := congrArg Prod.fst (Option.some.inj h)
    have e2 : S_27 = S' := congrArg Prod.snd (Option.some.inj h)
    have hP := lx_newP e2.symm hP
    have hD := lx_newD e2.symm hD
    exact W.iret (v := (S_27.v_links - y_4)) hx hb hr (fun t ht hW => ⟨⟨(S_27.v_links - y_4), (), rfl, e1, by rw [ht]; exact hP, va_K.moved hW.alike hK, hD⟩, hS.F ht⟩) hS.2.2 d_Mo_cut_192
  have hB_91 : ∀ (k : Nat), ∀ (y_2 : Int32) (y_3 : Int32) (y_4 : Int32) (y_5 : Int32) (S : MS) (H : Heap) (locs : List Loc) (ls : Array Slot), f_Mo_cut_91 K k y_2 y_3 y_4 y_5 S = some (r, S') → va_P (dC, dI) classes (wM M S) H → va_D A (wM M S) → va_S A s.heap H locs → lv_has ls 6 [(0, .ref M.o), (2, .int y_2), (3, .int y_3), (4, .int y_4), (5, .int y_5)] → W p l e ({ frames := 14, cells := 0, slots := 0, locals := 381 }) s m ([.ref M.o, .int p0, .int p1] : List Value).toArray below meth c H locs 0 0 Q (F0 m 91 ls []) := by
    intro k
    induction k with
    | zero => intro y_2 y_3 y_4 y_5 S H locs ls h; exact lf_no h
    | succ k hr_91 =>
      intro y_2 y_3 y_4 y_5 S H locs ls h hP hD hS hl
      rw [f_Mo_cut_91] at h
      refine lv_iload hx hb d_Mo_cut_91 (lv_at hl 4 rfl) ?_
      refine lv_aload_n hx hb d_Mo_cut_93 rfl (lv_at hl 0 rfl) ?_
      refine va_get (D := (dC, dI)) (ci := 12) (v := .int S.v_links) (C := R_Mo) (T := F_Mo) (N := 66) hx hb hts (fun w h => u_Mq_Mo w (i_Mo w h)) hown hK hP 0 rfl rfl 35 (by decide) (hts _ (u_Mq_Mo _ k_Mo_42)) (fun _ h9 => h9) rfl d_Mo_cut_94 ?_
      refine lv_icmp_ge (tgt := 118) hx hb d_Mo_cut_97 (by decide) (fun c_16 => ?_) (fun c_16 => ?_)
      · have h := lf_t h c_16
        refine lv_iload hx hb d_Mo_cut_118 (lv_at hl 3 rfl) ?_
        refine lv_if_le (tgt := 150) hx hb d_Mo_cut_120 (by decide) (fun c_17 => ?_) (fun c_17 => ?_)
        · have h := lf_t h c_17
          refine lv_aload_n hx hb d_Mo_cut_150 rfl (lv_at hl 0 rfl) ?_
          refine lv_iload_n hx hb d_Mo_cut_151 rfl (lv_at hl 2 rfl) ?_
          refine lv_bipush (v := 20) hx hb d_Mo_cut_152 (by decide) ?_
          refine lv_iadd hx hb d_Mo_cut_154 ?_
          refine lv_iconst (v := 2) hx hb d_Mo_cut_155 (by decide) ?_
          refine lv_lconst (v := 0) hx hb d_Mo_cut_156 (by decide) ?_
          obtain ⟨S_18, hc_18, h⟩ := lf_bE h
          have hFc := lx_free hD hS hA
          refine va_callv (va_runV (As := [.int (y_3 + 20), .int 2, .long 0]) (rest := []) ⟨hx, hb, hml, hown, hts⟩ (l_Mo_set l dC dI X _ hc_18) (cwV 3 hts (gwV good_Mq (u_Mq_Mo _ k_Mo_221) (u_Mq_Mo _ k_Mo_222) (u_Mq_Mo _ k_Mo_478) (u_Mq_Mo _ k_Mo_0) (wcs (u_Mq_Mo _ k_Mo_223) (fun _ h => h))) rfl rfl rfl (by decide +kernel) ⟨Nat.le_of_ble_eq_true rfl, Nat.le_of_ble_eq_true rfl⟩) (pv_ofE (X.same _) (fun U z1 z2 => X.mono _ _ U hFc (hEw _ _ hS U z1 z2)) hP hK hD (va_recv hK hP (ci := 12) (q0 := 0) rfl rfl)) rfl rfl hl.1 rfl (lv_room (Nat.le_of_ble_eq_true rfl)) d_Mo_cut_157 ⟨by decide, by decide⟩) hS (fun q _ h => hFc q h) hFc (fun u t H locs ht hvm hw hB hz1 hk1 hS => ?_)
          obtain ⟨hP, -, hD⟩ := hB
          rw [ht] at hP
          have hD := lx_dj hD hFc
          refine lv_aload_n hx hb d_Mo_cut_160 rfl (lv_at hl 0 rfl) ?_
          refine lv_iload_n hx hb d_Mo_cut_161 rfl (lv_at hl 2 rfl) ?_
          refine lv_bipush (v := 26) hx hb d_Mo_cut_162 (by decide) ?_
          refine lv_iadd hx hb d_Mo_cut_164 ?_
          refine lv_iconst (v := 2) hx hb d_Mo_cut_165 (by decide) ?_
          refine lv_lconst (v := 0) hx hb d_Mo_cut_166 (by decide) ?_
          obtain ⟨S_19, hc_19, h⟩ := lf_bE h
          have hFc := lx_free hD hS hA
          refine va_callv (va_runV (As := [.int (y_3 + 26), .int 2, .long 0]) (rest := []) ⟨hx, hb, hml, hown, hts⟩ (l_Mo_set l dC dI X _ hc_19) (cwV 3 hts (gwV good_Mq (u_Mq_Mo _ k_Mo_221) (u_Mq_Mo _ k_Mo_222) (u_Mq_Mo _ k_Mo_478) (u_Mq_Mo _ k_Mo_0) (wcs (u_Mq_Mo _ k_Mo_223) (fun _ h => h))) rfl rfl rfl (by decide +kernel) ⟨Nat.le_of_ble_eq_true rfl, Nat.le_of_ble_eq_true rfl⟩) (pv_ofE (X.same _) (fun U z1 z2 => X.mono _ _ U hFc (hEw _ _ hS U z1 z2)) hP hK hD (va_recv hK hP (ci := 12) (q0 := 0) rfl rfl)) rfl rfl hl.1 rfl (lv_room (Nat.le_of_ble_eq_true rfl)) d_Mo_cut_167 ⟨by decide, by decide⟩) hS (fun q _ h => hFc q h) hFc (fun u t H locs ht hvm hw hB hz1 hk1 hS => ?_)
          obtain ⟨hP, -, hD⟩ := hB
          rw [ht] at hP
          have hD := lx_dj hD hFc
          exact hB_170 y_2 y_3 y_4 S_19 _ _ _ h hP hD hS (lv_sub hl [0, 1, 2, 3] rfl)
        · have h := lf_f h c_17
          refine lv_aload_n hx hb d_Mo_cut_123 rfl (lv_at hl 0 rfl) ?_
          refine va_get (D := (dC, dI)) (ci := 12) (v := .int S.v_links) (C := R_Mo) (T := F_Mo) (N := 66) hx hb hts (fun w h => u_Mq_Mo w (i_Mo w h)) hown hK hP 0 rfl rfl 35 (by decide) (hts _ (u_Mq_Mo _ k_Mo_42)) (fun _ h9 => h9) rfl d_Mo_cut_124 ?_
          refine lv_iload hx hb d_Mo_cut_127 (lv_at hl 3 rfl) ?_
          refine lv_icmp_le (tgt := 170) hx hb d_Mo_cut_129 (by decide) (fun c_20 => ?_) (fun c_20 => ?_)
          · have h := lf_t h c_20
            exact hB_170 y_2 y_3 y_4 S _ _ _ h hP hD hS (lv_sub hl [0, 1, 2, 3] rfl)
          · have h := lf_f h c_20
            refine lv_aload_n hx hb d_Mo_cut_132 rfl (lv_at hl 0 rfl) ?_
            refine lv_aload_n hx hb d_Mo_cut_133 rfl (lv_at hl 0 rfl) ?_
            refine va_get (D := (dC, dI)) (ci := 12) (v := .ref M.a_chain) (C := R_Mo) (T := F_Mo) (N := 66) hx hb hts (fun w h => u_Mq_Mo w (i_Mo w h)) hown hK hP 0 rfl rfl 33 (by decide) (hts _ (u_Mq_Mo _ k_Mo_40)) (fun _ h9 => h9) rfl d_Mo_cut_134 ?_
            refine lv_iload hx hb d_Mo_cut_137 (lv_at hl 3 rfl) ?_
            refine lv_iconst (v := 1) hx hb d_Mo_cut_139 (by decide) ?_
            refine lv_isub hx hb d_Mo_cut_140 ?_
            obtain ⟨g_21, h⟩ := lf_gE h
            refine va_iald hx hb hK hP 15 14 rfl rfl g_21 d_Mo_cut_141 ?_
            refine lv_ldc (v := 268435455) hx hb hown (hts _ (u_Mq_Mo _ k_Mo_116)) d_Mo_cut_142 ?_
            obtain ⟨S_22, hc_22, h⟩ := lf_bE h
            have hFc := lx_free hD hS hA
            refine va_callv (va_runV (As := [.int (S.v_chain (y_4 - 1).toNatClampNeg), .int 268435455]) (rest := []) ⟨hx, hb, hml, hown, hts⟩ (l_Mo_setEntry l dC dI X _ hc_22) (cwV 2 hts (gwV good_Mq (u_Mq_Mo _ k_Mo_231) (u_Mq_Mo _ k_Mo_232) (u_Mq_Mo _ k_Mo_481) (u_Mq_Mo _ k_Mo_0) (wcs (u_Mq_Mo _ k_Mo_233) (fun _ h => h))) rfl rfl rfl (by decide +kernel) ⟨Nat.le_of_ble_eq_true rfl, Nat.le_of_ble_eq_true rfl⟩) (pv_ofE (X.same _) (fun U z1 z2 => X.mono _ _ U hFc (hEw _ _ hS U z1 z2)) hP hK hD (va_recv hK hP (ci := 12) (q0 := 0) rfl rfl)) rfl rfl hl.1 rfl (lv_room (Nat.le_of_ble_eq_true rfl)) d_Mo_cut_144 ⟨by decide, by decide⟩) hS (fun q _ h => hFc q h) hFc (fun u t H locs ht hvm hw hB hz1 hk1 hS => ?_)
            obtain ⟨hP, -, hD⟩ := hB
            rw [ht] at hP
            have hD := lx_dj hD hFc
            refine lv_goto (tgt := 170) hx hb d_Mo_cut_147 (by decide) ?_
            exact hB_170 y_2 y_3 y_4 S_22 _ _ _ h hP hD hS (lv_sub hl [0, 1, 2, 3] rfl)
      · have h := lf_f h c_16
        refine lv_aload_n hx hb d_Mo_cut_100 rfl (lv_at hl 0 rfl) ?_
        refine lv_aload_n hx hb d_Mo_cut_101 rfl (lv_at hl 0 rfl) ?_
        refine va_get (D := (dC, dI)) (ci := 12) (v := .ref M.a_chain) (C := R_Mo) (T := F_Mo) (N := 66) hx hb hts (fun w h => u_Mq_Mo w (i_Mo w h)) hown hK hP 0 rfl rfl 33 (by decide) (hts _ (u_Mq_Mo _ k_Mo_40)) (fun _ h9 => h9) rfl d_Mo_cut_102 ?_
        refine lv_iload hx hb d_Mo_cut_105 (lv_at hl 4 rfl) ?_
        obtain ⟨g_23, h⟩ := lf_gE h
        refine va_iald hx hb hK hP 15 14 rfl rfl g_23 d_Mo_cut_107 ?_
        refine lv_iconst (v := 0) hx hb d_Mo_cut_108 (by decide) ?_
        obtain ⟨S_24, hc_24, h⟩ := lf_bE h
        have hFc := lx_free hD hS hA
        refine va_callv (va_runV (As := [.int (S.v_chain y_5.toNatClampNeg), .int 0]) (rest := []) ⟨hx, hb, hml, hown, hts⟩ (l_Mo_setEntry l dC dI X _ hc_24) (cwV 2 hts (gwV good_Mq (u_Mq_Mo _ k_Mo_231) (u_Mq_Mo _ k_Mo_232) (u_Mq_Mo _ k_Mo_481) (u_Mq_Mo _ k_Mo_0) (wcs (u_Mq_Mo _ k_Mo_233) (fun _ h => h))) rfl rfl rfl (by decide +kernel) ⟨Nat.le_of_ble_eq_true rfl, Nat.le_of_ble_eq_true rfl⟩) (pv_ofE (X.same _) (fun U z1 z2 => X.mono _ _ U hFc (hEw _ _ hS U z1 z2)) hP hK hD (va_recv hK hP (ci := 12) (q0 := 0) rfl rfl)) rfl rfl hl.1 rfl (lv_room (Nat.le_of_ble_eq_true rfl)) d_Mo_cut_109 ⟨by decide, by decide⟩) hS (fun q _ h => hFc q h) hFc (fun u t H locs ht hvm hw hB hz1 hk1 hS => ?_)
        obtain ⟨hP, -, hD⟩ := hB
        rw [ht] at hP
        have hD := lx_dj hD hFc
        obtain ⟨x_25, ex_25, h⟩ := lf_lX h
        refine lv_iinc (v := x_25) (lv' := [(5, .int x_25), (0, .ref M.o), (2, .int y_2), (3, .int y_3), (4, .int y_4)]) hx hb d_Mo_cut_112 hl (k := 4) rfl (by rw [ex_25]; rfl) (by decide) rfl (fun ls hl => ?_)
        refine lv_goto (tgt := 91) hx hb d_Mo_cut_115 (by decide) ?_
        exact hr_91 y_2 y_3 y_4 x_25 S_24 _ _ _ h hP hD hS (lv_sub hl [1, 2, 3, 4, 0] rfl)
  have hB_44 : ∀ (y_1 : Int32) (y_2 : Int32) (z_1 : Int32) (S : MS) (H : Heap) (locs : List Loc) (ls : Array Slot), f_Mo_cut_44 K y_1 y_2 z_1 S = some (r, S') → va_P (dC, dI) classes (wM M S) H → va_D A (wM M S) → va_S A s.heap H locs → lv_has ls 6 [(0, .ref M.o), (1, .int y_1), (2, .int y_2)] → W p l e ({ frames := 14, cells := 0, slots := 0, locals := 381 }) s m ([.ref M.o, .int p0, .int p1] : List Value).toArray below meth c H locs 0 0 Q (F0 m 44 ls [.int z_1, .ref M.o]) := by
    intro y_1 y_2 z_1 S H locs ls h hP hD hS hl
    rw [f_Mo_cut_44] at h
    refine lv_iconst (v := 3) hx hb d_Mo_cut_44 (by decide) ?_
    obtain ⟨r_8, S_8, hc_8, h⟩ := lf_cE h
    have hFc := lx_free hD hS hA
    refine va_calli (va_runV (As := [.int z_1, .int 3]) (rest := []) ⟨hx, hb, hml, hown, hts⟩ (l_Mo_fails l dC dI X _ hc_8) (cwV 2 hts (gwV good_Mq (u_Mq_Mo _ k_Mo_217) (u_Mq_Mo _ k_Mo_218) (u_Mq_Mo _ k_Mo_474) (u_Mq_Mo _ k_Mo_0) (wcs (u_Mq_Mo _ k_Mo_219) (fun _ h => h))) rfl rfl rfl (by decide +kernel) ⟨Nat.le_of_ble_eq_true rfl, Nat.le_of_ble_eq_true rfl⟩) (pv_ofE (X.same _) (fun U z1 z2 => X.mono _ _ U hFc (hEw _ _ hS U z1 z2)) hP hK hD (va_recv hK hP (ci := 12) (q0 := 0) rfl rfl)) rfl rfl hl.1 rfl (lv_room (Nat.le_of_ble_eq_true rfl)) d_Mo_cut_45 ⟨by decide, by decide⟩) hS (fun q _ h => hFc q h) hFc (fun r_ u t H locs ht hvm hw hB hz1 hk1 hS => ?_)
    rw [hw]
    obtain ⟨hP, -, hD⟩ := hB
    rw [ht] at hP
    have hD := lx_dj hD hFc
    refine lv_if_eq (tgt := 53) hx hb d_Mo_cut_48 (by decide) (fun c_9 => ?_) (fun c_9 => ?_)
    · have h := lf_t h c_9
      refine lv_aload_n hx hb d_Mo_cut_53 rfl (lv_at hl 0 rfl) ?_
      refine va_get (D := (dC, dI)) (ci := 12) (v := .ref M.a_at) (C := R_Mo) (T := F_Mo) (N := 66) hx hb hts (fun w h => u_Mq_Mo w (i_Mo w h)) hown hK hP 0 rfl rfl 24 (by decide) (hts _ (u_Mq_Mo _ k_Mo_31)) (fun _ h9 => h9) rfl d_Mo_cut_54 ?_
      refine lv_aload_n hx hb d_Mo_cut_57 rfl (lv_at hl 0 rfl) ?_
      refine lv_iload_n hx hb d_Mo_cut_58 rfl (lv_at hl 1 rfl) ?_
      obtain ⟨r_10, S_10, hc_10, h⟩ := lf_cE h
      have hFc := lx_free hD hS hA
      refine va_calli (va_runV (As := [.int y_1]) (rest := [.ref M.a_at]) ⟨hx, hb, hml, hown, hts⟩ (l_Mo_item l dC dI X _ hc_10) (cwV 1 hts (gwV good_Mq (u_Mq_Mo _ k_Mo_255) (u_Mq_Mo _ k_Mo_256) (u_Mq_Mo _ k_Mo_511) (u_Mq_Mo _ k_Mo_0) (wcs (u_Mq_Mo _ k_Mo_257) (fun _ h => h))) rfl rfl rfl (by decide +kernel) ⟨Nat.le_of_ble_eq_true rfl, Nat.le_of_ble_eq_true rfl⟩) (pv_ofE (X.same _) (fun U z1 z2 => X.mono _ _ U hFc (hEw _ _ hS U z1 z2)) hP hK hD (va_recv hK hP (ci := 12) (q0 := 0) rfl rfl)) rfl rfl hl.1 rfl (lv_room (Nat.le_of_ble_eq_true rfl)) d_Mo_cut_59 ⟨by decide, by decide⟩) hS (fun q _ h => hFc q h) hFc (fun r_ u t H locs ht hvm hw hB hz1 hk1 hS => ?_)
      rw [hw]
      obtain ⟨hP, -, hD⟩ := hB
      rw [ht] at hP
      have hD := lx_dj hD hFc
      obtain ⟨g_11, h⟩ := lf_gE h
      refine va_iald hx hb hK hP 6 5 rfl rfl g_11 d_Mo_cut_62 ?_
      refine lv_topi (fun x_12 ex_12 => ?_)
      have h := lf_lE h ex_12
      refine lv_istore_n (lv' := [(3, .int x_12), (0, .ref M.o), (1, .int y_1), (2, .int y_2)]) hx hb d_Mo_cut_63 rfl hl (by decide) rfl (fun ls hl => ?_)
      refine lv_iload_n hx hb d_Mo_cut_64 rfl (lv_at hl 3 rfl) ?_
      refine lv_sipush (v := 512) hx hb d_Mo_cut_65 (by decide) ?_
      refine lv_aload_n hx hb d_Mo_cut_68 rfl (lv_at hl 1 rfl) ?_
      refine va_get (D := (dC, dI)) (ci := 12) (v := .int S_10.v_c) (C := R_Mo) (T := F_Mo) (N := 66) hx hb hts (fun w h => u_Mq_Mo w (i_Mo w h)) hown hK hP 0 rfl rfl 11 (by decide) (hts _ (u_Mq_Mo _ k_Mo_18)) (fun _ h9 => h9) rfl d_Mo_cut_69 ?_
      refine lv_imul hx hb d_Mo_cut_72 ?_
      obtain ⟨r_13, hc_13, h⟩ := lf_bE h
      have hFc := lx_free0 hS hA
      refine va_calli (va_runS (As := [.int y_2, .int (512 * S_10.v_c)]) (rest := []) ⟨hx, hb, hml, hown, hts⟩ (l_Mo_whole l dC dI  _ hc_13) (va_cwS 2 hts (gwS good_Mq (u_Mq_Mo _ k_Mo_178) (u_Mq_Mo _ k_Mo_179) (u_Mq_Mo _ k_Mo_0) (wcs (u_Mq_Mo _ k_Mo_180) (fun _ h => h))) rfl rfl rfl (by decide +kernel) ⟨Nat.le_of_ble_eq_true rfl, Nat.le_of_ble_eq_true rfl⟩) (ps_of (W := []) (tys := []) (hP.sub (ws' := []) [] rfl) (hK.sub [] rfl) (hD.sub (ws' := []) [] (by decide) rfl)) rfl rfl hl.1 rfl (lv_room (Nat.le_of_ble_eq_true rfl)) d_Mo_cut_73 ⟨by decide, by decide⟩) hS (fun q _ h => hFc q h) hFc (fun r_ u t H locs ht hvm hw hB hz1 hk1 hS => ?_)
      rw [hw]
      have hP := lx_stat (A := A) hP hk1
      refine lv_istore (lv' := [(4, .int r_13), (3, .int x_12), (0, .ref M.o), (1, .int y_1), (2, .int y_2)]) hx hb d_Mo_cut_76 hl (by decide) rfl (fun ls hl => ?_)
      refine lv_aload_n hx hb d_Mo_cut_78 rfl (lv_at hl 2 rfl) ?_
      refine lv_aload_n hx hb d_Mo_cut_79 rfl (lv_at hl 2 rfl) ?_
      refine lv_iload_n hx hb d_Mo_cut_80 rfl (lv_at hl 1 rfl) ?_
      obtain ⟨r_14, S_14, hc_14, h⟩ := lf_cE h
      have hFc := lx_free hD hS hA
      refine va_calli (va_runV (As := [.int x_12]) (rest := [.ref M.o]) ⟨hx, hb, hml, hown, hts⟩ (l_Mo_firstOf l dC dI X _ hc_14) (cwV 1 hts (gwV good_Mq (u_Mq_Mo _ k_Mo_127) (u_Mq_Mo _ k_Mo_128) (u_Mq_Mo _ k_Mo_488) (u_Mq_Mo _ k_Mo_0) (wcs (u_Mq_Mo _ k_Mo_129) (fun _ h => h))) rfl rfl rfl (by decide +kernel) ⟨Nat.le_of_ble_eq_true rfl, Nat.le_of_ble_eq_true rfl⟩) (pv_ofE (X.same _) (fun U z1 z2 => X.mono _ _ U hFc (hEw _ _ hS U z1 z2)) hP hK hD (va_recv hK hP (ci := 12) (q0 := 0) rfl rfl)) rfl rfl hl.1 rfl (lv_room (Nat.le_of_ble_eq_true rfl)) d_Mo_cut_81 ⟨by decide, by decide⟩) hS (fun q _ h => hFc q h) hFc (fun r_ u t H locs ht hvm hw hB hz1 hk1 hS => ?_)
      rw [hw]
      obtain ⟨hP, -, hD⟩ := hB
      rw [ht] at hP
      have hD := lx_dj hD hFc
      obtain ⟨S_15, hc_15, h⟩ := lf_bE h
      have hFc := lx_free hD hS hA
      refine va_callv (va_runV (As := [.int r_14]) (rest := []) ⟨hx, hb, hml, hown, hts⟩ (l_Mo_walk l dC dI X _ hc_15) (cwV 1 hts (gwV good_Mq (u_Mq_Mo _ k_Mo_275) (u_Mq_Mo _ k_Mo_276) (u_Mq_Mo _ k_Mo_487) (u_Mq_Mo _ k_Mo_0) (wcs (u_Mq_Mo _ k_Mo_277) (fun _ h => h))) rfl rfl rfl (by decide +kernel) ⟨Nat.le_of_ble_eq_true rfl, Nat.le_of_ble_eq_true rfl⟩) (pv_ofE (X.same _) (fun U z1 z2 => X.mono _ _ U hFc (hEw _ _ hS U z1 z2)) hP hK hD (va_recv hK hP (ci := 12) (q0 := 0) rfl rfl)) rfl rfl hl.1 rfl (lv_room (Nat.le_of_ble_eq_true rfl)) d_Mo_cut_84 ⟨by decide, by decide⟩) hS (fun q _ h => hFc q h) hFc (fun u t H locs ht hvm hw hB hz1 hk1 hS => ?_)
      obtain ⟨hP, -, hD⟩ := hB
      rw [ht] at hP
      have hD := lx_dj hD hFc
      refine lv_iload hx hb d_Mo_cut_87 (lv_at hl 0 rfl) ?_
      refine lv_istore (lv' := [(5, .int r_13), (4, .int r_13), (3, .int x_12), (0, .ref M.o), (1, .int y_1), (2, .int y_2)]) hx hb d_Mo_cut_89 hl (by decide) rfl (fun ls hl => ?_)
      exact hB_91 K y_2 x_12 r_13 r_13 S_15 _ _ _ h hP hD hS (lv_sub hl [3, 5, 2, 1, 0] rfl)
    · have h := lf_f h c_9
      exact hB_51 S_8 _ _ _ h hP hD hS (lv_sub hl [] rfl)
  have hB_11 : ∀ (y_1 : Int32) (y_2 : Int32) (z_1 : Int32) (z_2 : Int32) (S : MS) (H : Heap) (locs : List Loc) (ls : Array Slot), f_Mo_cut_11 K y_1 y_2 z_1 z_2 S = some (r, S') → va_P (dC, dI) classes (wM M S) H → va_D A (wM M S) → va_S A s.heap H locs → lv_has ls 6 [(0, .ref M.o), (1, .int y_1), (2, .int y_2)] → W p l e ({ frames := 14, cells := 0, slots := 0, locals := 381 }) s m ([.ref M.o, .int p0, .int p1] : List Value).toArray below meth c H locs 0 0 Q (F0 m 11 ls [.int z_2, .int z_1, .ref M.o]) := by
    intro y_1 y_2 z_1 z_2 S H locs ls h hP hD hS hl
    rw [f_Mo_cut_11] at h
    obtain ⟨r_2, S_2, hc_2, h⟩ := lf_cE h
    have hFc := lx_free hD hS hA
    refine va_calli (va_runV (As := [.int z_1, .int z_2]) (rest := []) ⟨hx, hb, hml, hown, hts⟩ (l_Mo_noFile l dC dI X _ hc_2) (cwV 2 hts (gwV good_Mq (u_Mq_Mo _ k_Mo_345) (u_Mq_Mo _ k_Mo_346) (u_Mq_Mo _ k_Mo_524) (u_Mq_Mo _ k_Mo_0) (wcs (u_Mq_Mo _ k_Mo_347) (fun _ h => h))) rfl rfl rfl (by decide +kernel) ⟨Nat.le_of_ble_eq_true rfl, Nat.le_of_ble_eq_true rfl⟩) (pv_ofE (X.same _) (fun U z1 z2 => X.mono _ _ U hFc (hEw _ _ hS U z1 z2)) hP hK hD (va_recv hK hP (ci := 12) (q0 := 0) rfl rfl)) rfl rfl hl.1 rfl (lv_room (Nat.le_of_ble_eq_true rfl)) d_Mo_cut_11 ⟨by decide, by decide⟩) hS (fun q _ h => hFc q h) hFc (fun r_ u t H locs ht hvm hw hB hz1 hk1 hS => ?_)
    rw [hw]
    obtain ⟨hP, -, hD⟩ := hB
    rw [ht] at hP
    have hD := lx_dj hD hFc
    refine lv_if_ne (tgt := 51) hx hb d_Mo_cut_14 (by decide) (fun c_3 => ?_) (fun c_3 => ?_)
    · have h := lf_f h c_3
      exact hB_51 S_2 _ _ _ h hP hD hS (lv_sub hl [] rfl)
    · have h := lf_t h c_3
      refine lv_aload_n hx hb d_Mo_cut_17 rfl (lv_at hl 0 rfl) ?_
      refine lv_iload_n hx hb d_Mo_cut_18 rfl (lv_at hl 2 rfl) ?_
      refine lv_aload_n hx hb d_Mo_cut_19 rfl (lv_at hl 0 rfl) ?_
      refine lv_aload_n hx hb d_Mo_cut_20 rfl (lv_at hl 0 rfl) ?_
      refine va_get (D := (dC, dI)) (ci := 12) (v := .ref M.a_at) (C := R_Mo) (T := F_Mo) (N := 66) hx hb hts (fun w h => u_Mq_Mo w (i_Mo w h)) hown hK hP 0 rfl rfl 24 (by decide) (hts _ (u_Mq_Mo _ k_Mo_31)) (fun _ h9 => h9) rfl d_Mo_cut_21 ?_
      refine lv_aload_n hx hb d_Mo_cut_24 rfl (lv_at hl 0 rfl) ?_
      refine lv_iload_n hx hb d_Mo_cut_25 rfl (lv_at hl 1 rfl) ?_
      obtain ⟨r_4, S_4, hc_4, h⟩ := lf_cE h
      have hFc := lx_free hD hS hA
      refine va_calli (va_runV (As := [.int y_1]) (rest := [.ref M.a_at, .ref M.o, .int y_2, .ref M.o]) ⟨hx, hb, hml, hown, hts⟩ (l_Mo_item l dC dI X _ hc_4) (cwV 1 hts (gwV good_Mq (u_Mq_Mo _ k_Mo_255) (u_Mq_Mo _ k_Mo_256) (u_Mq_Mo _ k_Mo_511) (u_Mq_Mo _ k_Mo_0) (wcs (u_Mq_Mo _ k_Mo_257) (fun _ h => h))) rfl rfl rfl (by decide +kernel) ⟨Nat.le_of_ble_eq_true rfl, Nat.le_of_ble_eq_true rfl⟩) (pv_ofE (X.same _) (fun U z1 z2 => X.mono _ _ U hFc (hEw _ _ hS U z1 z2)) hP hK hD (va_recv hK hP (ci := 12) (q0 := 0) rfl rfl)) rfl rfl hl.1 rfl (lv_room (Nat.le_of_ble_eq_true rfl)) d_Mo_cut_26 ⟨by decide, by decide⟩) hS (fun q _ h => hFc q h) hFc (fun r_ u t H locs ht hvm hw hB hz1 hk1 hS => ?_)
      rw [hw]
      obtain ⟨hP, -, hD⟩ := hB
      rw [ht] at hP
      have hD := lx_dj hD hFc
      obtain ⟨g_5, h⟩ := lf_gE h
      refine va_iald hx hb hK hP 6 5 rfl rfl g_5 d_Mo_cut_29 ?_
      refine lv_bipush (v := 28) hx hb d_Mo_cut_30 (by decide) ?_
      refine lv_iadd hx hb d_Mo_cut_32 ?_
      obtain ⟨r_6, S_6, hc_6, h⟩ := lf_cE h
      have hFc := lx_free hD hS hA
      refine va_calli (va_runV (As := [.int ((S_4.v_at r_4.toNatClampNeg) + 28)]) (rest := [.int y_2, .ref M.o]) ⟨hx, hb, hml, hown, hts⟩ (l_Mo_four l dC dI X _ hc_6) (cwV 1 hts (gwV good_Mq (u_Mq_Mo _ k_Mo_100) (u_Mq_Mo _ k_Mo_101) (u_Mq_Mo _ k_Mo_477) (u_Mq_Mo _ k_Mo_0) (wcs (u_Mq_Mo _ k_Mo_102) (fun _ h => h))) rfl rfl rfl (by decide +kernel) ⟨Nat.le_of_ble_eq_true rfl, Nat.le_of_ble_eq_true rfl⟩) (pv_ofE (X.same _) (fun U z1 z2 => X.mono _ _ U hFc (hEw _ _ hS U z1 z2)) hP hK hD (va_recv hK hP (ci := 12) (q0 := 0) rfl rfl)) rfl rfl hl.1 rfl (lv_room (Nat.le_of_ble_eq_true rfl)) d_Mo_cut_33 ⟨by decide, by decide⟩) hS (fun q _ h => hFc q h) hFc (fun r_ u t H locs ht hvm hw hB hz1 hk1 hS => ?_)
      rw [hw]
      obtain ⟨hP, -, hD⟩ := hB
      rw [ht] at hP
      have hD := lx_dj hD hFc
      refine lv_icmp_le (tgt := 43) hx hb d_Mo_cut_36 (by decide) (fun c_7 => ?_) (fun c_7 => ?_)
      · have h := lf_t h c_7
        refine lv_iconst (v := 0) hx hb d_Mo_cut_43 (by decide) ?_
        exact hB_44 y_1 y_2 0 S_6 _ _ _ h hP hD hS (lv_sub hl [0, 1, 2] rfl)
      · have h := lf_f h c_7
        refine lv_iconst (v := 1) hx hb d_Mo_cut_39 (by decide) ?_
        refine lv_goto (tgt := 44) hx hb d_Mo_cut_40 (by decide) ?_
        exact hB_44 y_1 y_2 1 S_6 _ _ _ h hP hD hS (lv_sub hl [0, 1, 2] rfl)
  rw [f_Mo_cut] at h
  refine lv_aload_n hx hb d_Mo_cut_0 rfl (lv_at hl 0 rfl) ?_
  refine lv_iload_n hx hb d_Mo_cut_1 rfl (lv_at hl 1 rfl) ?_
  refine lv_iload_n hx hb d_Mo_cut_2 rfl (lv_at hl 2 rfl) ?_
  refine lv_if_ge (tgt := 10) hx hb d_Mo_cut_3 (by decide) (fun c_1 => ?_) (fun c_1 => ?_)
  · have h := lf_t h c_1
    refine lv_iconst (v := 0) hx hb d_Mo_cut_10 (by decide) ?_
    exact hB_11 p0 p1 p0 0 S _ _ _ h hP hD hS (lv_sub hl [0, 1, 2] rfl)
  · have h := lf_f h c_1
    refine lv_iconst (v := 1) hx hb d_Mo_cut_6 (by decide) ?_
    refine lv_goto (tgt := 11) hx hb d_Mo_cut_7 (by decide) ?_
    exact hB_11 p0 p1 p0 1 S _ _ _ h hP hD hS (lv_sub hl [0, 1, 2] rfl)
set_option maxHeartbeats 4000000 in
set_option maxRecDepth 100000 in
theorem l_Mo_remove (l : Launch) (dC : Nat → ClassId) (dI : Nat → Nat → Nat) {K : Nat} {M : MA} {E : (Nat → Prop) → State → Prop} (X : lx_X l dC dI K M E) (sz : Nat) {S S' : MS} {p0 : Int32} (h : f_Mo_remove K S p0 = some S') : Met l y_Mo_remove (.code y_Mo_remove b_Mo_remove 4 none :: V_Mq) ({ frames := 13, cells := 0, slots := 0, locals := 359 }) (va_Pc [.ref M.o, .int p0] (fun U => U.heap.size = sz ∧ at_ (dC, dI) (fun _ => True) (wM M S) (tM M) U ∧ E (va_A (wM M S) sz) U)) (va_Qv (fun (u : Unit) => True) (fun (u : Unit) t => at_ (dC, dI) (va_A (wM M S) sz) (wM M S') (tM M) t) (va_A (wM M S) sz)) 0 0 (va_A (wM M S) sz) := by
  refine Met.ofW (cc := b_Mo_remove) (maxL := 4) (ret := none) (by decide) rfl ?_
  intro p e s m args below meth c s₁ B hml hv
  obtain ⟨rfl, hsz, ⟨hP, hK, hD0⟩, hE⟩ := hv
  have hx := B.exec
  have hb := B.bytes
  have hr := B.returns
  have hts0 := atoms_spec (ws := .code y_Mo_remove b_Mo_remove 4 none :: V_Mq) B.pre
  have hts : ∀ w ∈ V_Mq, w.before ([.ref M.o, .int p0] : List Value).toArray s = true := fun w h => hts0 w (List.mem_cons_of_mem _ h)
  have hown : s.vm.findClass R_Mo = some m.cls := findClass_of_methodNamed B.named
  subst hsz
  have hD := hD0.self (sz := s.heap.size)
  generalize hAe : va_A (wM M S) s.heap.size = A at hD hE ⊢
  have hA : ∀ q : Nat, s.heap.size ≤ q → A q := fun q h => by rw [← hAe]; exact Or.inr h
  have hS : va_S A s.heap s.heap [] := va_S.rf
  have hP : va_P (dC, dI) classes (wM M S) s.heap := hP
  have hK : va_K (dC, dI) classes (tM M) s := hK
  have hEw : ∀ (H : Heap) (locs : List Loc), va_S A s.heap H locs → ∀ U : State, U.heap = H → s.WarmedH U.vm → E A U := fun H locs hS U hU hW => X.kept A s U H locs hE hS hU hW
  have hl := lv_entry ([.ref M.o, .int p0]) (n := 4) (Nat.le_of_ble_eq_true rfl)
  rw [lg_entry_eq]
  generalize (lg_sl ([.ref M.o, .int p0]) ++ List.replicate (4 - (lg_sl ([.ref M.o, .int p0])).length) Slot.unset).toArray = ls at hl ⊢
  have hl : lv_has ls 4 [(0, .ref M.o), (1, .int p0)] := hl
  refine qabs (fun Q hQ => ?_)
  have hB_128 : ∀ (k : Nat), ∀ (y_2 : Int32) (y_3 : Int32) (S : MS) (H : Heap) (locs : List Loc) (ls : Array Slot), f_Mo_remove_128 K k y_2 y_3 S = some S' → va_P (dC, dI) classes (wM M S) H → va_D A (wM M S) → va_S A s.heap H locs → lv_has ls 4 [(0, .ref M.o), (2, .int y_2), (3, .int y_3)] → W p l e ({ frames := 13, cells := 0, slots := 0, locals := 359 }) s m ([.ref M.o, .int p0] : List Value).toArray below meth c H locs 0 0 Q (F0 m 128 ls []) := by
    intro k
    induction k with
    | zero => intro y_2 y_3 S H locs ls h; exact lf_no h
    | succ k hr_128 =>
      intro y_2 y_3 S H locs ls h hP hD hS hl
      rw [f_Mo_remove_128] at h
      refine lv_iload_n hx hb d_Mo_remove_128 rfl (lv_at hl 2 rfl) ?_
      refine lv_aload_n hx hb d_Mo_remove_129 rfl (lv_at hl 0 rfl) ?_
      refine va_get (D := (dC, dI)) (ci := 12) (v := .ref M.a_slot) (C := R_Mo) (T := F_Mo) (N := 66) hx hb hts (fun w h => u_Mq_Mo w (i_Mo w h)) hown hK hP 0 rfl rfl 25 (by decide) (hts _ (u_Mq_Mo _ k_Mo_32)) (fun _ h9 => h9) rfl d_Mo_remove_130 ?_
      refine lv_iload_n hx hb d_Mo_remove_133 rfl (lv_at hl 1 rfl) ?_
      obtain ⟨g_26, h⟩ := lf_gE h
      refine va_iald hx hb hK hP 7 6 rfl rfl g_26 d_Mo_remove_134 ?_
      refine lv_icmp_gt (tgt := 156) hx hb d_Mo_remove_135 (by decide) (fun c_27 => ?_) (fun c_27 => ?_)
      · have h := lf_t h c_27
        refine lv_aload_n hx hb d_Mo_remove_156 rfl (lv_at hl 0 rfl) ?_
        obtain ⟨S_28, hc_28, h⟩ := lf_bE h
        have hFc := lx_free hD hS hA
        refine va_callv (va_runV (As := []) (rest := []) ⟨hx, hb, hml, hown, hts⟩ (l_Mo_changed l dC dI X _ hc_28) (cwV 0 hts (gwV good_Mq (u_Mq_Mo _ k_Mo_205) (u_Mq_Mo _ k_Mo_206) (u_Mq_Mo _ k_Mo_506) (u_Mq_Mo _ k_Mo_0) (wcs (u_Mq_Mo _ k_Mo_207) (fun _ h => h))) rfl rfl rfl (by decide +kernel) ⟨Nat.le_of_ble_eq_true rfl, Nat.le_of_ble_eq_true rfl⟩) (pv_ofE (X.same _) (fun U z1 z2 => X.mono _ _ U hFc (hEw _ _ hS U z1 z2)) hP hK hD (va_recv hK hP (ci := 12) (q0 := 0) rfl rfl)) rfl rfl hl.1 rfl (lv_room (Nat.le_of_ble_eq_true rfl)) d_Mo_remove_157 ⟨by decide, by decide⟩) hS (fun q _ h => hFc q h) hFc (fun u t H locs ht hvm hw hB hz1 hk1 hS => ?_)
        obtain ⟨hP, -, hD⟩ := hB
        rw [ht] at hP
        have hD := lx_dj hD hFc
        rw [hQ]
        have e2 : S_28 = S' := Option.some.inj h
        have hP := lx_newP e2.symm hP
        have hD := lx_newD e2.symm hD
        exact W.vret hx hb hr (fun t ht hW => ⟨⟨(), rfl, trivial, by rw [ht]; exact hP, va_K.moved hW.alike hK, hD⟩, hS.F ht⟩) hS.2.2 d_Mo_remove_160
      · have h := lf_f h c_27
        refine lv_aload_n hx hb d_Mo_remove_138 rfl (lv_at hl 0 rfl) ?_
        refine va_get (D := (dC, dI)) (ci := 12) (v := .ref M.a_disk) (C := R_Mo) (T := F_Mo) (N := 66) hx hb hts (fun w h => u_Mq_Mo w (i_Mo w h)) hown hK hP 0 rfl rfl 1 (by decide) (hts _ (u_Mq_Mo _ k_Mo_8)) (fun _ h9 => h9) rfl d_Mo_remove_139 ?_
        refine lv_aload_n hx hb d_Mo_remove_142 rfl (lv_at hl 0 rfl) ?_
        refine lv_iload_n hx hb d_Mo_remove_143 rfl (lv_at hl 2 rfl) ?_
        obtain ⟨r_29, S_29, hc_29, h⟩ := lf_cE h
        have hFc := lx_free hD hS hA
        refine va_calli (va_runV (As := [.int y_3]) (rest := [.ref M.a_disk]) ⟨hx, hb, hml, hown, hts⟩ (l_Mo_slotAt l dC dI X _ hc_29) (cwV 1 hts (gwV good_Mq (u_Mq_Mo _ k_Mo_133) (u_Mq_Mo _ k_Mo_134) (u_Mq_Mo _ k_Mo_491) (u_Mq_Mo _ k_Mo_0) (wcs (u_Mq_Mo _ k_Mo_135) (fun _ h => h))) rfl rfl rfl (by decide +kernel) ⟨Nat.le_of_ble_eq_true rfl, Nat.le_of_ble_eq_true rfl⟩) (pv_ofE (X.same _) (fun U z1 z2 => X.mono _ _ U hFc (hEw _ _ hS U z1 z2)) hP hK hD (va_recv hK hP (ci := 12) (q0 := 0) rfl rfl)) rfl rfl hl.1 rfl (lv_room (Nat.le_of_ble_eq_true rfl)) d_Mo_remove_144 ⟨by decide, by decide⟩) hS (fun q _ h => hFc q h) hFc (fun r_ u t H locs ht hvm hw hB hz1 hk1 hS => ?_)
        rw [hw]
        obtain ⟨hP, -, hD⟩ := hB
        rw [ht] at hP
        have hD := lx_dj hD hFc
        refine lv_bipush (v := (-27)) hx hb d_Mo_remove_147 (by decide) ?_
        obtain ⟨g_30, h⟩ := lf_gE h
        refine va_bast hx hb hK hP hD hS 1 0 rfl rfl g_30 d_Mo_remove_149 (fun H locs hP hD hS => ?_)
        obtain ⟨S_31, eS_31, h⟩ := lf_lX h
        have hP := lx_newP eS_31 hP
        have hD := lx_newD eS_31 hD
        obtain ⟨x_32, ex_32, h⟩ := lf_lX h
        refine lv_iinc (v := x_32) (lv' := [(3, .int x_32), (0, .ref M.o), (2, .int y_2)]) hx hb d_Mo_remove_150 hl (k := 2) rfl (by rw [ex_32]; rfl) (by decide) rfl (fun ls hl => ?_)
        refine lv_goto (tgt := 128) hx hb d_Mo_remove_153 (by decide) ?_
        exact hr_128 y_2 x_32 S_31 _ _ _ h hP hD hS (lv_sub hl [1, 2, 0] rfl)
  have hB_89 : ∀ (k : Nat), ∀ (y_2 : Int32) (y_3 : Int32) (S : MS) (H : Heap) (locs : List Loc) (ls : Array Slot), f_Mo_remove_89 K k y_2 y_3 S = some S' → va_P (dC, dI) classes (wM M S) H → va_D A (wM M S) → va_S A s.heap H locs → lv_has ls 4 [(0, .ref M.o), (2, .int y_2), (3, .int y_3)] → W p l e ({ frames := 13, cells := 0, slots := 0, locals := 359 }) s m ([.ref M.o, .int p0] : List Value).toArray below meth c H locs 0 0 Q (F0 m 89 ls []) := by
    intro k
    induction k with
    | zero => intro y_2 y_3 S H locs ls h; exact lf_no h
    | succ k hr_89 =>
      intro y_2 y_3 S H locs ls h hP hD hS hl
      rw [f_Mo_remove_89] at h
      refine lv_iload_n hx hb d_Mo_remove_89 rfl (lv_at hl 2 rfl) ?_
      refine lv_aload_n hx hb d_Mo_remove_90 rfl (lv_at hl 0 rfl) ?_
      refine va_get (D := (dC, dI)) (ci := 12) (v := .int S.v_links) (C := R_Mo) (T := F_Mo) (N := 66) hx hb hts (fun w h => u_Mq_Mo w (i_Mo w h)) hown hK hP 0 rfl rfl 35 (by decide) (hts _ (u_Mq_Mo _ k_Mo_42)) (fun _ h9 => h9) rfl d_Mo_remove_91 ?_
      refine lv_icmp_ge (tgt := 114) hx hb d_Mo_remove_94 (by decide) (fun c_19 => ?_) (fun c_19 => ?_)
      · have h := lf_t h c_19
        refine lv_aload_n hx hb d_Mo_remove_114 rfl (lv_at hl 0 rfl) ?_
        refine va_get (D := (dC, dI)) (ci := 12) (v := .ref M.a_slot) (C := R_Mo) (T := F_Mo) (N := 66) hx hb hts (fun w h => u_Mq_Mo w (i_Mo w h)) hown hK hP 0 rfl rfl 25 (by decide) (hts _ (u_Mq_Mo _ k_Mo_32)) (fun _ h9 => h9) rfl d_Mo_remove_115 ?_
        refine lv_iload_n hx hb d_Mo_remove_118 rfl (lv_at hl 1 rfl) ?_
        obtain ⟨g_20, h⟩ := lf_gE h
        refine va_iald hx hb hK hP 7 6 rfl rfl g_20 d_Mo_remove_119 ?_
        refine lv_aload_n hx hb d_Mo_remove_120 rfl (lv_at hl 0 rfl) ?_
        refine va_get (D := (dC, dI)) (ci := 12) (v := .ref M.a_parts) (C := R_Mo) (T := F_Mo) (N := 66) hx hb hts (fun w h => u_Mq_Mo w (i_Mo w h)) hown hK hP 0 rfl rfl 26 (by decide) (hts _ (u_Mq_Mo _ k_Mo_33)) (fun _ h9 => h9) rfl d_Mo_remove_121 ?_
        refine lv_iload_n hx hb d_Mo_remove_124 rfl (lv_at hl 1 rfl) ?_
        obtain ⟨g_21, h⟩ := lf_gE h
        refine va_iald hx hb hK hP 8 7 rfl rfl g_21 d_Mo_remove_125 ?_
        refine lv_isub hx hb d_Mo_remove_126 ?_
        refine lv_topi (fun x_22 ex_22 => ?_)
        have h := lf_lE h ex_22
        refine lv_istore_n (lv' := [(3, .int x_22), (0, .ref M.o), (2, .int y_2)]) hx hb d_Mo_remove_127 rfl hl (by decide) rfl (fun ls hl => ?_)
        exact hB_128 K y_2 x_22 S _ _ _ h hP hD hS (lv_sub hl [1, 2, 0] rfl)
      · have h := lf_f h c_19
        refine lv_aload_n hx hb d_Mo_remove_97 rfl (lv_at hl 0 rfl) ?_
        refine lv_aload_n hx hb d_Mo_remove_98 rfl (lv_at hl 0 rfl) ?_
        refine va_get (D := (dC, dI)) (ci := 12) (v := .ref M.a_chain) (C := R_Mo) (T := F_Mo) (N := 66) hx hb hts (fun w h => u_Mq_Mo w (i_Mo w h)) hown hK hP 0 rfl rfl 33 (by decide) (hts _ (u_Mq_Mo _ k_Mo_40)) (fun _ h9 => h9) rfl d_Mo_remove_99 ?_
        refine lv_iload_n hx hb d_Mo_remove_102 rfl (lv_at hl 2 rfl) ?_
        obtain ⟨g_23, h⟩ := lf_gE h
        refine va_iald hx hb hK hP 15 14 rfl rfl g_23 d_Mo_remove_103 ?_
        refine lv_iconst (v := 0) hx hb d_Mo_remove_104 (by decide) ?_
        obtain ⟨S_24, hc_24, h⟩ := lf_bE h
        have hFc := lx_free hD hS hA
        refine va_callv (va_runV (As := [.int (S.v_chain y_3.toNatClampNeg), .int 0]) (rest := []) ⟨hx, hb, hml, hown, hts⟩ (l_Mo_setEntry l dC dI X _ hc_24) (cwV 2 hts (gwV good_Mq (u_Mq_Mo _ k_Mo_231) (u_Mq_Mo _ k_Mo_232) (u_Mq_Mo _ k_Mo_481) (u_Mq_Mo _ k_Mo_0) (wcs (u_Mq_Mo _ k_Mo_233) (fun _ h => h))) rfl rfl rfl (by decide +kernel) ⟨Nat.le_of_ble_eq_true rfl, Nat.le_of_ble_eq_true rfl⟩) (pv_ofE (X.same _) (fun U z1 z2 => X.mono _ _ U hFc (hEw _ _ hS U z1 z2)) hP hK hD (va_recv hK hP (ci := 12) (q0 := 0) rfl rfl)) rfl rfl hl.1 rfl (lv_room (Nat.le_of_ble_eq_true rfl)) d_Mo_remove_105 ⟨by decide, by decide⟩) hS (fun q _ h => hFc q h) hFc (fun u t H locs ht hvm hw hB hz1 hk1 hS => ?_)
        obtain ⟨hP, -, hD⟩ := hB
        rw [ht] at hP
        have hD := lx_dj hD hFc
        obtain ⟨x_25, ex_25, h⟩ := lf_lX h
        refine lv_iinc (v := x_25) (lv' := [(3, .int x_25), (0, .ref M.o), (2, .int y_2)]) hx hb d_Mo_remove_108 hl (k := 2) rfl (by rw [ex_25]; rfl) (by decide) rfl (fun ls hl => ?_)
        refine lv_goto (tgt := 89) hx hb d_Mo_remove_111 (by decide) ?_
        exact hr_89 y_2 x_25 S_24 _ _ _ h hP hD hS (lv_sub hl [1, 2, 0] rfl)
  have hB_62 : ∀ (y_2 : Int32) (z_1 : Int32) (S : MS) (H : Heap) (locs : List Loc) (ls : Array Slot), f_Mo_remove_62 K y_2 z_1 S = some S' → va_P (dC, dI) classes (wM M S) H → va_D A (wM M S) → va_S A s.heap H locs → lv_has ls 4 [(0, .ref M.o), (2, .int y_2)] → W p l e ({ frames := 13, cells := 0, slots := 0, locals := 359 }) s m ([.ref M.o, .int p0] : List Value).toArray below meth c H locs 0 0 Q (F0 m 62 ls [.int z_1, .ref M.o]) := by
    intro y_2 z_1 S H locs ls h hP hD hS hl
    rw [f_Mo_remove_62] at h
    refine lv_iconst (v := 3) hx hb d_Mo_remove_62 (by decide) ?_
    obtain ⟨r_13, S_13, hc_13, h⟩ := lf_cE h
    have hFc := lx_free hD hS hA
    refine va_calli (va_runV (As := [.int z_1, .int 3]) (rest := []) ⟨hx, hb, hml, hown, hts⟩ (l_Mo_fails l dC dI X _ hc_13) (cwV 2 hts (gwV good_Mq (u_Mq_Mo _ k_Mo_217) (u_Mq_Mo _ k_Mo_218) (u_Mq_Mo _ k_Mo_474) (u_Mq_Mo _ k_Mo_0) (wcs (u_Mq_Mo _ k_Mo_219) (fun _ h => h))) rfl rfl rfl (by decide +kernel) ⟨Nat.le_of_ble_eq_true rfl, Nat.le_of_ble_eq_true rfl⟩) (pv_ofE (X.same _) (fun U z1 z2 => X.mono _ _ U hFc (hEw _ _ hS U z1 z2)) hP hK hD (va_recv hK hP (ci := 12) (q0 := 0) rfl rfl)) rfl rfl hl.1 rfl (lv_room (Nat.le_of_ble_eq_true rfl)) d_Mo_remove_63 ⟨by decide, by decide⟩) hS (fun q _ h => hFc q h) hFc (fun r_ u t H locs ht hvm hw hB hz1 hk1 hS => ?_)
    rw [hw]
    obtain ⟨hP, -, hD⟩ := hB
    rw [ht] at hP
    have hD := lx_dj hD hFc
    refine lv_if_eq (tgt := 70) hx hb d_Mo_remove_66 (by decide) (fun c_14 => ?_) (fun c_14 => ?_)
    · have h := lf_t h c_14
      refine lv_aload_n hx hb d_Mo_remove_70 rfl (lv_at hl 0 rfl) ?_
      refine lv_aload_n hx hb d_Mo_remove_71 rfl (lv_at hl 0 rfl) ?_
      obtain ⟨r_15, S_15, hc_15, h⟩ := lf_cE h
      have hFc := lx_free hD hS hA
      refine va_calli (va_runV (As := []) (rest := [.ref M.o]) ⟨hx, hb, hml, hown, hts⟩ (l_Mo_folderHere l dC dI X _ hc_15) (cwV 0 hts (gwV good_Mq (u_Mq_Mo _ k_Mo_246) (u_Mq_Mo _ k_Mo_247) (u_Mq_Mo _ k_Mo_508) (u_Mq_Mo _ k_Mo_0) (wcs (u_Mq_Mo _ k_Mo_248) (fun _ h => h))) rfl rfl rfl (by decide +kernel) ⟨Nat.le_of_ble_eq_true rfl, Nat.le_of_ble_eq_true rfl⟩) (pv_ofE (X.same _) (fun U z1 z2 => X.mono _ _ U hFc (hEw _ _ hS U z1 z2)) hP hK hD (va_recv hK hP (ci := 12) (q0 := 0) rfl rfl)) rfl rfl hl.1 rfl (lv_room (Nat.le_of_ble_eq_true rfl)) d_Mo_remove_72 ⟨by decide, by decide⟩) hS (fun q _ h => hFc q h) hFc (fun r_ u t H locs ht hvm hw hB hz1 hk1 hS => ?_)
      rw [hw]
      obtain ⟨hP, -, hD⟩ := hB
      rw [ht] at hP
      have hD := lx_dj hD hFc
      obtain ⟨S_16, hc_16, h⟩ := lf_bE h
      have hFc := lx_free hD hS hA
      refine va_callv (va_runV (As := [.int r_15]) (rest := []) ⟨hx, hb, hml, hown, hts⟩ (l_Mo_loadFolder l dC dI X _ hc_16) (cwV 1 hts (gwV good_Mq (u_Mq_Mo _ k_Mo_325) (u_Mq_Mo _ k_Mo_326) (u_Mq_Mo _ k_Mo_493) (u_Mq_Mo _ k_Mo_0) (wcs (u_Mq_Mo _ k_Mo_327) (fun _ h => h))) rfl rfl rfl (by decide +kernel) ⟨Nat.le_of_ble_eq_true rfl, Nat.le_of_ble_eq_true rfl⟩) (pv_ofE (X.same _) (fun U z1 z2 => X.mono _ _ U hFc (hEw _ _ hS U z1 z2)) hP hK hD (va_recv hK hP (ci := 12) (q0 := 0) rfl rfl)) rfl rfl hl.1 rfl (lv_room (Nat.le_of_ble_eq_true rfl)) d_Mo_remove_75 ⟨by decide, by decide⟩) hS (fun q _ h => hFc q h) hFc (fun u t H locs ht hvm hw hB hz1 hk1 hS => ?_)
      obtain ⟨hP, -, hD⟩ := hB
      rw [ht] at hP
      have hD := lx_dj hD hFc
      refine lv_aload_n hx hb d_Mo_remove_78 rfl (lv_at hl 0 rfl) ?_
      refine lv_aload_n hx hb d_Mo_remove_79 rfl (lv_at hl 0 rfl) ?_
      refine lv_iload_n hx hb d_Mo_remove_80 rfl (lv_at hl 1 rfl) ?_
      obtain ⟨r_17, S_17, hc_17, h⟩ := lf_cE h
      have hFc := lx_free hD hS hA
      refine va_calli (va_runV (As := [.int y_2]) (rest := [.ref M.o]) ⟨hx, hb, hml, hown, hts⟩ (l_Mo_beginOf l dC dI X _ hc_17) (cwV 1 hts (gwV good_Mq (u_Mq_Mo _ k_Mo_124) (u_Mq_Mo _ k_Mo_125) (u_Mq_Mo _ k_Mo_490) (u_Mq_Mo _ k_Mo_0) (wcs (u_Mq_Mo _ k_Mo_126) (fun _ h => h))) rfl rfl rfl (by decide +kernel) ⟨Nat.le_of_ble_eq_true rfl, Nat.le_of_ble_eq_true rfl⟩) (pv_ofE (X.same _) (fun U z1 z2 => X.mono _ _ U hFc (hEw _ _ hS U z1 z2)) hP hK hD (va_recv hK hP (ci := 12) (q0 := 0) rfl rfl)) rfl rfl hl.1 rfl (lv_room (Nat.le_of_ble_eq_true rfl)) d_Mo_remove_81 ⟨by decide, by decide⟩) hS (fun q _ h => hFc q h) hFc (fun r_ u t H locs ht hvm hw hB hz1 hk1 hS => ?_)
      rw [hw]
      obtain ⟨hP, -, hD⟩ := hB
      rw [ht] at hP
      have hD := lx_dj hD hFc
      obtain ⟨S_18, hc_18, h⟩ := lf_bE h
      have hFc := lx_free hD hS hA
      refine va_callv (va_runV (As := [.int r_17]) (rest := []) ⟨hx, hb, hml, hown, hts⟩ (l_Mo_walk l dC dI X _ hc_18) (cwV 1 hts (gwV good_Mq (u_Mq_Mo _ k_Mo_275) (u_Mq_Mo _ k_Mo_276) (u_Mq_Mo _ k_Mo_487) (u_Mq_Mo _ k_Mo_0) (wcs (u_Mq_Mo _ k_Mo_277) (fun _ h => h))) rfl rfl rfl (by decide +kernel) ⟨Nat.le_of_ble_eq_true rfl, Nat.le_of_ble_eq_true rfl⟩) (pv_ofE (X.same _) (fun U z1 z2 => X.mono _ _ U hFc (hEw _ _ hS U z1 z2)) hP hK hD (va_recv hK hP (ci := 12) (q0 := 0) rfl rfl)) rfl rfl hl.1 rfl (lv_room (Nat.le_of_ble_eq_true rfl)) d_Mo_remove_84 ⟨by decide, by decide⟩) hS (fun q _ h => hFc q h) hFc (fun u t H locs ht hvm hw hB hz1 hk1 hS => ?_)
      obtain ⟨hP, -, hD⟩ := hB
      rw [ht] at hP
      have hD := lx_dj hD hFc
      refine lv_iconst (v := 0) hx hb d_Mo_remove_87 (by decide) ?_
      refine lv_istore_n (lv' := [(3, .int 0), (0, .ref M.o), (2, .int y_2)]) hx hb d_Mo_remove_88 rfl hl (by decide) rfl (fun ls hl => ?_)
      exact hB_89 K y_2 0 S_18 _ _ _ h hP hD hS (lv_sub hl [1, 2, 0] rfl)
    · have h := lf_f h c_14
      rw [hQ]
      have e2 : S_13 = S' := Option.some.inj h
      have hP := lx_newP e2.symm hP
      have hD := lx_newD e2.symm hD
      exact W.vret hx hb hr (fun t ht hW => ⟨⟨(), rfl, trivial, by rw [ht]; exact hP, va_K.moved hW.alike hK, hD⟩, hS.F ht⟩) hS.2.2 d_Mo_remove_69
  have hB_61 : ∀ (y_2 : Int32) (S : MS) (H : Heap) (locs : List Loc) (ls : Array Slot), f_Mo_remove_61 K y_2 S = some S' → va_P (dC, dI) classes (wM M S) H → va_D A (wM M S) → va_S A s.heap H locs → lv_has ls 4 [(0, .ref M.o), (2, .int y_2)] → W p l e ({ frames := 13, cells := 0, slots := 0, locals := 359 }) s m ([.ref M.o, .int p0] : List Value).toArray below meth c H locs 0 0 Q (F0 m 61 ls [.ref M.o]) := by
    intro y_2 S H locs ls h hP hD hS hl
    rw [f_Mo_remove_61] at h
    refine lv_iconst (v := 0) hx hb d_Mo_remove_61 (by decide) ?_
    exact hB_62 y_2 0 S _ _ _ h hP hD hS (lv_sub hl [0, 1] rfl)
  have hB_25 : ∀ (y_1 : Int32) (z_1 : Int32) (S : MS) (H : Heap) (locs : List Loc) (ls : Array Slot), f_Mo_remove_25 K y_1 z_1 S = some S' → va_P (dC, dI) classes (wM M S) H → va_D A (wM M S) → va_S A s.heap H locs → lv_has ls 4 [(0, .ref M.o), (1, .int y_1)] → W p l e ({ frames := 13, cells := 0, slots := 0, locals := 359 }) s m ([.ref M.o, .int p0] : List Value).toArray below meth c H locs 0 0 Q (F0 m 25 ls [.int z_1, .ref M.o]) := by
    intro y_1 z_1 S H locs ls h hP hD hS hl
    rw [f_Mo_remove_25] at h
    refine lv_iconst (v := 2) hx hb d_Mo_remove_25 (by decide) ?_
    obtain ⟨r_6, S_6, hc_6, h⟩ := lf_cE h
    have hFc := lx_free hD hS hA
    refine va_calli (va_runV (As := [.int z_1, .int 2]) (rest := []) ⟨hx, hb, hml, hown, hts⟩ (l_Mo_fails l dC dI X _ hc_6) (cwV 2 hts (gwV good_Mq (u_Mq_Mo _ k_Mo_217) (u_Mq_Mo _ k_Mo_218) (u_Mq_Mo _ k_Mo_474) (u_Mq_Mo _ k_Mo_0) (wcs (u_Mq_Mo _ k_Mo_219) (fun _ h => h))) rfl rfl rfl (by decide +kernel) ⟨Nat.le_of_ble_eq_true rfl, Nat.le_of_ble_eq_true rfl⟩) (pv_ofE (X.same _) (fun U z1 z2 => X.mono _ _ U hFc (hEw _ _ hS U z1 z2)) hP hK hD (va_recv hK hP (ci := 12) (q0 := 0) rfl rfl)) rfl rfl hl.1 rfl (lv_room (Nat.le_of_ble_eq_true rfl)) d_Mo_remove_26 ⟨by decide, by decide⟩) hS (fun q _ h => hFc q h) hFc (fun r_ u t H locs ht hvm hw hB hz1 hk1 hS => ?_)
    rw [hw]
    obtain ⟨hP, -, hD⟩ := hB
    rw [ht] at hP
    have hD := lx_dj hD hFc
    refine lv_if_eq (tgt := 33) hx hb d_Mo_remove_29 (by decide) (fun c_7 => ?_) (fun c_7 => ?_)
    · have h := lf_t h c_7
      refine lv_aload_n hx hb d_Mo_remove_33 rfl (lv_at hl 0 rfl) ?_
      refine lv_iload_n hx hb d_Mo_remove_34 rfl (lv_at hl 1 rfl) ?_
      obtain ⟨r_8, S_8, hc_8, h⟩ := lf_cE h
      have hFc := lx_free hD hS hA
      refine va_calli (va_runV (As := [.int y_1]) (rest := []) ⟨hx, hb, hml, hown, hts⟩ (l_Mo_item l dC dI X _ hc_8) (cwV 1 hts (gwV good_Mq (u_Mq_Mo _ k_Mo_255) (u_Mq_Mo _ k_Mo_256) (u_Mq_Mo _ k_Mo_511) (u_Mq_Mo _ k_Mo_0) (wcs (u_Mq_Mo _ k_Mo_257) (fun _ h => h))) rfl rfl rfl (by decide +kernel) ⟨Nat.le_of_ble_eq_true rfl, Nat.le_of_ble_eq_true rfl⟩) (pv_ofE (X.same _) (fun U z1 z2 => X.mono _ _ U hFc (hEw _ _ hS U z1 z2)) hP hK hD (va_recv hK hP (ci := 12) (q0 := 0) rfl rfl)) rfl rfl hl.1 rfl (lv_room (Nat.le_of_ble_eq_true rfl)) d_Mo_remove_35 ⟨by decide, by decide⟩) hS (fun q _ h => hFc q h) hFc (fun r_ u t H locs ht hvm hw hB hz1 hk1 hS => ?_)
      rw [hw]
      obtain ⟨hP, -, hD⟩ := hB
      rw [ht] at hP
      have hD := lx_dj hD hFc
      refine lv_istore_n (lv' := [(2, .int r_8), (0, .ref M.o), (1, .int y_1)]) hx hb d_Mo_remove_38 rfl hl (by decide) rfl (fun ls hl => ?_)
      refine lv_aload_n hx hb d_Mo_remove_39 rfl (lv_at hl 1 rfl) ?_
      refine lv_aload_n hx hb d_Mo_remove_40 rfl (lv_at hl 1 rfl) ?_
      refine lv_iload_n hx hb d_Mo_remove_41 rfl (lv_at hl 0 rfl) ?_
      obtain ⟨r_9, S_9, hc_9, h⟩ := lf_cE h
      have hFc := lx_free hD hS hA
      refine va_calli (va_runV (As := [.int r_8]) (rest := [.ref M.o]) ⟨hx, hb, hml, hown, hts⟩ (l_Mo_isFolder l dC dI X _ hc_9) (cwV 1 hts (gwV good_Mq (u_Mq_Mo _ k_Mo_118) (u_Mq_Mo _ k_Mo_119) (u_Mq_Mo _ k_Mo_489) (u_Mq_Mo _ k_Mo_0) (wcs (u_Mq_Mo _ k_Mo_120) (fun _ h => h))) rfl rfl rfl (by decide +kernel) ⟨Nat.le_of_ble_eq_true rfl, Nat.le_of_ble_eq_true rfl⟩) (pv_ofE (X.same _) (fun U z1 z2 => X.mono _ _ U hFc (hEw _ _ hS U z1 z2)) hP hK hD (va_recv hK hP (ci := 12) (q0 := 0) rfl rfl)) rfl rfl hl.1 rfl (lv_room (Nat.le_of_ble_eq_true rfl)) d_Mo_remove_42 ⟨by decide, by decide⟩) hS (fun q _ h => hFc q h) hFc (fun r_ u t H locs ht hvm hw hB hz1 hk1 hS => ?_)
      rw [hw]
      obtain ⟨hP, -, hD⟩ := hB
      rw [ht] at hP
      have hD := lx_dj hD hFc
      refine lv_if_eq (tgt := 61) hx hb d_Mo_remove_45 (by decide) (fun c_10 => ?_) (fun c_10 => ?_)
      · have h := lf_t h c_10
        exact hB_61 r_8 S_9 _ _ _ h hP hD hS (lv_sub hl [1, 0] rfl)
      · have h := lf_f h c_10
        refine lv_aload_n hx hb d_Mo_remove_48 rfl (lv_at hl 1 rfl) ?_
        refine va_get (D := (dC, dI)) (ci := 12) (v := .ref M.a_kids) (C := R_Mo) (T := F_Mo) (N := 66) hx hb hts (fun w h => u_Mq_Mo w (i_Mo w h)) hown hK hP 0 rfl rfl 28 (by decide) (hts _ (u_Mq_Mo _ k_Mo_35)) (fun _ h9 => h9) rfl d_Mo_remove_49 ?_
        refine lv_iload_n hx hb d_Mo_remove_52 rfl (lv_at hl 0 rfl) ?_
        obtain ⟨g_11, h⟩ := lf_gE h
        refine va_iald hx hb hK hP 10 9 rfl rfl g_11 d_Mo_remove_53 ?_
        refine lv_if_le (tgt := 61) hx hb d_Mo_remove_54 (by decide) (fun c_12 => ?_) (fun c_12 => ?_)
        · have h := lf_t h c_12
          exact hB_61 r_8 S_9 _ _ _ h hP hD hS (lv_sub hl [1, 0] rfl)
        · have h := lf_f h c_12
          refine lv_iconst (v := 1) hx hb d_Mo_remove_57 (by decide) ?_
          refine lv_goto (tgt := 62) hx hb d_Mo_remove_58 (by decide) ?_
          exact hB_62 r_8 1 S_9 _ _ _ h hP hD hS (lv_sub hl [1, 0] rfl)
    · have h := lf_f h c_7
      rw [hQ]
      have e2 : S_6 = S' := Option.some.inj h
      have hP := lx_newP e2.symm hP
      have hD := lx_newD e2.symm hD
      exact W.vret hx hb hr (fun t ht hW => ⟨⟨(), rfl, trivial, by rw [ht]; exact hP, va_K.moved hW.alike hK, hD⟩, hS.F ht⟩) hS.2.2 d_Mo_remove_32
  have hB_20 : ∀ (y_1 : Int32) (S : MS) (H : Heap) (locs : List Loc) (ls : Array Slot), f_Mo_remove_20 K y_1 S = some S' → va_P (dC, dI) classes (wM M S) H → va_D A (wM M S) → va_S A s.heap H locs → lv_has ls 4 [(0, .ref M.o), (1, .int y_1)] → W p l e ({ frames := 13, cells := 0, slots := 0, locals := 359 }) s m ([.ref M.o, .int p0] : List Value).toArray below meth c H locs 0 0 Q (F0 m 20 ls [.ref M.o]) := by
    intro y_1 S H locs ls h hP hD hS hl
    rw [f_Mo_remove_20] at h
    refine lv_iconst (v := 1) hx hb d_Mo_remove_20 (by decide) ?_
    refine lv_goto (tgt := 25) hx hb d_Mo_remove_21 (by decide) ?_
    exact hB_25 y_1 1 S _ _ _ h hP hD hS (lv_sub hl [0, 1] rfl)
  rw [f_Mo_remove] at h
  refine lv_aload_n hx hb d_Mo_remove_0 rfl (lv_at hl 0 rfl) ?_
  obtain ⟨r_1, S_1, hc_1, h⟩ := lf_cE h
  have hFc := lx_free hD hS hA
  refine va_calli (va_runV (As := []) (rest := []) ⟨hx, hb, hml, hown, hts⟩ (l_Mo_fixedNow l dC dI X _ hc_1) (cwV 0 hts (gwV good_Mq (u_Mq_Mo _ k_Mo_307) (u_Mq_Mo _ k_Mo_308) (u_Mq_Mo _ k_Mo_515) (u_Mq_Mo _ k_Mo_0) (wcs (u_Mq_Mo _ k_Mo_309) (fun _ h => h))) rfl rfl rfl (by decide +kernel) ⟨Nat.le_of_ble_eq_true rfl, Nat.le_of_ble_eq_true rfl⟩) (pv_ofE (X.same _) (fun U z1 z2 => X.mono _ _ U hFc (hEw _ _ hS U z1 z2)) hP hK hD (va_recv hK hP (ci := 12) (q0 := 0) rfl rfl)) rfl rfl hl.1 rfl (lv_room (Nat.le_of_ble_eq_true rfl)) d_Mo_remove_1 ⟨by decide, by decide⟩) hS (fun q _ h => hFc q h) hFc (fun r_ u t H locs ht hvm hw hB hz1 hk1 hS => ?_)
  rw [hw]
  obtain ⟨hP, -, hD⟩ := hB
  rw [ht] at hP
  have hD := lx_dj hD hFc
  refine lv_if_ne (tgt := 32) hx hb d_Mo_remove_4 (by decide) (fun c_2 => ?_) (fun c_2 => ?_)
  · have h := lf_f h c_2
    rw [hQ]
    have e2 : S_1 = S' := Option.some.inj h
    have hP := lx_newP e2.symm hP
    have hD := lx_newD e2.symm hD
    exact W.vret hx hb hr (fun t ht hW => ⟨⟨(), rfl, trivial, by rw [ht]; exact hP, va_K.moved hW.alike hK, hD⟩, hS.F ht⟩) hS.2.2 d_Mo_remove_32
  · have h := lf_t h c_2
    refine lv_aload_n hx hb d_Mo_remove_7 rfl (lv_at hl 0 rfl) ?_
    refine lv_iload_n hx hb d_Mo_remove_8 rfl (lv_at hl 1 rfl) ?_
    refine lv_if_lt (tgt := 20) hx hb d_Mo_remove_9 (by decide) (fun c_3 => ?_) (fun c_3 => ?_)
    · have h := lf_t h c_3
      exact hB_20 p0 S_1 _ _ _ h hP hD hS (lv_sub hl [0, 1] rfl)
    · have h := lf_f h c_3
      refine lv_iload_n hx hb d_Mo_remove_12 rfl (lv_at hl 1 rfl) ?_
      refine lv_aload_n hx hb d_Mo_remove_13 rfl (lv_at hl 0 rfl) ?_
      obtain ⟨r_4, S_4, hc_4, h⟩ := lf_cE h
      have hFc := lx_free hD hS hA
      refine va_calli (va_runV (As := []) (rest := [.int p0, .ref M.o]) ⟨hx, hb, hml, hown, hts⟩ (l_Mo_many l dC dI X _ hc_4) (cwV 0 hts (gwV good_Mq (u_Mq_Mo _ k_Mo_243) (u_Mq_Mo _ k_Mo_244) (u_Mq_Mo _ k_Mo_509) (u_Mq_Mo _ k_Mo_0) (wcs (u_Mq_Mo _ k_Mo_245) (fun _ h => h))) rfl rfl rfl (by decide +kernel) ⟨Nat.le_of_ble_eq_true rfl, Nat.le_of_ble_eq_true rfl⟩) (pv_ofE (X.same _) (fun U z1 z2 => X.mono _ _ U hFc (hEw _ _ hS U z1 z2)) hP hK hD (va_recv hK hP (ci := 12) (q0 := 0) rfl rfl)) rfl rfl hl.1 rfl (lv_room (Nat.le_of_ble_eq_true rfl)) d_Mo_remove_14 ⟨by decide, by decide⟩) hS (fun q _ h => hFc q h) hFc (fun r_ u t H locs ht hvm hw hB hz1 hk1 hS => ?_)
      rw [hw]
      obtain ⟨hP, -, hD⟩ := hB
      rw [ht] at hP
      have hD := lx_dj hD hFc
      refine lv_icmp_lt (tgt := 24) hx hb d_Mo_remove_17 (by decide) (fun c_5 => ?_) (fun c_5 => ?_)
      · have h := lf_t h c_5
        refine lv_iconst (v := 0) hx hb d_Mo_remove_24 (by decide) ?_
        exact hB_25 p0 0 S_4 _ _ _ h hP hD hS (lv_sub hl [0, 1] rfl)
      · have h := lf_f h c_5
        exact hB_20 p0 S_4 _ _ _ h hP hD hS (lv_sub hl [0, 1] rfl)
set_option maxHeartbeats 4000000 in
set_option maxRecDepth 100000 in
theorem l_Mo_stamp (l : Launch) (dC : Nat → ClassId) (dI : Nat → Nat → Nat) {K : Nat} {M : MA} {E : (Nat → Prop) → State → Prop} (X : lx_X l dC dI K M E) (sz : Nat) {S S' : MS} {p0 : Int32} {p1 : Int32} {p2 : Int32} {p3 : Int32} (h : f_Mo_stamp K S p0 p1 p2 p3 = some S') : Met l y_Mo_stamp (.code y_Mo_stamp b_Mo_stamp 7 none :: V_Mq) ({ frames := 13, cells := 0, slots := 0, locals := 359 }) (va_Pc [.ref M.o, .int p0, .int p1, .int p2, .int p3] (fun U => U.heap.size = sz ∧ at_ (dC, dI) (fun _ => True) (wM M S) (tM M) U ∧ E (va_A (wM M S) sz) U)) (va_Qv (fun (u : Unit) => True) (fun (u : Unit) t => at_ (dC, dI) (va_A (wM M S) sz) (wM M S') (tM M) t) (va_A (wM M S) sz)) 0 0 (va_A (wM M S) sz) := by
  refine Met.ofW (cc := b_Mo_stamp) (maxL := 7) (ret := none) (by decide) rfl ?_
  intro p e s m args below meth c s₁ B hml hv
  obtain ⟨rfl, hsz, ⟨hP, hK, hD0⟩, hE⟩ := hv
  have hx := B.exec
  have hb := B.bytes
  have hr := B.returns
  have hts0 := atoms_spec (ws := .code y_Mo_stamp b_Mo_stamp 7 none :: V_Mq) B.pre
  have hts : ∀ w ∈ V_Mq, w.before ([.ref M.o, .int p0, .int p1, .int p2, .int p3] : List Value).toArray s = true := fun w h => hts0 w (List.mem_cons_of_mem _ h)
  have hown : s.vm.findClass R_Mo = some m.cls := findClass_of_methodNamed B.named
  subst hsz
  have hD := hD0.self (sz := s.heap.size)
  generalize hAe : va_A (wM M S) s.heap.size = A at hD hE ⊢
  have hA : ∀ q : Nat, s.heap.size ≤ q → A q := fun q h => by rw [← hAe]; exact Or.inr h
  have hS : va_S A s.heap s.heap [] := va_S.rf
  have hP : va_P (dC, dI) classes (wM M S) s.heap := hP
  have hK : va_K (dC, dI) classes (tM M) s := hK
  have hEw : ∀ (H : Heap) (locs : List Loc), va_S A s.heap H locs → ∀ U : State, U.heap = H → s.WarmedH U.vm → E A U := fun H locs hS U hU hW => X.kept A s U H locs hE hS hU hW
  have hl := lv_entry ([.ref M.o, .int p0, .int p1, .int p2, .int p3]) (n := 7) (Nat.le_of_ble_eq_true rfl)
  rw [lg_entry_eq]
  generalize (lg_sl ([.ref M.o, .int p0, .int p1, .int p2, .int p3]) ++ List.replicate (7 - (lg_sl ([.ref M.o, .int p0, .int p1, .int p2, .int p3])).length) Slot.unset).toArray = ls at hl ⊢
  have hl : lv_has ls 7 [(0, .ref M.o), (1, .int p0), (2, .int p1), (3, .int p2), (4, .int p3)] := hl
  refine qabs (fun Q hQ => ?_)
  have hB_314 : ∀ (S : MS) (H : Heap) (locs : List Loc) (ls : Array Slot), f_Mo_stamp_314 K S = some S' → va_P (dC, dI) classes (wM M S) H → va_D A (wM M S) → va_S A s.heap H locs → lv_has ls 7 [(0, .ref M.o)] → W p l e ({ frames := 13, cells := 0, slots := 0, locals := 359 }) s m ([.ref M.o, .int p0, .int p1, .int p2, .int p3] : List Value).toArray below meth c H locs 0 0 Q (F0 m 314 ls []) := by
    intro S H locs ls h hP hD hS hl
    rw [f_Mo_stamp_314] at h
    refine lv_aload_n hx hb d_Mo_stamp_314 rfl (lv_at hl 0 rfl) ?_
    obtain ⟨S_47, hc_47, h⟩ := lf_bE h
    have hFc := lx_free hD hS hA
    refine va_callv (va_runV (As := []) (rest := []) ⟨hx, hb, hml, hown, hts⟩ (l_Mo_changed l dC dI X _ hc_47) (cwV 0 hts (gwV good_Mq (u_Mq_Mo _ k_Mo_205) (u_Mq_Mo _ k_Mo_206) (u_Mq_Mo _ k_Mo_506) (u_Mq_Mo _ k_Mo_0) (wcs (u_Mq_Mo _ k_Mo_207) (fun _ h => h))) rfl rfl rfl (by decide +kernel) ⟨Nat.le_of_ble_eq_true rfl, Nat.le_of_ble_eq_true rfl⟩) (pv_ofE (X.same _) (fun U z1 z2 => X.mono _ _ U hFc (hEw _ _ hS U z1 z2)) hP hK hD (va_recv hK hP (ci := 12) (q0 := 0) rfl rfl)) rfl rfl hl.1 rfl (lv_room (Nat.le_of_ble_eq_true rfl)) d_Mo_stamp_315 ⟨by decide, by decide⟩) hS (fun q _ h => hFc q h) hFc (fun u t H locs ht hvm hw hB hz1 hk1 hS => ?_)
    obtain ⟨hP, -, hD⟩ := hB
    rw [ht] at hP
    have hD := lx_dj hD hFc
    rw [hQ]
    have e2 : S_47 = S' := Option.some.inj h
    have hP := lx_newP e2.symm hP
    have hD := lx_newD e2.symm hD
    exact W.vret hx hb hr (fun t ht hW => ⟨⟨(), rfl, trivial, by rw [ht]; exact hP, va_K.moved hW.alike hK, hD⟩, hS.F ht⟩) hS.2.2 d_Mo_stamp_318
  have hB_282 : ∀ (y_2 : Int32) (y_4 : Int32) (y_5 : Int32) (S : MS) (H : Heap) (locs : List Loc) (ls : Array Slot), f_Mo_stamp_282 K y_2 y_4 y_5 S = some S' → va_P (dC, dI) classes (wM M S) H → va_D A (wM M S) → va_S A s.heap H locs → lv_has ls 7 [(0, .ref M.o), (2, .int y_2), (4, .int y_4), (5, .int y_5)] → W p l e ({ frames := 13, cells := 0, slots := 0, locals := 359 }) s m ([.ref M.o, .int p0, .int p1, .int p2, .int p3] : List Value).toArray below meth c H locs 0 0 Q (F0 m 282 ls []) := by
    intro y_2 y_4 y_5 S H locs ls h hP hD hS hl
    rw [f_Mo_stamp_282] at h
    refine lv_iload_n hx hb d_Mo_stamp_282 rfl (lv_at hl 1 rfl) ?_
    refine lv_iconst (v := 4) hx hb d_Mo_stamp_283 (by decide) ?_
    refine lv_icmp_ne (tgt := 314) hx hb d_Mo_stamp_284 (by decide) (fun c_44 => ?_) (fun c_44 => ?_)
    · have h := lf_f h c_44
      exact hB_314 S _ _ _ h hP hD hS (lv_sub hl [0] rfl)
    · have h := lf_t h c_44
      refine lv_aload_n hx hb d_Mo_stamp_287 rfl (lv_at hl 0 rfl) ?_
      refine lv_iload hx hb d_Mo_stamp_288 (lv_at hl 3 rfl) ?_
      refine lv_bipush (v := 11) hx hb d_Mo_stamp_290 (by decide) ?_
      refine lv_iadd hx hb d_Mo_stamp_292 ?_
      refine lv_iconst (v := 1) hx hb d_Mo_stamp_293 (by decide) ?_
      refine lv_aload_n hx hb d_Mo_stamp_294 rfl (lv_at hl 0 rfl) ?_
      refine lv_iload hx hb d_Mo_stamp_295 (lv_at hl 3 rfl) ?_
      refine lv_bipush (v := 11) hx hb d_Mo_stamp_297 (by decide) ?_
      refine lv_iadd hx hb d_Mo_stamp_299 ?_
      obtain ⟨r_45, S_45, hc_45, h⟩ := lf_cE h
      have hFc := lx_free hD hS hA
      refine va_calli (va_runV (As := [.int (y_5 + 11)]) (rest := [.int 1, .int (y_5 + 11), .ref M.o]) ⟨hx, hb, hml, hown, hts⟩ (l_Mo_one l dC dI X _ hc_45) (cwV 1 hts (gwV good_Mq (u_Mq_Mo _ k_Mo_94) (u_Mq_Mo _ k_Mo_95) (u_Mq_Mo _ k_Mo_475) (u_Mq_Mo _ k_Mo_0) (wcs (u_Mq_Mo _ k_Mo_96) (fun _ h => h))) rfl rfl rfl (by decide +kernel) ⟨Nat.le_of_ble_eq_true rfl, Nat.le_of_ble_eq_true rfl⟩) (pv_ofE (X.same _) (fun U z1 z2 => X.mono _ _ U hFc (hEw _ _ hS U z1 z2)) hP hK hD (va_recv hK hP (ci := 12) (q0 := 0) rfl rfl)) rfl rfl hl.1 rfl (lv_room (Nat.le_of_ble_eq_true rfl)) d_Mo_stamp_300 ⟨by decide, by decide⟩) hS (fun q _ h => hFc q h) hFc (fun r_ u t H locs ht hvm hw hB hz1 hk1 hS => ?_)
      rw [hw]
      obtain ⟨hP, -, hD⟩ := hB
      rw [ht] at hP
      have hD := lx_dj hD hFc
      refine lv_sipush (v := 254) hx hb d_Mo_stamp_303 (by decide) ?_
      refine lv_iand hx hb d_Mo_stamp_306 ?_
      refine lv_iload hx hb d_Mo_stamp_307 (lv_at hl 2 rfl) ?_
      refine lv_ior hx hb d_Mo_stamp_309 ?_
      refine lv_i2l hx hb d_Mo_stamp_310 rfl ?_
      obtain ⟨S_46, hc_46, h⟩ := lf_bE h
      have hFc := lx_free hD hS hA
      refine va_callv (va_runV (As := [.int (y_5 + 11), .int 1, .long (((r_45 &&& 254) ||| y_4).toInt64)]) (rest := []) ⟨hx, hb, hml, hown, hts⟩ (l_Mo_set l dC dI X _ hc_46) (cwV 3 hts (gwV good_Mq (u_Mq_Mo _ k_Mo_221) (u_Mq_Mo _ k_Mo_222) (u_Mq_Mo _ k_Mo_478) (u_Mq_Mo _ k_Mo_0) (wcs (u_Mq_Mo _ k_Mo_223) (fun _ h => h))) rfl rfl rfl (by decide +kernel) ⟨Nat.le_of_ble_eq_true rfl, Nat.le_of_ble_eq_true rfl⟩) (pv_ofE (X.same _) (fun U z1 z2 => X.mono _ _ U hFc (hEw _ _ hS U z1 z2)) hP hK hD (va_recv hK hP (ci := 12) (q0 := 0) rfl rfl)) rfl rfl hl.1 rfl (lv_room (Nat.le_of_ble_eq_true rfl)) d_Mo_stamp_311 ⟨by decide, by decide⟩) hS (fun q _ h => hFc q h) hFc (fun u t H locs ht hvm hw hB hz1 hk1 hS => ?_)
      obtain ⟨hP, -, hD⟩ := hB
      rw [ht] at hP
      have hD := lx_dj hD hFc
      exact hB_314 S_46 _ _ _ h hP hD hS (lv_sub hl [0] rfl)
  have hB_264 : ∀ (y_2 : Int32) (y_4 : Int32) (y_5 : Int32) (S : MS) (H : Heap) (locs : List Loc) (ls : Array Slot), f_Mo_stamp_264 K y_2 y_4 y_5 S = some S' → va_P (dC, dI) classes (wM M S) H → va_D A (wM M S) → va_S A s.heap H locs → lv_has ls 7 [(0, .ref M.o), (2, .int y_2), (4, .int y_4), (5, .int y_5)] → W p l e ({ frames := 13, cells := 0, slots := 0, locals := 359 }) s m ([.ref M.o, .int p0, .int p1, .int p2, .int p3] : List Value).toArray below meth c H locs 0 0 Q (F0 m 264 ls []) := by
    intro y_2 y_4 y_5 S H locs ls h hP hD hS hl
    rw [f_Mo_stamp_264] at h
    refine lv_iload_n hx hb d_Mo_stamp_264 rfl (lv_at hl 1 rfl) ?_
    refine lv_iconst (v := 3) hx hb d_Mo_stamp_265 (by decide) ?_
    refine lv_icmp_ne (tgt := 282) hx hb d_Mo_stamp_266 (by decide) (fun c_41 => ?_) (fun c_41 => ?_)
    · have h := lf_f h c_41
      exact hB_282 y_2 y_4 y_5 S _ _ _ h hP hD hS (lv_sub hl [0, 1, 2, 3] rfl)
    · have h := lf_t h c_41
      refine lv_aload_n hx hb d_Mo_stamp_269 rfl (lv_at hl 0 rfl) ?_
      refine lv_iload hx hb d_Mo_stamp_270 (lv_at hl 3 rfl) ?_
      refine lv_bipush (v := 13) hx hb d_Mo_stamp_272 (by decide) ?_
      refine lv_iadd hx hb d_Mo_stamp_274 ?_
      refine lv_iconst (v := 1) hx hb d_Mo_stamp_275 (by decide) ?_
      refine lv_iload hx hb d_Mo_stamp_276 (lv_at hl 2 rfl) ?_
      refine lv_i2l hx hb d_Mo_stamp_278 rfl ?_
      obtain ⟨S_42, hc_42, h⟩ := lf_bE h
      have hFc := lx_free hD hS hA
      refine va_callv (va_runV (As := [.int (y_5 + 13), .int 1, .long y_4.toInt64]) (rest := []) ⟨hx, hb, hml, hown, hts⟩ (l_Mo_set l dC dI X _ hc_42) (cwV 3 hts (gwV good_Mq (u_Mq_Mo _ k_Mo_221) (u_Mq_Mo _ k_Mo_222) (u_Mq_Mo _ k_Mo_478) (u_Mq_Mo _ k_Mo_0) (wcs (u_Mq_Mo _ k_Mo_223) (fun _ h => h))) rfl rfl rfl (by decide +kernel) ⟨Nat.le_of_ble_eq_true rfl, Nat.le_of_ble_eq_true rfl⟩) (pv_ofE (X.same _) (fun U z1 z2 => X.mono _ _ U hFc (hEw _ _ hS U z1 z2)) hP hK hD (va_recv hK hP (ci := 12) (q0 := 0) rfl rfl)) rfl rfl hl.1 rfl (lv_room (Nat.le_of_ble_eq_true rfl)) d_Mo_stamp_279 ⟨by decide, by decide⟩) hS (fun q _ h => hFc q h) hFc (fun u t H locs ht hvm hw hB hz1 hk1 hS => ?_)
      obtain ⟨hP, -, hD⟩ := hB
      rw [ht] at hP
      have hD := lx_dj hD hFc
      exact hB_282 y_2 y_4 y_5 S_42 _ _ _ h hP hD hS (lv_sub hl [0, 1, 2, 3] rfl)
  have hB_256 : ∀ (y_2 : Int32) (y_4 : Int32) (y_5 : Int32) (z_1 : Int32) (z_2 : Int32) (S : MS) (H : Heap) (locs : List Loc) (ls : Array Slot), f_Mo_stamp_256 K y_2 y_4 y_5 z_1 z_2 S = some S' → va_P (dC, dI) classes (wM M S) H → va_D A (wM M S) → va_S A s.heap H locs → lv_has ls 7 [(0, .ref M.o), (2, .int y_2), (4, .int y_4), (5, .int y_5)] → W p l e ({ frames := 13, cells := 0, slots := 0, locals := 359 }) s m ([.ref M.o, .int p0, .int p1, .int p2, .int p3] : List Value).toArray below meth c H locs 0 0 Q (F0 m 256 ls [.int z_2, .int z_1, .ref M.o]) := by
    intro y_2 y_4 y_5 z_1 z_2 S H locs ls h hP hD hS hl
    rw [f_Mo_stamp_256] at h
    refine lv_iadd hx hb d_Mo_stamp_256 ?_
    refine lv_iconst (v := 2) hx hb d_Mo_stamp_257 (by decide) ?_
    refine lv_iload hx hb d_Mo_stamp_258 (lv_at hl 2 rfl) ?_
    refine lv_i2l hx hb d_Mo_stamp_260 rfl ?_
    obtain ⟨S_43, hc_43, h⟩ := lf_bE h
    have hFc := lx_free hD hS hA
    refine va_callv (va_runV (As := [.int (z_1 + z_2), .int 2, .long y_4.toInt64]) (rest := []) ⟨hx, hb, hml, hown, hts⟩ (l_Mo_set l dC dI X _ hc_43) (cwV 3 hts (gwV good_Mq (u_Mq_Mo _ k_Mo_221) (u_Mq_Mo _ k_Mo_222) (u_Mq_Mo _ k_Mo_478) (u_Mq_Mo _ k_Mo_0) (wcs (u_Mq_Mo _ k_Mo_223) (fun _ h => h))) rfl rfl rfl (by decide +kernel) ⟨Nat.le_of_ble_eq_true rfl, Nat.le_of_ble_eq_true rfl⟩) (pv_ofE (X.same _) (fun U z1 z2 => X.mono _ _ U hFc (hEw _ _ hS U z1 z2)) hP hK hD (va_recv hK hP (ci := 12) (q0 := 0) rfl rfl)) rfl rfl hl.1 rfl (lv_room (Nat.le_of_ble_eq_true rfl)) d_Mo_stamp_261 ⟨by decide, by decide⟩) hS (fun q _ h => hFc q h) hFc (fun u t H locs ht hvm hw hB hz1 hk1 hS => ?_)
    obtain ⟨hP, -, hD⟩ := hB
    rw [ht] at hP
    have hD := lx_dj hD hFc
    exact hB_264 y_2 y_4 y_5 S_43 _ _ _ h hP hD hS (lv_sub hl [0, 1, 2, 3] rfl)
  have hB_242 : ∀ (y_2 : Int32) (y_4 : Int32) (y_5 : Int32) (S : MS) (H : Heap) (locs : List Loc) (ls : Array Slot), f_Mo_stamp_242 K y_2 y_4 y_5 S = some S' → va_P (dC, dI) classes (wM M S) H → va_D A (wM M S) → va_S A s.heap H locs → lv_has ls 7 [(0, .ref M.o), (2, .int y_2), (4, .int y_4), (5, .int y_5)] → W p l e ({ frames := 13, cells := 0, slots := 0, locals := 359 }) s m ([.ref M.o, .int p0, .int p1, .int p2, .int p3] : List Value).toArray below meth c H locs 0 0 Q (F0 m 242 ls []) := by
    intro y_2 y_4 y_5 S H locs ls h hP hD hS hl
    rw [f_Mo_stamp_242] at h
    refine lv_aload_n hx hb d_Mo_stamp_242 rfl (lv_at hl 0 rfl) ?_
    refine lv_iload hx hb d_Mo_stamp_243 (lv_at hl 3 rfl) ?_
    refine lv_iload_n hx hb d_Mo_stamp_245 rfl (lv_at hl 1 rfl) ?_
    refine lv_if_ne (tgt := 254) hx hb d_Mo_stamp_246 (by decide) (fun c_40 => ?_) (fun c_40 => ?_)
    · have h := lf_f h c_40
      refine lv_bipush (v := 22) hx hb d_Mo_stamp_254 (by decide) ?_
      exact hB_256 y_2 y_4 y_5 y_5 22 S _ _ _ h hP hD hS (lv_sub hl [0, 1, 2, 3] rfl)
    · have h := lf_t h c_40
      refine lv_bipush (v := 14) hx hb d_Mo_stamp_249 (by decide) ?_
      refine lv_goto (tgt := 256) hx hb d_Mo_stamp_251 (by decide) ?_
      exact hB_256 y_2 y_4 y_5 y_5 14 S _ _ _ h hP hD hS (lv_sub hl [0, 1, 2, 3] rfl)
  have hB_233 : ∀ (y_2 : Int32) (y_4 : Int32) (y_5 : Int32) (S : MS) (H : Heap) (locs : List Loc) (ls : Array Slot), f_Mo_stamp_233 K y_2 y_4 y_5 S = some S' → va_P (dC, dI) classes (wM M S) H → va_D A (wM M S) → va_S A s.heap H locs → lv_has ls 7 [(0, .ref M.o), (2, .int y_2), (4, .int y_4), (5, .int y_5)] → W p l e ({ frames := 13, cells := 0, slots := 0, locals := 359 }) s m ([.ref M.o, .int p0, .int p1, .int p2, .int p3] : List Value).toArray below meth c H locs 0 0 Q (F0 m 233 ls []) := by
    intro y_2 y_4 y_5 S H locs ls h hP hD hS hl
    rw [f_Mo_stamp_233] at h
    refine lv_iload_n hx hb d_Mo_stamp_233 rfl (lv_at hl 1 rfl) ?_
    refine lv_if_eq (tgt := 242) hx hb d_Mo_stamp_234 (by decide) (fun c_37 => ?_) (fun c_37 => ?_)
    · have h := lf_t h c_37
      exact hB_242 y_2 y_4 y_5 S _ _ _ h hP hD hS (lv_sub hl [0, 1, 2, 3] rfl)
    · have h := lf_f h c_37
      refine lv_iload_n hx hb d_Mo_stamp_237 rfl (lv_at hl 1 rfl) ?_
      refine lv_iconst (v := 2) hx hb d_Mo_stamp_238 (by decide) ?_
      refine lv_icmp_ne (tgt := 264) hx hb d_Mo_stamp_239 (by decide) (fun c_38 => ?_) (fun c_38 => ?_)
      · have h := lf_f h c_38
        exact hB_264 y_2 y_4 y_5 S _ _ _ h hP hD hS (lv_sub hl [0, 1, 2, 3] rfl)
      · have h := lf_t h c_38
        exact hB_242 y_2 y_4 y_5 S _ _ _ h hP hD hS (lv_sub hl [0, 1, 2, 3] rfl)
  have hB_226 : ∀ (y_2 : Int32) (y_3 : Int32) (y_4 : Int32) (y_5 : Int32) (z_1 : Int32) (z_2 : Int32) (S : MS) (H : Heap) (locs : List Loc) (ls : Array Slot), f_Mo_stamp_226 K y_2 y_3 y_4 y_5 z_1 z_2 S = some S' → va_P (dC, dI) classes (wM M S) H → va_D A (wM M S) → va_S A s.heap H locs → lv_has ls 7 [(0, .ref M.o), (2, .int y_2), (3, .int y_3), (4, .int y_4), (5, .int y_5)] → W p l e ({ frames := 13, cells := 0, slots := 0, locals := 359 }) s m ([.ref M.o, .int p0, .int p1, .int p2, .int p3] : List Value).toArray below meth c H locs 0 0 Q (F0 m 226 ls [.int z_2, .int z_1, .ref M.o]) := by
    intro y_2 y_3 y_4 y_5 z_1 z_2 S H locs ls h hP hD hS hl
    rw [f_Mo_stamp_226] at h
    refine lv_iadd hx hb d_Mo_stamp_226 ?_
    refine lv_iconst (v := 2) hx hb d_Mo_stamp_227 (by decide) ?_
    refine lv_iload_n hx hb d_Mo_stamp_228 rfl (lv_at hl 2 rfl) ?_
    refine lv_i2l hx hb d_Mo_stamp_229 rfl ?_
    obtain ⟨S_39, hc_39, h⟩ := lf_bE h
    have hFc := lx_free hD hS hA
    refine va_callv (va_runV (As := [.int (z_1 + z_2), .int 2, .long y_3.toInt64]) (rest := []) ⟨hx, hb, hml, hown, hts⟩ (l_Mo_set l dC dI X _ hc_39) (cwV 3 hts (gwV good_Mq (u_Mq_Mo _ k_Mo_221) (u_Mq_Mo _ k_Mo_222) (u_Mq_Mo _ k_Mo_478) (u_Mq_Mo _ k_Mo_0) (wcs (u_Mq_Mo _ k_Mo_223) (fun _ h => h))) rfl rfl rfl (by decide +kernel) ⟨Nat.le_of_ble_eq_true rfl, Nat.le_of_ble_eq_true rfl⟩) (pv_ofE (X.same _) (fun U z1 z2 => X.mono _ _ U hFc (hEw _ _ hS U z1 z2)) hP hK hD (va_recv hK hP (ci := 12) (q0 := 0) rfl rfl)) rfl rfl hl.1 rfl (lv_room (Nat.le_of_ble_eq_true rfl)) d_Mo_stamp_230 ⟨by decide, by decide⟩) hS (fun q _ h => hFc q h) hFc (fun u t H locs ht hvm hw hB hz1 hk1 hS => ?_)
    obtain ⟨hP, -, hD⟩ := hB
    rw [ht] at hP
    have hD := lx_dj hD hFc
    exact hB_233 y_2 y_4 y_5 S_39 _ _ _ h hP hD hS (lv_sub hl [0, 1, 3, 4] rfl)
  have hB_189 : ∀ (y_2 : Int32) (y_3 : Int32) (y_4 : Int32) (y_5 : Int32) (z_1 : Int32) (S : MS) (H : Heap) (locs : List Loc) (ls : Array Slot), f_Mo_stamp_189 K y_2 y_3 y_4 y_5 z_1 S = some S' → va_P (dC, dI) classes (wM M S) H → va_D A (wM M S) → va_S A s.heap H locs → lv_has ls 7 [(0, .ref M.o), (2, .int y_2), (3, .int y_3), (4, .int y_4), (5, .int y_5)] → W p l e ({ frames := 13, cells := 0, slots := 0, locals := 359 }) s m ([.ref M.o, .int p0, .int p1, .int p2, .int p3] : List Value).toArray below meth c H locs 0 0 Q (F0 m 189 ls [.int z_1, .ref M.o]) := by
    intro y_2 y_3 y_4 y_5 z_1 S H locs ls h hP hD hS hl
    rw [f_Mo_stamp_189] at h
    refine lv_iconst (v := 3) hx hb d_Mo_stamp_189 (by decide) ?_
    obtain ⟨r_32, S_32, hc_32, h⟩ := lf_cE h
    have hFc := lx_free hD hS hA
    refine va_calli (va_runV (As := [.int z_1, .int 3]) (rest := []) ⟨hx, hb, hml, hown, hts⟩ (l_Mo_fails l dC dI X _ hc_32) (cwV 2 hts (gwV good_Mq (u_Mq_Mo _ k_Mo_217) (u_Mq_Mo _ k_Mo_218) (u_Mq_Mo _ k_Mo_474) (u_Mq_Mo _ k_Mo_0) (wcs (u_Mq_Mo _ k_Mo_219) (fun _ h => h))) rfl rfl rfl (by decide +kernel) ⟨Nat.le_of_ble_eq_true rfl, Nat.le_of_ble_eq_true rfl⟩) (pv_ofE (X.same _) (fun U z1 z2 => X.mono _ _ U hFc (hEw _ _ hS U z1 z2)) hP hK hD (va_recv hK hP (ci := 12) (q0 := 0) rfl rfl)) rfl rfl hl.1 rfl (lv_room (Nat.le_of_ble_eq_true rfl)) d_Mo_stamp_190 ⟨by decide, by decide⟩) hS (fun q _ h => hFc q h) hFc (fun r_ u t H locs ht hvm hw hB hz1 hk1 hS => ?_)
    rw [hw]
    obtain ⟨hP, -, hD⟩ := hB
    rw [ht] at hP
    have hD := lx_dj hD hFc
    refine lv_if_eq (tgt := 197) hx hb d_Mo_stamp_193 (by decide) (fun c_33 => ?_) (fun c_33 => ?_)
    · have h := lf_t h c_33
      refine lv_iload_n hx hb d_Mo_stamp_197 rfl (lv_at hl 1 rfl) ?_
      refine lv_iconst (v := 3) hx hb d_Mo_stamp_198 (by decide) ?_
      refine lv_icmp_ge (tgt := 233) hx hb d_Mo_stamp_199 (by decide) (fun c_34 => ?_) (fun c_34 => ?_)
      · have h := lf_t h c_34
        exact hB_233 y_2 y_4 y_5 S_32 _ _ _ h hP hD hS (lv_sub hl [0, 1, 3, 4] rfl)
      · have h := lf_f h c_34
        refine lv_aload_n hx hb d_Mo_stamp_202 rfl (lv_at hl 0 rfl) ?_
        refine lv_iload hx hb d_Mo_stamp_203 (lv_at hl 4 rfl) ?_
        refine lv_iload_n hx hb d_Mo_stamp_205 rfl (lv_at hl 1 rfl) ?_
        refine lv_if_ne (tgt := 214) hx hb d_Mo_stamp_206 (by decide) (fun c_35 => ?_) (fun c_35 => ?_)
        · have h := lf_f h c_35
          refine lv_iload_n hx hb d_Mo_stamp_214 rfl (lv_at hl 1 rfl) ?_
          refine lv_iconst (v := 1) hx hb d_Mo_stamp_215 (by decide) ?_
          refine lv_icmp_ne (tgt := 224) hx hb d_Mo_stamp_216 (by decide) (fun c_36 => ?_) (fun c_36 => ?_)
          · have h := lf_f h c_36
            refine lv_bipush (v := 24) hx hb d_Mo_stamp_224 (by decide) ?_
            exact hB_226 y_2 y_3 y_4 y_5 y_5 24 S_32 _ _ _ h hP hD hS (lv_sub hl [0, 1, 2, 3, 4] rfl)
          · have h := lf_t h c_36
            refine lv_bipush (v := 18) hx hb d_Mo_stamp_219 (by decide) ?_
            refine lv_goto (tgt := 226) hx hb d_Mo_stamp_221 (by decide) ?_
            exact hB_226 y_2 y_3 y_4 y_5 y_5 18 S_32 _ _ _ h hP hD hS (lv_sub hl [0, 1, 2, 3, 4] rfl)
        · have h := lf_t h c_35
          refine lv_bipush (v := 16) hx hb d_Mo_stamp_209 (by decide) ?_
          refine lv_goto (tgt := 226) hx hb d_Mo_stamp_211 (by decide) ?_
          exact hB_226 y_2 y_3 y_4 y_5 y_5 16 S_32 _ _ _ h hP hD hS (lv_sub hl [0, 1, 2, 3, 4] rfl)
    · have h := lf_f h c_33
      rw [hQ]
      have e2 : S_32 = S' := Option.some.inj h
      have hP := lx_newP e2.symm hP
      have hD := lx_newD e2.symm hD
      exact W.vret hx hb hr (fun t ht hW => ⟨⟨(), rfl, trivial, by rw [ht]; exact hP, va_K.moved hW.alike hK, hD⟩, hS.F ht⟩) hS.2.2 d_Mo_stamp_196
  have hB_176 : ∀ (y_2 : Int32) (y_3 : Int32) (y_4 : Int32) (y_5 : Int32) (z_0 : Int32) (S : MS) (H : Heap) (locs : List Loc) (ls : Array Slot), f_Mo_stamp_176 K y_2 y_3 y_4 y_5 z_0 S = some S' → va_P (dC, dI) classes (wM M S) H → va_D A (wM M S) → va_S A s.heap H locs → lv_has ls 7 [(0, .ref M.o), (2, .int y_2), (3, .int y_3), (4, .int y_4), (5, .int y_5)] → W p l e ({ frames := 13, cells := 0, slots := 0, locals := 359 }) s m ([.ref M.o, .int p0, .int p1, .int p2, .int p3] : List Value).toArray below meth c H locs 0 0 Q (F0 m 176 ls [.int z_0]) := by
    intro y_2 y_3 y_4 y_5 z_0 S H locs ls h hP hD hS hl
    rw [f_Mo_stamp_176] at h
    refine lv_istore (lv' := [(6, .int z_0), (0, .ref M.o), (2, .int y_2), (3, .int y_3), (4, .int y_4), (5, .int y_5)]) hx hb d_Mo_stamp_176 hl (by decide) rfl (fun ls hl => ?_)
    refine lv_aload_n hx hb d_Mo_stamp_178 rfl (lv_at hl 1 rfl) ?_
    refine lv_iload hx hb d_Mo_stamp_179 (lv_at hl 0 rfl) ?_
    refine lv_if_ne (tgt := 188) hx hb d_Mo_stamp_181 (by decide) (fun c_31 => ?_) (fun c_31 => ?_)
    · have h := lf_f h c_31
      refine lv_iconst (v := 0) hx hb d_Mo_stamp_188 (by decide) ?_
      exact hB_189 y_2 y_3 y_4 y_5 0 S _ _ _ h hP hD hS (lv_sub hl [1, 2, 3, 4, 5] rfl)
    · have h := lf_t h c_31
      refine lv_iconst (v := 1) hx hb d_Mo_stamp_184 (by decide) ?_
      refine lv_goto (tgt := 189) hx hb d_Mo_stamp_185 (by decide) ?_
      exact hB_189 y_2 y_3 y_4 y_5 1 S _ _ _ h hP hD hS (lv_sub hl [1, 2, 3, 4, 5] rfl)
  have hB_88 : ∀ (y_2 : Int32) (y_3 : Int32) (y_4 : Int32) (y_5 : Int32) (S : MS) (H : Heap) (locs : List Loc) (ls : Array Slot), f_Mo_stamp_88 K y_2 y_3 y_4 y_5 S = some S' → va_P (dC, dI) classes (wM M S) H → va_D A (wM M S) → va_S A s.heap H locs → lv_has ls 7 [(0, .ref M.o), (2, .int y_2), (3, .int y_3), (4, .int y_4), (5, .int y_5)] → W p l e ({ frames := 13, cells := 0, slots := 0, locals := 359 }) s m ([.ref M.o, .int p0, .int p1, .int p2, .int p3] : List Value).toArray below meth c H locs 0 0 Q (F0 m 88 ls []) := by
    intro y_2 y_3 y_4 y_5 S H locs ls h hP hD hS hl
    rw [f_Mo_stamp_88] at h
    refine lv_iconst (v := 1) hx hb d_Mo_stamp_88 (by decide) ?_
    refine lv_goto (tgt := 176) hx hb d_Mo_stamp_89 (by decide) ?_
    exact hB_176 y_2 y_3 y_4 y_5 1 S _ _ _ h hP hD hS (lv_sub hl [0, 1, 2, 3, 4] rfl)
  have hB_92 : ∀ (y_2 : Int32) (y_3 : Int32) (y_4 : Int32) (y_5 : Int32) (S : MS) (H : Heap) (locs : List Loc) (ls : Array Slot), f_Mo_stamp_92 K y_2 y_3 y_4 y_5 S = some S' → va_P (dC, dI) classes (wM M S) H → va_D A (wM M S) → va_S A s.heap H locs → lv_has ls 7 [(0, .ref M.o), (2, .int y_2), (3, .int y_3), (4, .int y_4), (5, .int y_5)] → W p l e ({ frames := 13, cells := 0, slots := 0, locals := 359 }) s m ([.ref M.o, .int p0, .int p1, .int p2, .int p3] : List Value).toArray below meth c H locs 0 0 Q (F0 m 92 ls []) := by
    intro y_2 y_3 y_4 y_5 S H locs ls h hP hD hS hl
    rw [f_Mo_stamp_92] at h
    refine lv_iconst (v := 0) hx hb d_Mo_stamp_92 (by decide) ?_
    refine lv_goto (tgt := 176) hx hb d_Mo_stamp_93 (by decide) ?_
    exact hB_176 y_2 y_3 y_4 y_5 0 S _ _ _ h hP hD hS (lv_sub hl [0, 1, 2, 3, 4] rfl)
  have hB_120 : ∀ (y_2 : Int32) (y_3 : Int32) (y_4 : Int32) (y_5 : Int32) (S : MS) (H : Heap) (locs : List Loc) (ls : Array Slot), f_Mo_stamp_120 K y_2 y_3 y_4 y_5 S = some S' → va_P (dC, dI) classes (wM M S) H → va_D A (wM M S) → va_S A s.heap H locs → lv_has ls 7 [(0, .ref M.o), (2, .int y_2), (3, .int y_3), (4, .int y_4), (5, .int y_5)] → W p l e ({ frames := 13, cells := 0, slots := 0, locals := 359 }) s m ([.ref M.o, .int p0, .int p1, .int p2, .int p3] : List Value).toArray below meth c H locs 0 0 Q (F0 m 120 ls []) := by
    intro y_2 y_3 y_4 y_5 S H locs ls h hP hD hS hl
    rw [f_Mo_stamp_120] at h
    refine lv_iconst (v := 0) hx hb d_Mo_stamp_120 (by decide) ?_
    refine lv_goto (tgt := 176) hx hb d_Mo_stamp_121 (by decide) ?_
    exact hB_176 y_2 y_3 y_4 y_5 0 S _ _ _ h hP hD hS (lv_sub hl [0, 1, 2, 3, 4] rfl)
  have hB_171 : ∀ (y_2 : Int32) (y_3 : Int32) (y_4 : Int32) (y_5 : Int32) (S : MS) (H : Heap) (locs : List Loc) (ls : Array Slot), f_Mo_stamp_171 K y_2 y_3 y_4 y_5 S = some S' → va_P (dC, dI) classes (wM M S) H → va_D A (wM M S) → va_S A s.heap H locs → lv_has ls 7 [(0, .ref M.o), (2, .int y_2), (3, .int y_3), (4, .int y_4), (5, .int y_5)] → W p l e ({ frames := 13, cells := 0, slots := 0, locals := 359 }) s m ([.ref M.o, .int p0, .int p1, .int p2, .int p3] : List Value).toArray below meth c H locs 0 0 Q (F0 m 171 ls []) := by
    intro y_2 y_3 y_4 y_5 S H locs ls h hP hD hS hl
    rw [f_Mo_stamp_171] at h
    refine lv_iconst (v := 1) hx hb d_Mo_stamp_171 (by decide) ?_
    refine lv_goto (tgt := 176) hx hb d_Mo_stamp_172 (by decide) ?_
    exact hB_176 y_2 y_3 y_4 y_5 1 S _ _ _ h hP hD hS (lv_sub hl [0, 1, 2, 3, 4] rfl)
  have hB_175 : ∀ (y_2 : Int32) (y_3 : Int32) (y_4 : Int32) (y_5 : Int32) (S : MS) (H : Heap) (locs : List Loc) (ls : Array Slot), f_Mo_stamp_175 K y_2 y_3 y_4 y_5 S = some S' → va_P (dC, dI) classes (wM M S) H → va_D A (wM M S) → va_S A s.heap H locs → lv_has ls 7 [(0, .ref M.o), (2, .int y_2), (3, .int y_3), (4, .int y_4), (5, .int y_5)] → W p l e ({ frames := 13, cells := 0, slots := 0, locals := 359 }) s m ([.ref M.o, .int p0, .int p1, .int p2, .int p3] : List Value).toArray below meth c H locs 0 0 Q (F0 m 175 ls []) := by
    intro y_2 y_3 y_4 y_5 S H locs ls h hP hD hS hl
    rw [f_Mo_stamp_175] at h
    refine lv_iconst (v := 0) hx hb d_Mo_stamp_175 (by decide) ?_
    exact hB_176 y_2 y_3 y_4 y_5 0 S _ _ _ h hP hD hS (lv_sub hl [0, 1, 2, 3, 4] rfl)
  have hB_25 : ∀ (y_1 : Int32) (y_2 : Int32) (y_3 : Int32) (y_4 : Int32) (z_1 : Int32) (S : MS) (H : Heap) (locs : List Loc) (ls : Array Slot), f_Mo_stamp_25 K y_1 y_2 y_3 y_4 z_1 S = some S' → va_P (dC, dI) classes (wM M S) H → va_D A (wM M S) → va_S A s.heap H locs → lv_has ls 7 [(0, .ref M.o), (1, .int y_1), (2, .int y_2), (3, .int y_3), (4, .int y_4)] → W p l e ({ frames := 13, cells := 0, slots := 0, locals := 359 }) s m ([.ref M.o, .int p0, .int p1, .int p2, .int p3] : List Value).toArray below meth c H locs 0 0 Q (F0 m 25 ls [.int z_1, .ref M.o]) := by
    intro y_1 y_2 y_3 y_4 z_1 S H locs ls h hP hD hS hl
    rw [f_Mo_stamp_25] at h
    refine lv_iconst (v := 2) hx hb d_Mo_stamp_25 (by decide) ?_
    obtain ⟨r_6, S_6, hc_6, h⟩ := lf_cE h
    have hFc := lx_free hD hS hA
    refine va_calli (va_runV (As := [.int z_1, .int 2]) (rest := []) ⟨hx, hb, hml, hown, hts⟩ (l_Mo_fails l dC dI X _ hc_6) (cwV 2 hts (gwV good_Mq (u_Mq_Mo _ k_Mo_217) (u_Mq_Mo _ k_Mo_218) (u_Mq_Mo _ k_Mo_474) (u_Mq_Mo _ k_Mo_0) (wcs (u_Mq_Mo _ k_Mo_219) (fun _ h => h))) rfl rfl rfl (by decide +kernel) ⟨Nat.le_of_ble_eq_true rfl, Nat.le_of_ble_eq_true rfl⟩) (pv_ofE (X.same _) (fun U z1 z2 => X.mono _ _ U hFc (hEw _ _ hS U z1 z2)) hP hK hD (va_recv hK hP (ci := 12) (q0 := 0) rfl rfl)) rfl rfl hl.1 rfl (lv_room (Nat.le_of_ble_eq_true rfl)) d_Mo_stamp_26 ⟨by decide, by decide⟩) hS (fun q _ h => hFc q h) hFc (fun r_ u t H locs ht hvm hw hB hz1 hk1 hS => ?_)
    rw [hw]
    obtain ⟨hP, -, hD⟩ := hB
    rw [ht] at hP
    have hD := lx_dj hD hFc
    refine lv_if_eq (tgt := 33) hx hb d_Mo_stamp_29 (by decide) (fun c_7 => ?_) (fun c_7 => ?_)
    · have h := lf_t h c_7
      refine lv_aload_n hx hb d_Mo_stamp_33 rfl (lv_at hl 0 rfl) ?_
      refine va_get (D := (dC, dI)) (ci := 12) (v := .ref M.a_at) (C := R_Mo) (T := F_Mo) (N := 66) hx hb hts (fun w h => u_Mq_Mo w (i_Mo w h)) hown hK hP 0 rfl rfl 24 (by decide) (hts _ (u_Mq_Mo _ k_Mo_31)) (fun _ h9 => h9) rfl d_Mo_stamp_34 ?_
      refine lv_aload_n hx hb d_Mo_stamp_37 rfl (lv_at hl 0 rfl) ?_
      refine lv_iload_n hx hb d_Mo_stamp_38 rfl (lv_at hl 1 rfl) ?_
      obtain ⟨r_8, S_8, hc_8, h⟩ := lf_cE h
      have hFc := lx_free hD hS hA
      refine va_calli (va_runV (As := [.int y_1]) (rest := [.ref M.a_at]) ⟨hx, hb, hml, hown, hts⟩ (l_Mo_item l dC dI X _ hc_8) (cwV 1 hts (gwV good_Mq (u_Mq_Mo _ k_Mo_255) (u_Mq_Mo _ k_Mo_256) (u_Mq_Mo _ k_Mo_511) (u_Mq_Mo _ k_Mo_0) (wcs (u_Mq_Mo _ k_Mo_257) (fun _ h => h))) rfl rfl rfl (by decide +kernel) ⟨Nat.le_of_ble_eq_true rfl, Nat.le_of_ble_eq_true rfl⟩) (pv_ofE (X.same _) (fun U z1 z2 => X.mono _ _ U hFc (hEw _ _ hS U z1 z2)) hP hK hD (va_recv hK hP (ci := 12) (q0 := 0) rfl rfl)) rfl rfl hl.1 rfl (lv_room (Nat.le_of_ble_eq_true rfl)) d_Mo_stamp_39 ⟨by decide, by decide⟩) hS (fun q _ h => hFc q h) hFc (fun r_ u t H locs ht hvm hw hB hz1 hk1 hS => ?_)
      rw [hw]
      obtain ⟨hP, -, hD⟩ := hB
      rw [ht] at hP
      have hD := lx_dj hD hFc
      obtain ⟨g_9, h⟩ := lf_gE h
      refine va_iald hx hb hK hP 6 5 rfl rfl g_9 d_Mo_stamp_42 ?_
      refine lv_topi (fun x_10 ex_10 => ?_)
      have h := lf_lE h ex_10
      refine lv_istore (lv' := [(5, .int x_10), (0, .ref M.o), (1, .int y_1), (2, .int y_2), (3, .int y_3), (4, .int y_4)]) hx hb d_Mo_stamp_43 hl (by decide) rfl (fun ls hl => ?_)
      refine lv_iload_n hx hb d_Mo_stamp_45 rfl (lv_at hl 3 rfl) ?_
      refine lv_if_ne (tgt := 67) hx hb d_Mo_stamp_46 (by decide) (fun c_11 => ?_) (fun c_11 => ?_)
      · have h := lf_f h c_11
        refine lv_iload_n hx hb d_Mo_stamp_67 rfl (lv_at hl 3 rfl) ?_
        refine lv_iconst (v := 1) hx hb d_Mo_stamp_68 (by decide) ?_
        refine lv_icmp_ne (tgt := 96) hx hb d_Mo_stamp_69 (by decide) (fun c_12 => ?_) (fun c_12 => ?_)
        · have h := lf_f h c_12
          refine lv_iload_n hx hb d_Mo_stamp_96 rfl (lv_at hl 3 rfl) ?_
          refine lv_iconst (v := 2) hx hb d_Mo_stamp_97 (by decide) ?_
          refine lv_icmp_ne (tgt := 124) hx hb d_Mo_stamp_98 (by decide) (fun c_13 => ?_) (fun c_13 => ?_)
          · have h := lf_f h c_13
            refine lv_iload_n hx hb d_Mo_stamp_124 rfl (lv_at hl 3 rfl) ?_
            refine lv_iconst (v := 3) hx hb d_Mo_stamp_125 (by decide) ?_
            refine lv_icmp_ne (tgt := 155) hx hb d_Mo_stamp_126 (by decide) (fun c_14 => ?_) (fun c_14 => ?_)
            · have h := lf_f h c_14
              refine lv_iload_n hx hb d_Mo_stamp_155 rfl (lv_at hl 3 rfl) ?_
              refine lv_iconst (v := 4) hx hb d_Mo_stamp_156 (by decide) ?_
              refine lv_icmp_ne (tgt := 175) hx hb d_Mo_stamp_157 (by decide) (fun c_15 => ?_) (fun c_15 => ?_)
              · have h := lf_f h c_15
                exact hB_175 y_2 y_3 y_4 x_10 S_8 _ _ _ h hP hD hS (lv_sub hl [1, 3, 4, 5, 0] rfl)
              · have h := lf_t h c_15
                refine lv_iload hx hb d_Mo_stamp_160 (lv_at hl 5 rfl) ?_
                refine lv_if_eq (tgt := 171) hx hb d_Mo_stamp_162 (by decide) (fun c_16 => ?_) (fun c_16 => ?_)
                · have h := lf_t h c_16
                  exact hB_171 y_2 y_3 y_4 x_10 S_8 _ _ _ h hP hD hS (lv_sub hl [1, 3, 4, 5, 0] rfl)
                · have h := lf_f h c_16
                  refine lv_iload hx hb d_Mo_stamp_165 (lv_at hl 5 rfl) ?_
                  refine lv_iconst (v := 1) hx hb d_Mo_stamp_167 (by decide) ?_
                  refine lv_icmp_ne (tgt := 175) hx hb d_Mo_stamp_168 (by decide) (fun c_17 => ?_) (fun c_17 => ?_)
                  · have h := lf_f h c_17
                    exact hB_175 y_2 y_3 y_4 x_10 S_8 _ _ _ h hP hD hS (lv_sub hl [1, 3, 4, 5, 0] rfl)
                  · have h := lf_t h c_17
                    exact hB_171 y_2 y_3 y_4 x_10 S_8 _ _ _ h hP hD hS (lv_sub hl [1, 3, 4, 5, 0] rfl)
            · have h := lf_t h c_14
              refine lv_aload_n hx hb d_Mo_stamp_129 rfl (lv_at hl 1 rfl) ?_
              refine lv_iload hx hb d_Mo_stamp_130 (lv_at hl 0 rfl) ?_
              refine lv_bipush (v := 16) hx hb d_Mo_stamp_132 (by decide) ?_
              refine lv_iadd hx hb d_Mo_stamp_134 ?_
              obtain ⟨r_18, S_18, hc_18, h⟩ := lf_cE h
              have hFc := lx_free hD hS hA
              refine va_calli (va_runV (As := [.int (x_10 + 16)]) (rest := []) ⟨hx, hb, hml, hown, hts⟩ (l_Mo_two l dC dI X _ hc_18) (cwV 1 hts (gwV good_Mq (u_Mq_Mo _ k_Mo_97) (u_Mq_Mo _ k_Mo_98) (u_Mq_Mo _ k_Mo_476) (u_Mq_Mo _ k_Mo_0) (wcs (u_Mq_Mo _ k_Mo_99) (fun _ h => h))) rfl rfl rfl (by decide +kernel) ⟨Nat.le_of_ble_eq_true rfl, Nat.le_of_ble_eq_true rfl⟩) (pv_ofE (X.same _) (fun U z1 z2 => X.mono _ _ U hFc (hEw _ _ hS U z1 z2)) hP hK hD (va_recv hK hP (ci := 12) (q0 := 0) rfl rfl)) rfl rfl hl.1 rfl (lv_room (Nat.le_of_ble_eq_true rfl)) d_Mo_stamp_135 ⟨by decide, by decide⟩) hS (fun q _ h => hFc q h) hFc (fun r_ u t H locs ht hvm hw hB hz1 hk1 hS => ?_)
              rw [hw]
              obtain ⟨hP, -, hD⟩ := hB
              rw [ht] at hP
              have hD := lx_dj hD hFc
              refine lv_aload_n hx hb d_Mo_stamp_138 rfl (lv_at hl 1 rfl) ?_
              refine lv_iload hx hb d_Mo_stamp_139 (lv_at hl 0 rfl) ?_
              refine lv_bipush (v := 14) hx hb d_Mo_stamp_141 (by decide) ?_
              refine lv_iadd hx hb d_Mo_stamp_143 ?_
              obtain ⟨r_19, S_19, hc_19, h⟩ := lf_cE h
              have hFc := lx_free hD hS hA
              refine va_calli (va_runV (As := [.int (x_10 + 14)]) (rest := [.int r_18]) ⟨hx, hb, hml, hown, hts⟩ (l_Mo_two l dC dI X _ hc_19) (cwV 1 hts (gwV good_Mq (u_Mq_Mo _ k_Mo_97) (u_Mq_Mo _ k_Mo_98) (u_Mq_Mo _ k_Mo_476) (u_Mq_Mo _ k_Mo_0) (wcs (u_Mq_Mo _ k_Mo_99) (fun _ h => h))) rfl rfl rfl (by decide +kernel) ⟨Nat.le_of_ble_eq_true rfl, Nat.le_of_ble_eq_true rfl⟩) (pv_ofE (X.same _) (fun U z1 z2 => X.mono _ _ U hFc (hEw _ _ hS U z1 z2)) hP hK hD (va_recv hK hP (ci := 12) (q0 := 0) rfl rfl)) rfl rfl hl.1 rfl (lv_room (Nat.le_of_ble_eq_true rfl)) d_Mo_stamp_144 ⟨by decide, by decide⟩) hS (fun q _ h => hFc q h) hFc (fun r_ u t H locs ht hvm hw hB hz1 hk1 hS => ?_)
              rw [hw]
              obtain ⟨hP, -, hD⟩ := hB
              rw [ht] at hP
              have hD := lx_dj hD hFc
              refine lv_iload hx hb d_Mo_stamp_147 (lv_at hl 5 rfl) ?_
              obtain ⟨r_20, hc_20, h⟩ := lf_bE h
              have hFc := lx_free0 hS hA
              refine va_calli (va_runS (As := [.int r_18, .int r_19, .int y_4]) (rest := []) ⟨hx, hb, hml, hown, hts⟩ (l_Mo_isMade l dC dI  _ hc_20) (va_cwS 3 hts (gwS good_Mq (u_Mq_Mo _ k_Mo_148) (u_Mq_Mo _ k_Mo_149) (u_Mq_Mo _ k_Mo_0) (wcs (u_Mq_Mo _ k_Mo_150) (fun _ h => h))) rfl rfl rfl (by decide +kernel) ⟨Nat.le_of_ble_eq_true rfl, Nat.le_of_ble_eq_true rfl⟩) (ps_of (W := []) (tys := []) (hP.sub (ws' := []) [] rfl) (hK.sub [] rfl) (hD.sub (ws' := []) [] (by decide) rfl)) rfl rfl hl.1 rfl (lv_room (Nat.le_of_ble_eq_true rfl)) d_Mo_stamp_149 ⟨by decide, by decide⟩) hS (fun q _ h => hFc q h) hFc (fun r_ u t H locs ht hvm hw hB hz1 hk1 hS => ?_)
              rw [hw]
              have hP := lx_stat (A := A) hP hk1
              refine lv_goto (tgt := 176) hx hb d_Mo_stamp_152 (by decide) ?_
              exact hB_176 y_2 y_3 y_4 x_10 r_20 S_19 _ _ _ h hP hD hS (lv_sub hl [1, 3, 4, 5, 0] rfl)
          · have h := lf_t h c_13
            refine lv_iload_n hx hb d_Mo_stamp_101 rfl (lv_at hl 4 rfl) ?_
            obtain ⟨r_21, hc_21, h⟩ := lf_bE h
            have hFc := lx_free0 hS hA
            refine va_calli (va_runS (As := [.int y_3]) (rest := []) ⟨hx, hb, hml, hown, hts⟩ (l_Mo_isDay l dC dI  _ hc_21) (va_cwS 1 hts (gwS good_Mq (u_Mq_Mo _ k_Mo_151) (u_Mq_Mo _ k_Mo_152) (u_Mq_Mo _ k_Mo_0) (wcs (u_Mq_Mo _ k_Mo_153) (fun _ h => h))) rfl rfl rfl (by decide +kernel) ⟨Nat.le_of_ble_eq_true rfl, Nat.le_of_ble_eq_true rfl⟩) (ps_of (W := []) (tys := []) (hP.sub (ws' := []) [] rfl) (hK.sub [] rfl) (hD.sub (ws' := []) [] (by decide) rfl)) rfl rfl hl.1 rfl (lv_room (Nat.le_of_ble_eq_true rfl)) d_Mo_stamp_102 ⟨by decide, by decide⟩) hS (fun q _ h => hFc q h) hFc (fun r_ u t H locs ht hvm hw hB hz1 hk1 hS => ?_)
            rw [hw]
            have hP := lx_stat (A := A) hP hk1
            refine lv_if_eq (tgt := 120) hx hb d_Mo_stamp_105 (by decide) (fun c_22 => ?_) (fun c_22 => ?_)
            · have h := lf_t h c_22
              exact hB_120 y_2 y_3 y_4 x_10 S_8 _ _ _ h hP hD hS (lv_sub hl [1, 3, 4, 5, 0] rfl)
            · have h := lf_f h c_22
              refine lv_iload hx hb d_Mo_stamp_108 (lv_at hl 5 rfl) ?_
              obtain ⟨r_23, hc_23, h⟩ := lf_bE h
              have hFc := lx_free0 hS hA
              refine va_calli (va_runS (As := [.int y_4]) (rest := []) ⟨hx, hb, hml, hown, hts⟩ (l_Mo_isTime l dC dI  _ hc_23) (va_cwS 1 hts (gwS good_Mq (u_Mq_Mo _ k_Mo_161) (u_Mq_Mo _ k_Mo_162) (u_Mq_Mo _ k_Mo_0) (wcs (u_Mq_Mo _ k_Mo_163) (fun _ h => h))) rfl rfl rfl (by decide +kernel) ⟨Nat.le_of_ble_eq_true rfl, Nat.le_of_ble_eq_true rfl⟩) (ps_of (W := []) (tys := []) (hP.sub (ws' := []) [] rfl) (hK.sub [] rfl) (hD.sub (ws' := []) [] (by decide) rfl)) rfl rfl hl.1 rfl (lv_room (Nat.le_of_ble_eq_true rfl)) d_Mo_stamp_110 ⟨by decide, by decide⟩) hS (fun q _ h => hFc q h) hFc (fun r_ u t H locs ht hvm hw hB hz1 hk1 hS => ?_)
              rw [hw]
              have hP := lx_stat (A := A) hP hk1
              refine lv_if_eq (tgt := 120) hx hb d_Mo_stamp_113 (by decide) (fun c_24 => ?_) (fun c_24 => ?_)
              · have h := lf_t h c_24
                exact hB_120 y_2 y_3 y_4 x_10 S_8 _ _ _ h hP hD hS (lv_sub hl [1, 3, 4, 5, 0] rfl)
              · have h := lf_f h c_24
                refine lv_iconst (v := 1) hx hb d_Mo_stamp_116 (by decide) ?_
                refine lv_goto (tgt := 176) hx hb d_Mo_stamp_117 (by decide) ?_
                exact hB_176 y_2 y_3 y_4 x_10 1 S_8 _ _ _ h hP hD hS (lv_sub hl [1, 3, 4, 5, 0] rfl)
        · have h := lf_t h c_12
          refine lv_iload hx hb d_Mo_stamp_72 (lv_at hl 5 rfl) ?_
          refine lv_if_ne (tgt := 92) hx hb d_Mo_stamp_74 (by decide) (fun c_25 => ?_) (fun c_25 => ?_)
          · have h := lf_f h c_25
            exact hB_92 y_2 y_3 y_4 x_10 S_8 _ _ _ h hP hD hS (lv_sub hl [1, 3, 4, 5, 0] rfl)
          · have h := lf_t h c_25
            refine lv_iload_n hx hb d_Mo_stamp_77 rfl (lv_at hl 4 rfl) ?_
            refine lv_if_eq (tgt := 88) hx hb d_Mo_stamp_78 (by decide) (fun c_26 => ?_) (fun c_26 => ?_)
            · have h := lf_t h c_26
              exact hB_88 y_2 y_3 y_4 x_10 S_8 _ _ _ h hP hD hS (lv_sub hl [1, 3, 4, 5, 0] rfl)
            · have h := lf_f h c_26
              refine lv_iload_n hx hb d_Mo_stamp_81 rfl (lv_at hl 4 rfl) ?_
              obtain ⟨r_27, hc_27, h⟩ := lf_bE h
              have hFc := lx_free0 hS hA
              refine va_calli (va_runS (As := [.int y_3]) (rest := []) ⟨hx, hb, hml, hown, hts⟩ (l_Mo_isDay l dC dI  _ hc_27) (va_cwS 1 hts (gwS good_Mq (u_Mq_Mo _ k_Mo_151) (u_Mq_Mo _ k_Mo_152) (u_Mq_Mo _ k_Mo_0) (wcs (u_Mq_Mo _ k_Mo_153) (fun _ h => h))) rfl rfl rfl (by decide +kernel) ⟨Nat.le_of_ble_eq_true rfl, Nat.le_of_ble_eq_true rfl⟩) (ps_of (W := []) (tys := []) (hP.sub (ws' := []) [] rfl) (hK.sub [] rfl) (hD.sub (ws' := []) [] (by decide) rfl)) rfl rfl hl.1 rfl (lv_room (Nat.le_of_ble_eq_true rfl)) d_Mo_stamp_82 ⟨by decide, by decide⟩) hS (fun q _ h => hFc q h) hFc (fun r_ u t H locs ht hvm hw hB hz1 hk1 hS => ?_)
              rw [hw]
              have hP := lx_stat (A := A) hP hk1
              refine lv_if_eq (tgt := 92) hx hb d_Mo_stamp_85 (by decide) (fun c_28 => ?_) (fun c_28 => ?_)
              · have h := lf_t h c_28
                exact hB_92 y_2 y_3 y_4 x_10 S_8 _ _ _ h hP hD hS (lv_sub hl [1, 3, 4, 5, 0] rfl)
              · have h := lf_f h c_28
                exact hB_88 y_2 y_3 y_4 x_10 S_8 _ _ _ h hP hD hS (lv_sub hl [1, 3, 4, 5, 0] rfl)
      · have h := lf_t h c_11
        refine lv_iload_n hx hb d_Mo_stamp_49 rfl (lv_at hl 4 rfl) ?_
        refine lv_iload hx hb d_Mo_stamp_50 (lv_at hl 5 rfl) ?_
        refine lv_aload_n hx hb d_Mo_stamp_52 rfl (lv_at hl 1 rfl) ?_
        refine lv_iload hx hb d_Mo_stamp_53 (lv_at hl 0 rfl) ?_
        refine lv_bipush (v := 13) hx hb d_Mo_stamp_55 (by decide) ?_
        refine lv_iadd hx hb d_Mo_stamp_57 ?_
        obtain ⟨r_29, S_29, hc_29, h⟩ := lf_cE h
        have hFc := lx_free hD hS hA
        refine va_calli (va_runV (As := [.int (x_10 + 13)]) (rest := [.int y_4, .int y_3]) ⟨hx, hb, hml, hown, hts⟩ (l_Mo_one l dC dI X _ hc_29) (cwV 1 hts (gwV good_Mq (u_Mq_Mo _ k_Mo_94) (u_Mq_Mo _ k_Mo_95) (u_Mq_Mo _ k_Mo_475) (u_Mq_Mo _ k_Mo_0) (wcs (u_Mq_Mo _ k_Mo_96) (fun _ h => h))) rfl rfl rfl (by decide +kernel) ⟨Nat.le_of_ble_eq_true rfl, Nat.le_of_ble_eq_true rfl⟩) (pv_ofE (X.same _) (fun U z1 z2 => X.mono _ _ U hFc (hEw _ _ hS U z1 z2)) hP hK hD (va_recv hK hP (ci := 12) (q0 := 0) rfl rfl)) rfl rfl hl.1 rfl (lv_room (Nat.le_of_ble_eq_true rfl)) d_Mo_stamp_58 ⟨by decide, by decide⟩) hS (fun q _ h => hFc q h) hFc (fun r_ u t H locs ht hvm hw hB hz1 hk1 hS => ?_)
        rw [hw]
        obtain ⟨hP, -, hD⟩ := hB
        rw [ht] at hP
        have hD := lx_dj hD hFc
        obtain ⟨r_30, hc_30, h⟩ := lf_bE h
        have hFc := lx_free0 hS hA
        refine va_calli (va_runS (As := [.int y_3, .int y_4, .int r_29]) (rest := []) ⟨hx, hb, hml, hown, hts⟩ (l_Mo_isMade l dC dI  _ hc_30) (va_cwS 3 hts (gwS good_Mq (u_Mq_Mo _ k_Mo_148) (u_Mq_Mo _ k_Mo_149) (u_Mq_Mo _ k_Mo_0) (wcs (u_Mq_Mo _ k_Mo_150) (fun _ h => h))) rfl rfl rfl (by decide +kernel) ⟨Nat.le_of_ble_eq_true rfl, Nat.le_of_ble_eq_true rfl⟩) (ps_of (W := []) (tys := []) (hP.sub (ws' := []) [] rfl) (hK.sub [] rfl) (hD.sub (ws' := []) [] (by decide) rfl)) rfl rfl hl.1 rfl (lv_room (Nat.le_of_ble_eq_true rfl)) d_Mo_stamp_61 ⟨by decide, by decide⟩) hS (fun q _ h => hFc q h) hFc (fun r_ u t H locs ht hvm hw hB hz1 hk1 hS => ?_)
        rw [hw]
        have hP := lx_stat (A := A) hP hk1
        refine lv_goto (tgt := 176) hx hb d_Mo_stamp_64 (by decide) ?_
        exact hB_176 y_2 y_3 y_4 x_10 r_30 S_29 _ _ _ h hP hD hS (lv_sub hl [1, 3, 4, 5, 0] rfl)
    · have h := lf_f h c_7
      rw [hQ]
      have e2 : S_6 = S' := Option.some.inj h
      have hP := lx_newP e2.symm hP
      have hD := lx_newD e2.symm hD
      exact W.vret hx hb hr (fun t ht hW => ⟨⟨(), rfl, trivial, by rw [ht]; exact hP, va_K.moved hW.alike hK, hD⟩, hS.F ht⟩) hS.2.2 d_Mo_stamp_32
  have hB_20 : ∀ (y_1 : Int32) (y_2 : Int32) (y_3 : Int32) (y_4 : Int32) (S : MS) (H : Heap) (locs : List Loc) (ls : Array Slot), f_Mo_stamp_20 K y_1 y_2 y_3 y_4 S = some S' → va_P (dC, dI) classes (wM M S) H → va_D A (wM M S) → va_S A s.heap H locs → lv_has ls 7 [(0, .ref M.o), (1, .int y_1), (2, .int y_2), (3, .int y_3), (4, .int y_4)] → W p l e ({ frames := 13, cells := 0, slots := 0, locals := 359 }) s m ([.ref M.o, .int p0, .int p1, .int p2, .int p3] : List Value).toArray below meth c H locs 0 0 Q (F0 m 20 ls [.ref M.o]) := by
    intro y_1 y_2 y_3 y_4 S H locs ls h hP hD hS hl
    rw [f_Mo_stamp_20] at h
    refine lv_iconst (v := 1) hx hb d_Mo_stamp_20 (by decide) ?_
    refine lv_goto (tgt := 25) hx hb d_Mo_stamp_21 (by decide) ?_
    exact hB_25 y_1 y_2 y_3 y_4 1 S _ _ _ h hP hD hS (lv_sub hl [0, 1, 2, 3, 4] rfl)
  rw [f_Mo_stamp] at h
  refine lv_aload_n hx hb d_Mo_stamp_0 rfl (lv_at hl 0 rfl) ?_
  obtain ⟨r_1, S_1, hc_1, h⟩ := lf_cE h
  have hFc := lx_free hD hS hA
  refine va_calli (va_runV (As := []) (rest := []) ⟨hx, hb, hml, hown, hts⟩ (l_Mo_fixedNow l dC dI X _ hc_1) (cwV 0 hts (gwV good_Mq (u_Mq_Mo _ k_Mo_307) (u_Mq_Mo _ k_Mo_308) (u_Mq_Mo _ k_Mo_515) (u_Mq_Mo _ k_Mo_0) (wcs (u_Mq_Mo _ k_Mo_309) (fun _ h => h))) rfl rfl rfl (by decide +kernel) ⟨Nat.le_of_ble_eq_true rfl, Nat.le_of_ble_eq_true rfl⟩) (pv_ofE (X.same _) (fun U z1 z2 => X.mono _ _ U hFc (hEw _ _ hS U z1 z2)) hP hK hD (va_recv hK hP (ci := 12) (q0 := 0) rfl rfl)) rfl rfl hl.1 rfl (lv_room (Nat.le_of_ble_eq_true rfl)) d_Mo_stamp_1 ⟨by decide, by decide⟩) hS (fun q _ h => hFc q h) hFc (fun r_ u t H locs ht hvm hw hB hz1 hk1 hS => ?_)
  rw [hw]
  obtain ⟨hP, -, hD⟩ := hB
  rw [ht] at hP
  have hD := lx_dj hD hFc
  refine lv_if_ne (tgt := 32) hx hb d_Mo_stamp_4 (by decide) (fun c_2 => ?_) (fun c_2 => ?_)
  · have h := lf_f h c_2
    rw [hQ]
    have e2 : S_1 = S' := Option.some.inj h
    have hP := lx_newP e2.symm hP
    have hD := lx_newD e2.symm hD
    exact W.vret hx hb hr (fun t ht hW => ⟨⟨(), rfl, trivial, by rw [ht]; exact hP, va_K.moved hW.alike hK, hD⟩, hS.F ht⟩) hS.2.2 d_Mo_stamp_32
  · have h := lf_t h c_2
    refine lv_aload_n hx hb d_Mo_stamp_7 rfl (lv_at hl 0 rfl) ?_
    refine lv_iload_n hx hb d_Mo_stamp_8 rfl (lv_at hl 1 rfl) ?_
    refine lv_if_lt (tgt := 20) hx hb d_Mo_stamp_9 (by decide) (fun c_3 => ?_) (fun c_3 => ?_)
    · have h := lf_t h c_3
      exact hB_20 p0 p1 p2 p3 S_1 _ _ _ h hP hD hS (lv_sub hl [0, 1, 2, 3, 4] rfl)
    · have h := lf_f h c_3
      refine lv_iload_n hx hb d_Mo_stamp_12 rfl (lv_at hl 1 rfl) ?_
      refine lv_aload_n hx hb d_Mo_stamp_13 rfl (lv_at hl 0 rfl) ?_
      obtain ⟨r_4, S_4, hc_4, h⟩ := lf_cE h
      have hFc := lx_free hD hS hA
      refine va_calli (va_runV (As := []) (rest := [.int p0, .ref M.o]) ⟨hx, hb, hml, hown, hts⟩ (l_Mo_many l dC dI X _ hc_4) (cwV 0 hts (gwV good_Mq (u_Mq_Mo _ k_Mo_243) (u_Mq_Mo _ k_Mo_244) (u_Mq_Mo _ k_Mo_509) (u_Mq_Mo _ k_Mo_0) (wcs (u_Mq_Mo _ k_Mo_245) (fun _ h => h))) rfl rfl rfl (by decide +kernel) ⟨Nat.le_of_ble_eq_true rfl, Nat.le_of_ble_eq_true rfl⟩) (pv_ofE (X.same _) (fun U z1 z2 => X.mono _ _ U hFc (hEw _ _ hS U z1 z2)) hP hK hD (va_recv hK hP (ci := 12) (q0 := 0) rfl rfl)) rfl rfl hl.1 rfl (lv_room (Nat.le_of_ble_eq_true rfl)) d_Mo_stamp_14 ⟨by decide, by decide⟩) hS (fun q _ h => hFc q h) hFc (fun r_ u t H locs ht hvm hw hB hz1 hk1 hS => ?_)
      rw [hw]
      obtain ⟨hP, -, hD⟩ := hB
      rw [ht] at hP
      have hD := lx_dj hD hFc
      refine lv_icmp_lt (tgt := 24) hx hb d_Mo_stamp_17 (by decide) (fun c_5 => ?_) (fun c_5 => ?_)
      · have h := lf_t h c_5
        refine lv_iconst (v := 0) hx hb d_Mo_stamp_24 (by decide) ?_
        exact hB_25 p0 p1 p2 p3 0 S_4 _ _ _ h hP hD hS (lv_sub hl [0, 1, 2, 3, 4] rfl)
      · have h := lf_f h c_5
        exact hB_20 p0 p1 p2 p3 S_4 _ _ _ h hP hD hS (lv_sub hl [0, 1, 2, 3, 4] rfl)
set_option maxHeartbeats 4000000 in
set_option maxRecDepth 100000 in
theorem l_Mo_indirect (l : Launch) (dC : Nat → ClassId) (dI : Nat → Nat → Nat) {K : Nat} (sz : Nat) {p0 : Int32} {r : Int32} (h : f_Mo_indirect K p0 = some r) : Met l y_Mo_indirect (.code y_Mo_indirect b_Mo_indirect 1 (some .int) :: V_Mq) ({ frames := 1, cells := 0, slots := 0, locals := 21 }) (va_Pc [.int p0] (fun U => U.heap.size = sz ∧ at_ (dC, dI) (fun _ => True) [] [] U)) (va_Qi (fun (r_ : Int32) (u : Unit) => r_ = r) (fun (u : Unit) t => at_ (dC, dI) (va_A [] sz) [] [] t) (va_A [] sz)) 0 0 (va_A [] sz) := by
  refine Met.ofW (cc := b_Mo_indirect) (maxL := 1) (ret := (some .int)) (by decide) rfl ?_
  intro p e s m args below meth c s₁ B hml hv
  obtain ⟨rfl, hsz, hP, hK, hD0⟩ := hv
  have hx := B.exec
  have hb := B.bytes
  have hr := B.returns
  have hts0 := atoms_spec (ws := .code y_Mo_indirect b_Mo_indirect 1 (some .int) :: V_Mq) B.pre
  have hts : ∀ w ∈ V_Mq, w.before ([.int p0] : List Value).toArray s = true := fun w h => hts0 w (List.mem_cons_of_mem _ h)
  have hown : s.vm.findClass R_Mo = some m.cls := findClass_of_methodNamed B.named
  subst hsz
  have hD := hD0.self (sz := s.heap.size)
  generalize hAe : va_A [] s.heap.size = A at hD ⊢
  have hA : ∀ q : Nat, s.heap.size ≤ q → A q := fun q h => by rw [← hAe]; exact Or.inr h
  have hS : va_S A s.heap s.heap [] := va_S.rf
  have hP : va_P (dC, dI) classes [] s.heap := hP
  have hK : va_K (dC, dI) classes [] s := hK
  have hl := lv_entry ([.int p0]) (n := 1) (Nat.le_of_ble_eq_true rfl)
  rw [lg_entry_eq]
  generalize (lg_sl ([.int p0]) ++ List.replicate (1 - (lg_sl ([.int p0])).length) Slot.unset).toArray = ls at hl ⊢
  have hl : lv_has ls 1 [(0, .int p0)] := hl
  refine qabs (fun Q hQ => ?_)
  rw [f_Mo_indirect] at h
  refine lv_iload_n hx hb d_Mo_indirect_0 rfl (lv_at hl 0 rfl) ?_
  refine lv_bipush (v := 12) hx hb d_Mo_indirect_1 (by decide) ?_
  refine lv_icmp_gt (tgt := 10) hx hb d_Mo_indirect_3 (by decide) (fun c_1 => ?_) (fun c_1 => ?_)
  · have h := lf_t h c_1
    refine lv_iload_n hx hb d_Mo_indirect_10 rfl (lv_at hl 0 rfl) ?_
    refine lv_sipush (v := 268) hx hb d_Mo_indirect_11 (by decide) ?_
    refine lv_icmp_gt (tgt := 21) hx hb d_Mo_indirect_14 (by decide) (fun c_2 => ?_) (fun c_2 => ?_)
    · have h := lf_t h c_2
      refine lv_iconst (v := 2) hx hb d_Mo_indirect_21 (by decide) ?_
      refine lv_iload_n hx hb d_Mo_indirect_22 rfl (lv_at hl 0 rfl) ?_
      refine lv_sipush (v := 268) hx hb d_Mo_indirect_23 (by decide) ?_
      refine lv_isub hx hb d_Mo_indirect_26 ?_
      refine lv_sipush (v := 256) hx hb d_Mo_indirect_27 (by decide) ?_
      obtain ⟨r_3, hc_3, h⟩ := lf_bE h
      have hFc := lx_free0 hS hA
      refine va_calli (va_runS (As := [.int (p0 - 268), .int 256]) (rest := [.int 2]) ⟨hx, hb, hml, hown, hts⟩ (l_Mo_whole l dC dI  _ hc_3) (va_cwS 2 hts (gwS good_Mq (u_Mq_Mo _ k_Mo_178) (u_Mq_Mo _ k_Mo_179) (u_Mq_Mo _ k_Mo_0) (wcs (u_Mq_Mo _ k_Mo_180) (fun _ h => h))) rfl rfl rfl (by decide +kernel) ⟨Nat.le_of_ble_eq_true rfl, Nat.le_of_ble_eq_true rfl⟩) (ps_of (W := []) (tys := []) (hP.sub (ws' := []) [] rfl) (hK.sub [] rfl) (hD.sub (ws' := []) [] (by decide) rfl)) rfl rfl hl.1 rfl (lv_room (Nat.le_of_ble_eq_true rfl)) d_Mo_indirect_30 ⟨by decide, by decide⟩) hS (fun q _ h => hFc q h) hFc (fun r_ u t H locs ht hvm hw hB hz1 hk1 hS => ?_)
      rw [hw]
      have hP := lx_stat (A := A) hP hk1
      refine lv_iadd hx hb d_Mo_indirect_33 ?_
      rw [hQ]
      have e1 : (2 + r_3) = r := Option.some.inj h
      exact W.iret (v := (2 + r_3)) hx hb hr (fun t ht hW => ⟨⟨(2 + r_3), (), rfl, e1, by rw [ht]; exact hP, va_K.moved hW.alike hK, hD⟩, hS.F ht⟩) hS.2.2 d_Mo_indirect_34
    · have h := lf_f h c_2
      refine lv_iconst (v := 1) hx hb d_Mo_indirect_17 (by decide) ?_
      refine lv_goto (tgt := 34) hx hb d_Mo_indirect_18 (by decide) ?_
      rw [hQ]
      have e1 : (1 : Int32) = r := Option.some.inj h
      exact W.iret (v := 1) hx hb hr (fun t ht hW => ⟨⟨1, (), rfl, e1, by rw [ht]; exact hP, va_K.moved hW.alike hK, hD⟩, hS.F ht⟩) hS.2.2 d_Mo_indirect_34
  · have h := lf_f h c_1
    refine lv_iconst (v := 0) hx hb d_Mo_indirect_6 (by decide) ?_
    refine lv_goto (tgt := 34) hx hb d_Mo_indirect_7 (by decide) ?_
    rw [hQ]
    have e1 : (0 : Int32) = r := Option.some.inj h
    exact W.iret (v := 0) hx hb hr (fun t ht hW => ⟨⟨0, (), rfl, e1, by rw [ht]; exact hP, va_K.moved hW.alike hK, hD⟩, hS.F ht⟩) hS.2.2 d_Mo_indirect_34
set_option maxHeartbeats 4000000 in
set_option maxRecDepth 100000 in
theorem l_Mo_fileBlocks (l : Launch) (dC : Nat → ClassId) (dI : Nat → Nat → Nat) {K : Nat} {M : MA} {E : (Nat → Prop) → State → Prop} (X : lx_X l dC dI K M E) (sz : Nat) {S S' : MS} {p0 : Int32} {r : Int32} (h : f_Mo_fileBlocks K S p0 = some (r, S')) : Met l y_Mo_fileBlocks (.code y_Mo_fileBlocks b_Mo_fileBlocks 2 (some .int) :: V_Mq) ({ frames := 3, cells := 0, slots := 0, locals := 63 }) (va_Pc [.ref M.o, .int p0] (fun U => U.heap.size = sz ∧ at_ (dC, dI) (fun _ => True) (wM M S) (tM M) U ∧ E (va_A (wM M S) sz) U)) (va_Qi (fun (r_ : Int32) (u : Unit) => r_ = r) (fun (u : Unit) t => at_ (dC, dI) (va_A (wM M S) sz) (wM M S') (tM M) t) (va_A (wM M S) sz)) 0 0 (va_A (wM M S) sz) := by
  refine Met.ofW (cc := b_Mo_fileBlocks) (maxL := 2) (ret := (some .int)) (by decide) rfl ?_
  intro p e s m args below meth c s₁ B hml hv
  obtain ⟨rfl, hsz, ⟨hP, hK, hD0⟩, hE⟩ := hv
  have hx := B.exec
  have hb := B.bytes
  have hr := B.returns
  have hts0 := atoms_spec (ws := .code y_Mo_fileBlocks b_Mo_fileBlocks 2 (some .int) :: V_Mq) B.pre
  have hts : ∀ w ∈ V_Mq, w.before ([.ref M.o, .int p0] : List Value).toArray s = true := fun w h => hts0 w (List.mem_cons_of_mem _ h)
  have hown : s.vm.findClass R_Mo = some m.cls := findClass_of_methodNamed B.named
  subst hsz
  have hD := hD0.self (sz := s.heap.size)
  generalize hAe : va_A (wM M S) s.heap.size = A at hD hE ⊢
  have hA : ∀ q : Nat, s.heap.size ≤ q → A q := fun q h => by rw [← hAe]; exact Or.inr h
  have hS : va_S A s.heap s.heap [] := va_S.rf
  have hP : va_P (dC, dI) classes (wM M S) s.heap := hP
  have hK : va_K (dC, dI) classes (tM M) s := hK
  have hEw : ∀ (H : Heap) (locs : List Loc), va_S A s.heap H locs → ∀ U : State, U.heap = H → s.WarmedH U.vm → E A U := fun H locs hS U hU hW => X.kept A s U H locs hE hS hU hW
  have hl := lv_entry ([.ref M.o, .int p0]) (n := 2) (Nat.le_of_ble_eq_true rfl)
  rw [lg_entry_eq]
  generalize (lg_sl ([.ref M.o, .int p0]) ++ List.replicate (2 - (lg_sl ([.ref M.o, .int p0])).length) Slot.unset).toArray = ls at hl ⊢
  have hl : lv_has ls 2 [(0, .ref M.o), (1, .int p0)] := hl
  refine qabs (fun Q hQ => ?_)
  rw [f_Mo_fileBlocks] at h
  refine lv_aload_n hx hb d_Mo_fileBlocks_0 rfl (lv_at hl 0 rfl) ?_
  refine lv_aload_n hx hb d_Mo_fileBlocks_1 rfl (lv_at hl 0 rfl) ?_
  refine va_get (D := (dC, dI)) (ci := 12) (v := .ref M.a_at) (C := R_Mo) (T := F_Mo) (N := 66) hx hb hts (fun w h => u_Mq_Mo w (i_Mo w h)) hown hK hP 0 rfl rfl 24 (by decide) (hts _ (u_Mq_Mo _ k_Mo_31)) (fun _ h9 => h9) rfl d_Mo_fileBlocks_2 ?_
  refine lv_iload_n hx hb d_Mo_fileBlocks_5 rfl (lv_at hl 1 rfl) ?_
  obtain ⟨g_1, h⟩ := lf_gE h
  refine va_iald hx hb hK hP 6 5 rfl rfl g_1 d_Mo_fileBlocks_6 ?_
  refine lv_bipush (v := 28) hx hb d_Mo_fileBlocks_7 (by decide) ?_
  refine lv_iadd hx hb d_Mo_fileBlocks_9 ?_
  obtain ⟨r_2, S_2, hc_2, h⟩ := lf_cE h
  have hFc := lx_free hD hS hA
  refine va_calli (va_runV (As := [.int ((S.v_at p0.toNatClampNeg) + 28)]) (rest := []) ⟨hx, hb, hml, hown, hts⟩ (l_Mo_four l dC dI X _ hc_2) (cwV 1 hts (gwV good_Mq (u_Mq_Mo _ k_Mo_100) (u_Mq_Mo _ k_Mo_101) (u_Mq_Mo _ k_Mo_477) (u_Mq_Mo _ k_Mo_0) (wcs (u_Mq_Mo _ k_Mo_102) (fun _ h => h))) rfl rfl rfl (by decide +kernel) ⟨Nat.le_of_ble_eq_true rfl, Nat.le_of_ble_eq_true rfl⟩) (pv_ofE (X.same _) (fun U z1 z2 => X.mono _ _ U hFc (hEw _ _ hS U z1 z2)) hP hK hD (va_recv hK hP (ci := 12) (q0 := 0) rfl rfl)) rfl rfl hl.1 rfl (lv_room (Nat.le_of_ble_eq_true rfl)) d_Mo_fileBlocks_10 ⟨by decide, by decide⟩) hS (fun q _ h => hFc q h) hFc (fun r_ u t H locs ht hvm hw hB hz1 hk1 hS => ?_)
  rw [hw]
  obtain ⟨hP, -, hD⟩ := hB
  rw [ht] at hP
  have hD := lx_dj hD hFc
  refine lv_sipush (v := 1024) hx hb d_Mo_fileBlocks_13 (by decide) ?_
  obtain ⟨r_3, hc_3, h⟩ := lf_bE h
  have hFc := lx_free0 hS hA
  refine va_calli (va_runS (As := [.int r_2, .int 1024]) (rest := []) ⟨hx, hb, hml, hown, hts⟩ (l_Mo_whole l dC dI  _ hc_3) (va_cwS 2 hts (gwS good_Mq (u_Mq_Mo _ k_Mo_178) (u_Mq_Mo _ k_Mo_179) (u_Mq_Mo _ k_Mo_0) (wcs (u_Mq_Mo _ k_Mo_180) (fun _ h => h))) rfl rfl rfl (by decide +kernel) ⟨Nat.le_of_ble_eq_true rfl, Nat.le_of_ble_eq_true rfl⟩) (ps_of (W := []) (tys := []) (hP.sub (ws' := []) [] rfl) (hK.sub [] rfl) (hD.sub (ws' := []) [] (by decide) rfl)) rfl rfl hl.1 rfl (lv_room (Nat.le_of_ble_eq_true rfl)) d_Mo_fileBlocks_16 ⟨by decide, by decide⟩) hS (fun q _ h => hFc q h) hFc (fun r_ u t H locs ht hvm hw hB hz1 hk1 hS => ?_)
  rw [hw]
  have hP := lx_stat (A := A) hP hk1
  rw [hQ]
  have e1 : r_3 = r := congrArg Prod.fst (Option.some.inj h)
  have e2 : S_2 = S' := congrArg Prod.snd (Option.some.inj h)
  have hP := lx_newP e2.symm hP
  have hD := lx_newD e2.symm hD
  exact W.iret (v := r_3) hx hb hr (fun t ht hW => ⟨⟨r_3, (), rfl, e1, by rw [ht]; exact hP, va_K.moved hW.alike hK, hD⟩, hS.F ht⟩) hS.2.2 d_Mo_fileBlocks_19
set_option maxHeartbeats 4000000 in
set_option maxRecDepth 100000 in
theorem l_Mo_groupSize (l : Launch) (dC : Nat → ClassId) (dI : Nat → Nat → Nat) {K : Nat} {M : MA} {E : (Nat → Prop) → State → Prop} (X : lx_X l dC dI K M E) (sz : Nat) {S S' : MS} {p0 : Int32} {r : Int32} (h : f_Mo_groupSize K S p0 = some (r, S')) : Met l y_Mo_groupSize (.code y_Mo_groupSize b_Mo_groupSize 2 (some .int) :: V_Mq) ({ frames := 0, cells := 0, slots := 0, locals := 0 }) (va_Pc [.ref M.o, .int p0] (fun U => U.heap.size = sz ∧ at_ (dC, dI) (fun _ => True) (wM M S) (tM M) U ∧ E (va_A (wM M S) sz) U)) (va_Qi (fun (r_ : Int32) (u : Unit) => r_ = r) (fun (u : Unit) t => at_ (dC, dI) (va_A (wM M S) sz) (wM M S') (tM M) t) (va_A (wM M S) sz)) 0 0 (va_A (wM M S) sz) := by
  refine Met.ofW (cc := b_Mo_groupSize) (maxL := 2) (ret := (some .int)) (by decide) rfl ?_
  intro p e s m args below meth c s₁ B hml hv
  obtain ⟨rfl, hsz, ⟨hP, hK, hD0⟩, hE⟩ := hv
  have hx := B.exec
  have hb := B.bytes
  have hr := B.returns
  have hts0 := atoms_spec (ws := .code y_Mo_groupSize b_Mo_groupSize 2 (some .int) :: V_Mq) B.pre
  have hts : ∀ w ∈ V_Mq, w.before ([.ref M.o, .int p0] : List Value).toArray s = true := fun w h => hts0 w (List.mem_cons_of_mem _ h)
  have hown : s.vm.findClass R_Mo = some m.cls := findClass_of_methodNamed B.named
  subst hsz
  have hD := hD0.self (sz := s.heap.size)
  generalize hAe : va_A (wM M S) s.heap.size = A at hD hE ⊢
  have hA : ∀ q : Nat, s.heap.size ≤ q → A q := fun q h => by rw [← hAe]; exact Or.inr h
  have hS : va_S A s.heap s.heap [] := va_S.rf
  have hP : va_P (dC, dI) classes (wM M S) s.heap := hP
  have hK : va_K (dC, dI) classes (tM M) s := hK
  have hEw : ∀ (H : Heap) (locs : List Loc), va_S A s.heap H locs → ∀ U : State, U.heap = H → s.WarmedH U.vm → E A U := fun H locs hS U hU hW => X.kept A s U H locs hE hS hU hW
  have hl := lv_entry ([.ref M.o, .int p0]) (n := 2) (Nat.le_of_ble_eq_true rfl)
  rw [lg_entry_eq]
  generalize (lg_sl ([.ref M.o, .int p0]) ++ List.replicate (2 - (lg_sl ([.ref M.o, .int p0])).length) Slot.unset).toArray = ls at hl ⊢
  have hl : lv_has ls 2 [(0, .ref M.o), (1, .int p0)] := hl
  refine qabs (fun Q hQ => ?_)
  rw [f_Mo_groupSize] at h
  refine lv_iload_n hx hb d_Mo_groupSize_0 rfl (lv_at hl 1 rfl) ?_
  refine lv_aload_n hx hb d_Mo_groupSize_1 rfl (lv_at hl 0 rfl) ?_
  refine va_get (D := (dC, dI)) (ci := 12) (v := .int S.v_groups) (C := R_Mo) (T := F_Mo) (N := 66) hx hb hts (fun w h => u_Mq_Mo w (i_Mo w h)) hown hK hP 0 rfl rfl 46 (by decide) (hts _ (u_Mq_Mo _ k_Mo_53)) (fun _ h9 => h9) rfl d_Mo_groupSize_2 ?_
  refine lv_iconst (v := 1) hx hb d_Mo_groupSize_5 (by decide) ?_
  refine lv_isub hx hb d_Mo_groupSize_6 ?_
  refine lv_icmp_ge (tgt := 17) hx hb d_Mo_groupSize_7 (by decide) (fun c_1 => ?_) (fun c_1 => ?_)
  · have h := lf_t h c_1
    refine lv_aload_n hx hb d_Mo_groupSize_17 rfl (lv_at hl 0 rfl) ?_
    refine va_get (D := (dC, dI)) (ci := 12) (v := .int S.v_blocks) (C := R_Mo) (T := F_Mo) (N := 66) hx hb hts (fun w h => u_Mq_Mo w (i_Mo w h)) hown hK hP 0 rfl rfl 50 (by decide) (hts _ (u_Mq_Mo _ k_Mo_57)) (fun _ h9 => h9) rfl d_Mo_groupSize_18 ?_
    refine lv_iconst (v := 1) hx hb d_Mo_groupSize_21 (by decide) ?_
    refine lv_isub hx hb d_Mo_groupSize_22 ?_
    refine lv_iload_n hx hb d_Mo_groupSize_23 rfl (lv_at hl 1 rfl) ?_
    refine lv_aload_n hx hb d_Mo_groupSize_24 rfl (lv_at hl 0 rfl) ?_
    refine va_get (D := (dC, dI)) (ci := 12) (v := .int S.v_per) (C := R_Mo) (T := F_Mo) (N := 66) hx hb hts (fun w h => u_Mq_Mo w (i_Mo w h)) hown hK hP 0 rfl rfl 47 (by decide) (hts _ (u_Mq_Mo _ k_Mo_54)) (fun _ h9 => h9) rfl d_Mo_groupSize_25 ?_
    refine lv_imul hx hb d_Mo_groupSize_28 ?_
    refine lv_isub hx hb d_Mo_groupSize_29 ?_
    rw [hQ]
    have e1 : ((S.v_blocks - 1) - (p0 * S.v_per)) = r := congrArg Prod.fst (Option.some.inj h)
    have e2 : S = S' := congrArg Prod.snd (Option.some.inj h)
    have hP := lx_newP e2.symm hP
    have hD := lx_newD e2.symm hD
    exact W.iret (v := ((S.v_blocks - 1) - (p0 * S.v_per))) hx hb hr (fun t ht hW => ⟨⟨((S.v_blocks - 1) - (p0 * S.v_per)), (), rfl, e1, by rw [ht]; exact hP, va_K.moved hW.alike hK, hD⟩, hS.F ht⟩) hS.2.2 d_Mo_groupSize_30
  · have h := lf_f h c_1
    refine lv_aload_n hx hb d_Mo_groupSize_10 rfl (lv_at hl 0 rfl) ?_
    refine va_get (D := (dC, dI)) (ci := 12) (v := .int S.v_per) (C := R_Mo) (T := F_Mo) (N := 66) hx hb hts (fun w h => u_Mq_Mo w (i_Mo w h)) hown hK hP 0 rfl rfl 47 (by decide) (hts _ (u_Mq_Mo _ k_Mo_54)) (fun _ h9 => h9) rfl d_Mo_groupSize_11 ?_
    refine lv_goto (tgt := 30) hx hb d_Mo_groupSize_14 (by decide) ?_
    rw [hQ]
    have e1 : S.v_per = r := congrArg Prod.fst (Option.some.inj h)
    have e2 : S = S' := congrArg Prod.snd (Option.some.inj h)
    have hP := lx_newP e2.symm hP
    have hD := lx_newD e2.symm hD
    exact W.iret (v := S.v_per) hx hb hr (fun t ht hW => ⟨⟨S.v_per, (), rfl, e1, by rw [ht]; exact hP, va_K.moved hW.alike hK, hD⟩, hS.F ht⟩) hS.2.2 d_Mo_groupSize_30
set_option maxHeartbeats 4000000 in
set_option maxRecDepth 100000 in
theorem l_Mo_mapOf (l : Launch) (dC : Nat → ClassId) (dI : Nat → Nat → Nat) {K : Nat} {M : MA} {E : (Nat → Prop) → State → Prop} (X : lx_X l dC dI K M E) (sz : Nat) {S S' : MS} {p0 : Int32} {r : Int32} (h : f_Mo_mapOf K S p0 = some (r, S')) : Met l y_Mo_mapOf (.code y_Mo_mapOf b_Mo_mapOf 2 (some .int) :: V_Mq) ({ frames := 0, cells := 0, slots := 0, locals := 0 }) (va_Pc [.ref M.o, .int p0] (fun U => U.heap.size = sz ∧ at_ (dC, dI) (fun _ => True) (wM M S) (tM M) U ∧ E (va_A (wM M S) sz) U)) (va_Qi (fun (r_ : Int32) (u : Unit) => r_ = r) (fun (u : Unit) t => at_ (dC, dI) (va_A (wM M S) sz) (wM M S') (tM M) t) (va_A (wM M S) sz)) 0 0 (va_A (wM M S) sz) := by
  refine Met.ofW (cc := b_Mo_mapOf) (maxL := 2) (ret := (some .int)) (by decide) rfl ?_
  intro p e s m args below meth c s₁ B hml hv
  obtain ⟨rfl, hsz, ⟨hP, hK, hD0⟩, hE⟩ := hv
  have hx := B.exec
  have hb := B.bytes
  have hr := B.returns
  have hts0 := atoms_spec (ws := .code y_Mo_mapOf b_Mo_mapOf 2 (some .int) :: V_Mq) B.pre
  have hts : ∀ w ∈ V_Mq, w.before ([.ref M.o, .int p0] : List Value).toArray s = true := fun w h => hts0 w (List.mem_cons_of_mem _ h)
  have hown : s.vm.findClass R_Mo = some m.cls := findClass_of_methodNamed B.named
  subst hsz
  have hD := hD0.self (sz := s.heap.size)
  generalize hAe : va_A (wM M S) s.heap.size = A at hD hE ⊢
  have hA : ∀ q : Nat, s.heap.size ≤ q → A q := fun q h => by rw [← hAe]; exact Or.inr h
  have hS : va_S A s.heap s.heap [] := va_S.rf
  have hP : va_P (dC, dI) classes (wM M S) s.heap := hP
  have hK : va_K (dC, dI) classes (tM M) s := hK
  have hEw : ∀ (H : Heap) (locs : List Loc), va_S A s.heap H locs → ∀ U : State, U.heap = H → s.WarmedH U.vm → E A U := fun H locs hS U hU hW => X.kept A s U H locs hE hS hU hW
  have hl := lv_entry ([.ref M.o, .int p0]) (n := 2) (Nat.le_of_ble_eq_true rfl)
  rw [lg_entry_eq]
  generalize (lg_sl ([.ref M.o, .int p0]) ++ List.replicate (2 - (lg_sl ([.ref M.o, .int p0])).length) Slot.unset).toArray = ls at hl ⊢
  have hl : lv_has ls 2 [(0, .ref M.o), (1, .int p0)] := hl
  refine qabs (fun Q hQ => ?_)
  rw [f_Mo_mapOf] at h
  refine lv_iload_n hx hb d_Mo_mapOf_0 rfl (lv_at hl 1 rfl) ?_
  refine lv_if_ne (tgt := 13) hx hb d_Mo_mapOf_1 (by decide) (fun c_1 => ?_) (fun c_1 => ?_)
  · have h := lf_f h c_1
    refine lv_iconst (v := 3) hx hb d_Mo_mapOf_13 (by decide) ?_
    refine lv_iload_n hx hb d_Mo_mapOf_14 rfl (lv_at hl 1 rfl) ?_
    refine lv_aload_n hx hb d_Mo_mapOf_15 rfl (lv_at hl 0 rfl) ?_
    refine va_get (D := (dC, dI)) (ci := 12) (v := .int S.v_per) (C := R_Mo) (T := F_Mo) (N := 66) hx hb hts (fun w h => u_Mq_Mo w (i_Mo w h)) hown hK hP 0 rfl rfl 47 (by decide) (hts _ (u_Mq_Mo _ k_Mo_54)) (fun _ h9 => h9) rfl d_Mo_mapOf_16 ?_
    refine lv_imul hx hb d_Mo_mapOf_19 ?_
    refine lv_iadd hx hb d_Mo_mapOf_20 ?_
    rw [hQ]
    have e1 : (3 + (p0 * S.v_per)) = r := congrArg Prod.fst (Option.some.inj h)
    have e2 : S = S' := congrArg Prod.snd (Option.some.inj h)
    have hP := lx_newP e2.symm hP
    have hD := lx_newD e2.symm hD
    exact W.iret (v := (3 + (p0 * S.v_per))) hx hb hr (fun t ht hW => ⟨⟨(3 + (p0 * S.v_per)), (), rfl, e1, by rw [ht]; exact hP, va_K.moved hW.alike hK, hD⟩, hS.F ht⟩) hS.2.2 d_Mo_mapOf_21
  · have h := lf_t h c_1
    refine lv_aload_n hx hb d_Mo_mapOf_4 rfl (lv_at hl 0 rfl) ?_
    refine va_get (D := (dC, dI)) (ci := 12) (v := .int S.v_a) (C := R_Mo) (T := F_Mo) (N := 66) hx hb hts (fun w h => u_Mq_Mo w (i_Mo w h)) hown hK hP 0 rfl rfl 16 (by decide) (hts _ (u_Mq_Mo _ k_Mo_23)) (fun _ h9 => h9) rfl d_Mo_mapOf_5 ?_
    refine lv_iconst (v := 2) hx hb d_Mo_mapOf_8 (by decide) ?_
    refine lv_idiv hx hb d_Mo_mapOf_9 (by decide) ?_
    refine lv_goto (tgt := 21) hx hb d_Mo_mapOf_10 (by decide) ?_
    rw [hQ]
    have e1 : (S.v_a / 2) = r := congrArg Prod.fst (Option.some.inj h)
    have e2 : S = S' := congrArg Prod.snd (Option.some.inj h)
    have hP := lx_newP e2.symm hP
    have hD := lx_newD e2.symm hD
    exact W.iret (v := (S.v_a / 2)) hx hb hr (fun t ht hW => ⟨⟨(S.v_a / 2), (), rfl, e1, by rw [ht]; exact hP, va_K.moved hW.alike hK, hD⟩, hS.F ht⟩) hS.2.2 d_Mo_mapOf_21
set_option maxHeartbeats 4000000 in
set_option maxRecDepth 100000 in
theorem l_Mo_clusterOf (l : Launch) (dC : Nat → ClassId) (dI : Nat → Nat → Nat) {K : Nat} {M : MA} {E : (Nat → Prop) → State → Prop} (X : lx_X l dC dI K M E) (sz : Nat) {S S' : MS} {p0 : Int32} {r : Int32} (h : f_Mo_clusterOf K S p0 = some (r, S')) : Met l y_Mo_clusterOf (.code y_Mo_clusterOf b_Mo_clusterOf 2 (some .int) :: V_Mq) ({ frames := 0, cells := 0, slots := 0, locals := 0 }) (va_Pc [.ref M.o, .int p0] (fun U => U.heap.size = sz ∧ at_ (dC, dI) (fun _ => True) (wM M S) (tM M) U ∧ E (va_A (wM M S) sz) U)) (va_Qi (fun (r_ : Int32) (u : Unit) => r_ = r) (fun (u : Unit) t => at_ (dC, dI) (va_A (wM M S) sz) (wM M S') (tM M) t) (va_A (wM M S) sz)) 0 0 (va_A (wM M S) sz) := by
  refine Met.ofW (cc := b_Mo_clusterOf) (maxL := 2) (ret := (some .int)) (by decide) rfl ?_
  intro p e s m args below meth c s₁ B hml hv
  obtain ⟨rfl, hsz, ⟨hP, hK, hD0⟩, hE⟩ := hv
  have hx := B.exec
  have hb := B.bytes
  have hr := B.returns
  have hts0 := atoms_spec (ws := .code y_Mo_clusterOf b_Mo_clusterOf 2 (some .int) :: V_Mq) B.pre
  have hts : ∀ w ∈ V_Mq, w.before ([.ref M.o, .int p0] : List Value).toArray s = true := fun w h => hts0 w (List.mem_cons_of_mem _ h)
  have hown : s.vm.findClass R_Mo = some m.cls := findClass_of_methodNamed B.named
  subst hsz
  have hD := hD0.self (sz := s.heap.size)
  generalize hAe : va_A (wM M S) s.heap.size = A at hD hE ⊢
  have hA : ∀ q : Nat, s.heap.size ≤ q → A q := fun q h => by rw [← hAe]; exact Or.inr h
  have hS : va_S A s.heap s.heap [] := va_S.rf
  have hP : va_P (dC, dI) classes (wM M S) s.heap := hP
  have hK : va_K (dC, dI) classes (tM M) s := hK
  have hEw : ∀ (H : Heap) (locs : List Loc), va_S A s.heap H locs → ∀ U : State, U.heap = H → s.WarmedH U.vm → E A U := fun H locs hS U hU hW => X.kept A s U H locs hE hS hU hW
  have hl := lv_entry ([.ref M.o, .int p0]) (n := 2) (Nat.le_of_ble_eq_true rfl)
  rw [lg_entry_eq]
  generalize (lg_sl ([.ref M.o, .int p0]) ++ List.replicate (2 - (lg_sl ([.ref M.o, .int p0])).length) Slot.unset).toArray = ls at hl ⊢
  have hl : lv_has ls 2 [(0, .ref M.o), (1, .int p0)] := hl
  refine qabs (fun Q hQ => ?_)
  rw [f_Mo_clusterOf] at h
  refine lv_iconst (v := 2) hx hb d_Mo_clusterOf_0 (by decide) ?_
  refine lv_iload_n hx hb d_Mo_clusterOf_1 rfl (lv_at hl 1 rfl) ?_
  refine lv_aload_n hx hb d_Mo_clusterOf_2 rfl (lv_at hl 0 rfl) ?_
  refine va_get (D := (dC, dI)) (ci := 12) (v := .int S.v_a) (C := R_Mo) (T := F_Mo) (N := 66) hx hb hts (fun w h => u_Mq_Mo w (i_Mo w h)) hown hK hP 0 rfl rfl 16 (by decide) (hts _ (u_Mq_Mo _ k_Mo_23)) (fun _ h9 => h9) rfl d_Mo_clusterOf_3 ?_
  refine lv_iconst (v := 2) hx hb d_Mo_clusterOf_6 (by decide) ?_
  refine lv_idiv hx hb d_Mo_clusterOf_7 (by decide) ?_
  refine lv_isub hx hb d_Mo_clusterOf_8 ?_
  refine lv_aload_n hx hb d_Mo_clusterOf_9 rfl (lv_at hl 0 rfl) ?_
  refine va_get (D := (dC, dI)) (ci := 12) (v := .int S.v_c) (C := R_Mo) (T := F_Mo) (N := 66) hx hb hts (fun w h => u_Mq_Mo w (i_Mo w h)) hown hK hP 0 rfl rfl 11 (by decide) (hts _ (u_Mq_Mo _ k_Mo_18)) (fun _ h9 => h9) rfl d_Mo_clusterOf_10 ?_
  refine lv_iconst (v := 2) hx hb d_Mo_clusterOf_13 (by decide) ?_
  refine lv_idiv hx hb d_Mo_clusterOf_14 (by decide) ?_
  obtain ⟨g_1, h⟩ := lf_gE h
  refine lv_idiv hx hb d_Mo_clusterOf_15 g_1 ?_
  refine lv_iadd hx hb d_Mo_clusterOf_16 ?_
  rw [hQ]
  have e1 : (2 + ((p0 - (S.v_a / 2)) / (S.v_c / 2))) = r := congrArg Prod.fst (Option.some.inj h)
  have e2 : S = S' := congrArg Prod.snd (Option.some.inj h)
  have hP := lx_newP e2.symm hP
  have hD := lx_newD e2.symm hD
  exact W.iret (v := (2 + ((p0 - (S.v_a / 2)) / (S.v_c / 2)))) hx hb hr (fun t ht hW => ⟨⟨(2 + ((p0 - (S.v_a / 2)) / (S.v_c / 2))), (), rfl, e1, by rw [ht]; exact hP, va_K.moved hW.alike hK, hD⟩, hS.F ht⟩) hS.2.2 d_Mo_clusterOf_17
set_option maxHeartbeats 4000000 in
set_option maxRecDepth 100000 in
theorem l_Mo_isRoomy (l : Launch) (dC : Nat → ClassId) (dI : Nat → Nat → Nat) {K : Nat} {M : MA} {E : (Nat → Prop) → State → Prop} (X : lx_X l dC dI K M E) (sz : Nat) {S S' : MS} {r : Int32} (h : f_Mo_isRoomy K S = some (r, S')) : Met l y_Mo_isRoomy (.code y_Mo_isRoomy b_Mo_isRoomy 4 (some .boolean) :: V_Mq) ({ frames := 1, cells := 0, slots := 0, locals := 21 }) (va_Pc [.ref M.o] (fun U => U.heap.size = sz ∧ at_ (dC, dI) (fun _ => True) (wM M S) (tM M) U ∧ E (va_A (wM M S) sz) U)) (va_Qi (fun (r_ : Int32) (u : Unit) => r_ = r) (fun (u : Unit) t => at_ (dC, dI) (va_A (wM M S) sz) (wM M S') (tM M) t) (va_A (wM M S) sz)) 0 0 (va_A (wM M S) sz) := by
  refine Met.ofW (cc := b_Mo_isRoomy) (maxL := 4) (ret := (some .boolean)) (by decide) rfl ?_
  intro p e s m args below meth c s₁ B hml hv
  obtain ⟨rfl, hsz, ⟨hP, hK, hD0⟩, hE⟩ := hv
  have hx := B.exec
  have hb := B.bytes
  have hr := B.returns
  have hts0 := atoms_spec (ws := .code y_Mo_isRoomy b_Mo_isRoomy 4 (some .boolean) :: V_Mq) B.pre
  have hts : ∀ w ∈ V_Mq, w.before ([.ref M.o] : List Value).toArray s = true := fun w h => hts0 w (List.mem_cons_of_mem _ h)
  have hown : s.vm.findClass R_Mo = some m.cls := findClass_of_methodNamed B.named
  subst hsz
  have hD := hD0.self (sz := s.heap.size)
  generalize hAe : va_A (wM M S) s.heap.size = A at hD hE ⊢
  have hA : ∀ q : Nat, s.heap.size ≤ q → A q := fun q h => by rw [← hAe]; exact Or.inr h
  have hS : va_S A s.heap s.heap [] := va_S.rf
  have hP : va_P (dC, dI) classes (wM M S) s.heap := hP
  have hK : va_K (dC, dI) classes (tM M) s := hK
  have hEw : ∀ (H : Heap) (locs : List Loc), va_S A s.heap H locs → ∀ U : State, U.heap = H → s.WarmedH U.vm → E A U := fun H locs hS U hU hW => X.kept A s U H locs hE hS hU hW
  have hl := lv_entry ([.ref M.o]) (n := 4) (Nat.le_of_ble_eq_true rfl)
  rw [lg_entry_eq]
  generalize (lg_sl ([.ref M.o]) ++ List.replicate (4 - (lg_sl ([.ref M.o])).length) Slot.unset).toArray = ls at hl ⊢
  have hl : lv_has ls 4 [(0, .ref M.o)] := hl
  refine qabs (fun Q hQ => ?_)
  have hB_57 : ∀ (rec_4 : Int32 → Int32 → MS → Option (Int32 × MS)) (hr_4 : ∀ (y_1 : Int32) (y_2 : Int32) (S : MS) (H : Heap) (locs : List Loc) (ls : Array Slot), rec_4 y_1 y_2 S = some (r, S') → va_P (dC, dI) classes (wM M S) H → va_D A (wM M S) → va_S A s.heap H locs → lv_has ls 4 [(0, .ref M.o), (1, .int y_1), (2, .int y_2)] → W p l e ({ frames := 1, cells := 0, slots := 0, locals := 21 }) s m ([.ref M.o] : List Value).toArray below meth c H locs 0 0 Q (F0 m 4 ls [])), ∀ (y_2 : Int32) (z_0 : Int32) (S : MS) (H : Heap) (locs : List Loc) (ls : Array Slot), f_Mo_isRoomy_57 K rec_4 y_2 z_0 S = some (r, S') → va_P (dC, dI) classes (wM M S) H → va_D A (wM M S) → va_S A s.heap H locs → lv_has ls 4 [(0, .ref M.o), (2, .int y_2)] → W p l e ({ frames := 1, cells := 0, slots := 0, locals := 21 }) s m ([.ref M.o] : List Value).toArray below meth c H locs 0 0 Q (F0 m 57 ls [.int z_0]) := by
    intro rec_4 hr_4 y_2 z_0 S H locs ls h hP hD hS hl
    rw [f_Mo_isRoomy_57] at h
    refine lv_istore_n (lv' := [(1, .int z_0), (0, .ref M.o), (2, .int y_2)]) hx hb d_Mo_isRoomy_57 rfl hl (by decide) rfl (fun ls hl => ?_)
    obtain ⟨x_17, ex_17, h⟩ := lf_lX h
    refine lv_iinc (v := x_17) (lv' := [(2, .int x_17), (1, .int z_0), (0, .ref M.o)]) hx hb d_Mo_isRoomy_58 hl (k := 2) rfl (by rw [ex_17]; rfl) (by decide) rfl (fun ls hl => ?_)
    refine lv_goto (tgt := 4) hx hb d_Mo_isRoomy_61 (by decide) ?_
    exact hr_4 z_0 x_17 S _ _ _ h hP hD hS (lv_sub hl [2, 1, 0] rfl)
  have hB_56 : ∀ (rec_4 : Int32 → Int32 → MS → Option (Int32 × MS)) (hr_4 : ∀ (y_1 : Int32) (y_2 : Int32) (S : MS) (H : Heap) (locs : List Loc) (ls : Array Slot), rec_4 y_1 y_2 S = some (r, S') → va_P (dC, dI) classes (wM M S) H → va_D A (wM M S) → va_S A s.heap H locs → lv_has ls 4 [(0, .ref M.o), (1, .int y_1), (2, .int y_2)] → W p l e ({ frames := 1, cells := 0, slots := 0, locals := 21 }) s m ([.ref M.o] : List Value).toArray below meth c H locs 0 0 Q (F0 m 4 ls [])), ∀ (y_2 : Int32) (S : MS) (H : Heap) (locs : List Loc) (ls : Array Slot), f_Mo_isRoomy_56 K rec_4 y_2 S = some (r, S') → va_P (dC, dI) classes (wM M S) H → va_D A (wM M S) → va_S A s.heap H locs → lv_has ls 4 [(0, .ref M.o), (2, .int y_2)] → W p l e ({ frames := 1, cells := 0, slots := 0, locals := 21 }) s m ([.ref M.o] : List Value).toArray below meth c H locs 0 0 Q (F0 m 56 ls []) := by
    intro rec_4 hr_4 y_2 S H locs ls h hP hD hS hl
    rw [f_Mo_isRoomy_56] at h
    refine lv_iconst (v := 0) hx hb d_Mo_isRoomy_56 (by decide) ?_
    exact hB_57 _ hr_4 y_2 0 S _ _ _ h hP hD hS (lv_sub hl [0, 1] rfl)
  have hB_49 : ∀ (rec_4 : Int32 → Int32 → MS → Option (Int32 × MS)) (hr_4 : ∀ (y_1 : Int32) (y_2 : Int32) (S : MS) (H : Heap) (locs : List Loc) (ls : Array Slot), rec_4 y_1 y_2 S = some (r, S') → va_P (dC, dI) classes (wM M S) H → va_D A (wM M S) → va_S A s.heap H locs → lv_has ls 4 [(0, .ref M.o), (1, .int y_1), (2, .int y_2)] → W p l e ({ frames := 1, cells := 0, slots := 0, locals := 21 }) s m ([.ref M.o] : List Value).toArray below meth c H locs 0 0 Q (F0 m 4 ls [])), ∀ (y_2 : Int32) (z_0 : Int32) (z_1 : Int32) (S : MS) (H : Heap) (locs : List Loc) (ls : Array Slot), f_Mo_isRoomy_49 K rec_4 y_2 z_0 z_1 S = some (r, S') → va_P (dC, dI) classes (wM M S) H → va_D A (wM M S) → va_S A s.heap H locs → lv_has ls 4 [(0, .ref M.o), (2, .int y_2)] → W p l e ({ frames := 1, cells := 0, slots := 0, locals := 21 }) s m ([.ref M.o] : List Value).toArray below meth c H locs 0 0 Q (F0 m 49 ls [.int z_1, .int z_0]) := by
    intro rec_4 hr_4 y_2 z_0 z_1 S H locs ls h hP hD hS hl
    rw [f_Mo_isRoomy_49] at h
    refine lv_icmp_lt (tgt := 56) hx hb d_Mo_isRoomy_49 (by decide) (fun c_10 => ?_) (fun c_10 => ?_)
    · have h := lf_t h c_10
      exact hB_56 _ hr_4 y_2 S _ _ _ h hP hD hS (lv_sub hl [0, 1] rfl)
    · have h := lf_f h c_10
      refine lv_iconst (v := 1) hx hb d_Mo_isRoomy_52 (by decide) ?_
      refine lv_goto (tgt := 57) hx hb d_Mo_isRoomy_53 (by decide) ?_
      exact hB_57 _ hr_4 y_2 1 S _ _ _ h hP hD hS (lv_sub hl [0, 1] rfl)
  have hB_132 : ∀ (rec_94 : Int32 → Int32 → MS → Option (Int32 × MS)) (hr_94 : ∀ (y_1 : Int32) (y_2 : Int32) (S : MS) (H : Heap) (locs : List Loc) (ls : Array Slot), rec_94 y_1 y_2 S = some (r, S') → va_P (dC, dI) classes (wM M S) H → va_D A (wM M S) → va_S A s.heap H locs → lv_has ls 4 [(0, .ref M.o), (1, .int y_1), (2, .int y_2)] → W p l e ({ frames := 1, cells := 0, slots := 0, locals := 21 }) s m ([.ref M.o] : List Value).toArray below meth c H locs 0 0 Q (F0 m 94 ls [])) (k : Nat), ∀ (y_1 : Int32) (y_2 : Int32) (y_3 : Int32) (S : MS) (H : Heap) (locs : List Loc) (ls : Array Slot), f_Mo_isRoomy_132 K rec_94 k y_1 y_2 y_3 S = some (r, S') → va_P (dC, dI) classes (wM M S) H → va_D A (wM M S) → va_S A s.heap H locs → lv_has ls 4 [(0, .ref M.o), (1, .int y_1), (2, .int y_2), (3, .int y_3)] → W p l e ({ frames := 1, cells := 0, slots := 0, locals := 21 }) s m ([.ref M.o] : List Value).toArray below meth c H locs 0 0 Q (F0 m 132 ls []) := by
    intro rec_94 hr_94 k
    induction k with
    | zero => intro y_1 y_2 y_3 S H locs ls h; exact lf_no h
    | succ k hr_132 =>
      intro y_1 y_2 y_3 S H locs ls h hP hD hS hl
      rw [f_Mo_isRoomy_132] at h
      refine lv_iload_n hx hb d_Mo_isRoomy_132 rfl (lv_at hl 3 rfl) ?_
      refine lv_iconst (v := 2) hx hb d_Mo_isRoomy_133 (by decide) ?_
      refine lv_aload_n hx hb d_Mo_isRoomy_134 rfl (lv_at hl 0 rfl) ?_
      refine va_get (D := (dC, dI)) (ci := 12) (v := .int S.v_rows) (C := R_Mo) (T := F_Mo) (N := 66) hx hb hts (fun w h => u_Mq_Mo w (i_Mo w h)) hown hK hP 0 rfl rfl 49 (by decide) (hts _ (u_Mq_Mo _ k_Mo_56)) (fun _ h9 => h9) rfl d_Mo_isRoomy_135 ?_
      refine lv_iadd hx hb d_Mo_isRoomy_138 ?_
      refine lv_icmp_ge (tgt := 161) hx hb d_Mo_isRoomy_139 (by decide) (fun c_22 => ?_) (fun c_22 => ?_)
      · have h := lf_t h c_22
        obtain ⟨x_23, ex_23, h⟩ := lf_lX h
        refine lv_iinc (v := x_23) (lv' := [(2, .int x_23), (0, .ref M.o), (1, .int y_1), (3, .int y_3)]) hx hb d_Mo_isRoomy_161 hl (k := 2) rfl (by rw [ex_23]; rfl) (by decide) rfl (fun ls hl => ?_)
        refine lv_goto (tgt := 94) hx hb d_Mo_isRoomy_164 (by decide) ?_
        exact hr_94 y_1 x_23 S _ _ _ h hP hD hS (lv_sub hl [1, 2, 0] rfl)
      · have h := lf_f h c_22
        refine lv_aload_n hx hb d_Mo_isRoomy_142 rfl (lv_at hl 0 rfl) ?_
        refine va_get (D := (dC, dI)) (ci := 12) (v := .ref M.a_fixed) (C := R_Mo) (T := F_Mo) (N := 66) hx hb hts (fun w h => u_Mq_Mo w (i_Mo w h)) hown hK hP 0 rfl rfl 51 (by decide) (hts _ (u_Mq_Mo _ k_Mo_58)) (fun _ h9 => h9) rfl d_Mo_isRoomy_143 ?_
        refine lv_aload_n hx hb d_Mo_isRoomy_146 rfl (lv_at hl 0 rfl) ?_
        refine lv_iload_n hx hb d_Mo_isRoomy_147 rfl (lv_at hl 2 rfl) ?_
        obtain ⟨r_24, S_24, hc_24, h⟩ := lf_cE h
        have hFc := lx_free hD hS hA
        refine va_calli (va_runV (As := [.int y_2]) (rest := [.ref M.a_fixed]) ⟨hx, hb, hml, hown, hts⟩ (l_Mo_mapOf l dC dI X _ hc_24) (cwV 1 hts (gwV good_Mq (u_Mq_Mo _ k_Mo_376) (u_Mq_Mo _ k_Mo_377) (u_Mq_Mo _ k_Mo_530) (u_Mq_Mo _ k_Mo_0) (wcs (u_Mq_Mo _ k_Mo_378) (fun _ h => h))) rfl rfl rfl (by decide +kernel) ⟨Nat.le_of_ble_eq_true rfl, Nat.le_of_ble_eq_true rfl⟩) (pv_ofE (X.same _) (fun U z1 z2 => X.mono _ _ U hFc (hEw _ _ hS U z1 z2)) hP hK hD (va_recv hK hP (ci := 12) (q0 := 0) rfl rfl)) rfl rfl hl.1 rfl (lv_room (Nat.le_of_ble_eq_true rfl)) d_Mo_isRoomy_148 ⟨by decide, by decide⟩) hS (fun q _ h => hFc q h) hFc (fun r_ u t H locs ht hvm hw hB hz1 hk1 hS => ?_)
        rw [hw]
        obtain ⟨hP, -, hD⟩ := hB
        rw [ht] at hP
        have hD := lx_dj hD hFc
        refine lv_iload_n hx hb d_Mo_isRoomy_151 rfl (lv_at hl 3 rfl) ?_
        refine lv_iadd hx hb d_Mo_isRoomy_152 ?_
        refine lv_iconst (v := 1) hx hb d_Mo_isRoomy_153 (by decide) ?_
        obtain ⟨g_25, h⟩ := lf_gE h
        refine va_zast hx hb hK hP hD hS 21 20 rfl rfl g_25 d_Mo_isRoomy_154 (fun H locs hP hD hS => ?_)
        obtain ⟨S_26, eS_26, h⟩ := lf_lX h
        have hP := lx_newP eS_26 hP
        have hD := lx_newD eS_26 hD
        obtain ⟨x_27, ex_27, h⟩ := lf_lX h
        refine lv_iinc (v := x_27) (lv' := [(3, .int x_27), (0, .ref M.o), (1, .int y_1), (2, .int y_2)]) hx hb d_Mo_isRoomy_155 hl (k := 3) rfl (by rw [ex_27]; rfl) (by decide) rfl (fun ls hl => ?_)
        refine lv_goto (tgt := 132) hx hb d_Mo_isRoomy_158 (by decide) ?_
        exact hr_132 y_1 y_2 x_27 S_26 _ _ _ h hP hD hS (lv_sub hl [1, 2, 3, 0] rfl)
  have hB_250 : ∀ (rec_174 : Int32 → Int32 → MS → Option (Int32 × MS)) (hr_174 : ∀ (y_1 : Int32) (y_2 : Int32) (S : MS) (H : Heap) (locs : List Loc) (ls : Array Slot), rec_174 y_1 y_2 S = some (r, S') → va_P (dC, dI) classes (wM M S) H → va_D A (wM M S) → va_S A s.heap H locs → lv_has ls 4 [(0, .ref M.o), (1, .int y_1), (2, .int y_2)] → W p l e ({ frames := 1, cells := 0, slots := 0, locals := 21 }) s m ([.ref M.o] : List Value).toArray below meth c H locs 0 0 Q (F0 m 174 ls [])), ∀ (y_2 : Int32) (z_0 : Int32) (S : MS) (H : Heap) (locs : List Loc) (ls : Array Slot), f_Mo_isRoomy_250 K rec_174 y_2 z_0 S = some (r, S') → va_P (dC, dI) classes (wM M S) H → va_D A (wM M S) → va_S A s.heap H locs → lv_has ls 4 [(0, .ref M.o), (2, .int y_2)] → W p l e ({ frames := 1, cells := 0, slots := 0, locals := 21 }) s m ([.ref M.o] : List Value).toArray below meth c H locs 0 0 Q (F0 m 250 ls [.int z_0]) := by
    intro rec_174 hr_174 y_2 z_0 S H locs ls h hP hD hS hl
    rw [f_Mo_isRoomy_250] at h
    refine lv_istore_n (lv' := [(1, .int z_0), (0, .ref M.o), (2, .int y_2)]) hx hb d_Mo_isRoomy_250 rfl hl (by decide) rfl (fun ls hl => ?_)
    obtain ⟨x_37, ex_37, h⟩ := lf_lX h
    refine lv_iinc (v := x_37) (lv' := [(2, .int x_37), (1, .int z_0), (0, .ref M.o)]) hx hb d_Mo_isRoomy_251 hl (k := 2) rfl (by rw [ex_37]; rfl) (by decide) rfl (fun ls hl => ?_)
    refine lv_goto (tgt := 174) hx hb d_Mo_isRoomy_254 (by decide) ?_
    exact hr_174 z_0 x_37 S _ _ _ h hP hD hS (lv_sub hl [2, 1, 0] rfl)
  have hB_245 : ∀ (rec_174 : Int32 → Int32 → MS → Option (Int32 × MS)) (hr_174 : ∀ (y_1 : Int32) (y_2 : Int32) (S : MS) (H : Heap) (locs : List Loc) (ls : Array Slot), rec_174 y_1 y_2 S = some (r, S') → va_P (dC, dI) classes (wM M S) H → va_D A (wM M S) → va_S A s.heap H locs → lv_has ls 4 [(0, .ref M.o), (1, .int y_1), (2, .int y_2)] → W p l e ({ frames := 1, cells := 0, slots := 0, locals := 21 }) s m ([.ref M.o] : List Value).toArray below meth c H locs 0 0 Q (F0 m 174 ls [])), ∀ (y_2 : Int32) (S : MS) (H : Heap) (locs : List Loc) (ls : Array Slot), f_Mo_isRoomy_245 K rec_174 y_2 S = some (r, S') → va_P (dC, dI) classes (wM M S) H → va_D A (wM M S) → va_S A s.heap H locs → lv_has ls 4 [(0, .ref M.o), (2, .int y_2)] → W p l e ({ frames := 1, cells := 0, slots := 0, locals := 21 }) s m ([.ref M.o] : List Value).toArray below meth c H locs 0 0 Q (F0 m 245 ls []) := by
    intro rec_174 hr_174 y_2 S H locs ls h hP hD hS hl
    rw [f_Mo_isRoomy_245] at h
    refine lv_iconst (v := 1) hx hb d_Mo_isRoomy_245 (by decide) ?_
    refine lv_goto (tgt := 250) hx hb d_Mo_isRoomy_246 (by decide) ?_
    exact hB_250 _ hr_174 y_2 1 S _ _ _ h hP hD hS (lv_sub hl [0, 1] rfl)
  have hB_249 : ∀ (rec_174 : Int32 → Int32 → MS → Option (Int32 × MS)) (hr_174 : ∀ (y_1 : Int32) (y_2 : Int32) (S : MS) (H : Heap) (locs : List Loc) (ls : Array Slot), rec_174 y_1 y_2 S = some (r, S') → va_P (dC, dI) classes (wM M S) H → va_D A (wM M S) → va_S A s.heap H locs → lv_has ls 4 [(0, .ref M.o), (1, .int y_1), (2, .int y_2)] → W p l e ({ frames := 1, cells := 0, slots := 0, locals := 21 }) s m ([.ref M.o] : List Value).toArray below meth c H locs 0 0 Q (F0 m 174 ls [])), ∀ (y_2 : Int32) (S : MS) (H : Heap) (locs : List Loc) (ls : Array Slot), f_Mo_isRoomy_249 K rec_174 y_2 S = some (r, S') → va_P (dC, dI) classes (wM M S) H → va_D A (wM M S) → va_S A s.heap H locs → lv_has ls 4 [(0, .ref M.o), (2, .int y_2)] → W p l e ({ frames := 1, cells := 0, slots := 0, locals := 21 }) s m ([.ref M.o] : List Value).toArray below meth c H locs 0 0 Q (F0 m 249 ls []) := by
    intro rec_174 hr_174 y_2 S H locs ls h hP hD hS hl
    rw [f_Mo_isRoomy_249] at h
    refine lv_iconst (v := 0) hx hb d_Mo_isRoomy_249 (by decide) ?_
    exact hB_250 _ hr_174 y_2 0 S _ _ _ h hP hD hS (lv_sub hl [0, 1] rfl)
  have hB_201 : ∀ (rec_174 : Int32 → Int32 → MS → Option (Int32 × MS)) (hr_174 : ∀ (y_1 : Int32) (y_2 : Int32) (S : MS) (H : Heap) (locs : List Loc) (ls : Array Slot), rec_174 y_1 y_2 S = some (r, S') → va_P (dC, dI) classes (wM M S) H → va_D A (wM M S) → va_S A s.heap H locs → lv_has ls 4 [(0, .ref M.o), (1, .int y_1), (2, .int y_2)] → W p l e ({ frames := 1, cells := 0, slots := 0, locals := 21 }) s m ([.ref M.o] : List Value).toArray below meth c H locs 0 0 Q (F0 m 174 ls [])), ∀ (y_1 : Int32) (y_2 : Int32) (z_1 : Int32) (z_2 : Int32) (S : MS) (H : Heap) (locs : List Loc) (ls : Array Slot), f_Mo_isRoomy_201 K rec_174 y_1 y_2 z_1 z_2 S = some (r, S') → va_P (dC, dI) classes (wM M S) H → va_D A (wM M S) → va_S A s.heap H locs → lv_has ls 4 [(0, .ref M.o), (1, .int y_1), (2, .int y_2)] → W p l e ({ frames := 1, cells := 0, slots := 0, locals := 21 }) s m ([.ref M.o] : List Value).toArray below meth c H locs 0 0 Q (F0 m 201 ls [.int z_2, .int z_1, .ref M.o]) := by
    intro rec_174 hr_174 y_1 y_2 z_1 z_2 S H locs ls h hP hD hS hl
    rw [f_Mo_isRoomy_201] at h
    refine lv_iadd hx hb d_Mo_isRoomy_201 ?_
    refine va_put (D := (dC, dI)) (ci := 12) (v := .int (z_1 + z_2)) (ty := .int) (C := R_Mo) (T := F_Mo) (N := 66) hx hb hts (fun w h => u_Mq_Mo w (i_Mo w h)) t_Mo t_Mo_ok n_Mo hown hK hP hD hS 0 rfl rfl 56 (by decide) (hts _ (u_Mq_Mo _ k_Mo_63)) (fun _ h9 => h9) rfl (by decide +kernel) rfl rfl (Nat.le_of_ble_eq_true rfl) d_Mo_isRoomy_202 (fun H locs hP hD hS => ?_)
    obtain ⟨S_28, eS_28, h⟩ := lf_lX h
    have hP := lx_newP eS_28 hP
    have hD := lx_newD eS_28 hD
    refine lv_iload_n hx hb d_Mo_isRoomy_205 rfl (lv_at hl 1 rfl) ?_
    refine lv_if_eq (tgt := 249) hx hb d_Mo_isRoomy_206 (by decide) (fun c_29 => ?_) (fun c_29 => ?_)
    · have h := lf_t h c_29
      exact hB_249 _ hr_174 y_2 S_28 _ _ _ h hP hD hS (lv_sub hl [0, 2] rfl)
    · have h := lf_f h c_29
      refine lv_aload_n hx hb d_Mo_isRoomy_209 rfl (lv_at hl 0 rfl) ?_
      refine va_get (D := (dC, dI)) (ci := 12) (v := .ref M.a_fixed) (C := R_Mo) (T := F_Mo) (N := 66) hx hb hts (fun w h => u_Mq_Mo w (i_Mo w h)) hown hK hP 0 rfl rfl 51 (by decide) (hts _ (u_Mq_Mo _ k_Mo_58)) (fun _ h9 => h9) rfl d_Mo_isRoomy_210 ?_
      refine lv_iload_n hx hb d_Mo_isRoomy_213 rfl (lv_at hl 2 rfl) ?_
      obtain ⟨g_30, h⟩ := lf_gE h
      refine va_zald hx hb hK hP 21 20 rfl rfl g_30 d_Mo_isRoomy_214 ?_
      refine lv_if_eq (tgt := 245) hx hb d_Mo_isRoomy_215 (by decide) (fun c_31 => ?_) (fun c_31 => ?_)
      · have h := lf_t h c_31
        exact hB_245 _ hr_174 y_2 S_28 _ _ _ h hP hD hS (lv_sub hl [0, 2] rfl)
      · have h := lf_f h c_31
        refine lv_iload_n hx hb d_Mo_isRoomy_218 rfl (lv_at hl 2 rfl) ?_
        refine lv_iconst (v := 3) hx hb d_Mo_isRoomy_219 (by decide) ?_
        refine lv_icmp_lt (tgt := 245) hx hb d_Mo_isRoomy_220 (by decide) (fun c_32 => ?_) (fun c_32 => ?_)
        · have h := lf_t h c_32
          exact hB_245 _ hr_174 y_2 S_28 _ _ _ h hP hD hS (lv_sub hl [0, 2] rfl)
        · have h := lf_f h c_32
          refine lv_iload_n hx hb d_Mo_isRoomy_223 rfl (lv_at hl 2 rfl) ?_
          refine lv_aload_n hx hb d_Mo_isRoomy_224 rfl (lv_at hl 0 rfl) ?_
          refine va_get (D := (dC, dI)) (ci := 12) (v := .int S_28.v_a) (C := R_Mo) (T := F_Mo) (N := 66) hx hb hts (fun w h => u_Mq_Mo w (i_Mo w h)) hown hK hP 0 rfl rfl 16 (by decide) (hts _ (u_Mq_Mo _ k_Mo_23)) (fun _ h9 => h9) rfl d_Mo_isRoomy_225 ?_
          refine lv_iconst (v := 2) hx hb d_Mo_isRoomy_228 (by decide) ?_
          refine lv_idiv hx hb d_Mo_isRoomy_229 (by decide) ?_
          refine lv_icmp_lt (tgt := 249) hx hb d_Mo_isRoomy_230 (by decide) (fun c_33 => ?_) (fun c_33 => ?_)
          · have h := lf_t h c_33
            exact hB_249 _ hr_174 y_2 S_28 _ _ _ h hP hD hS (lv_sub hl [0, 2] rfl)
          · have h := lf_f h c_33
            refine lv_aload_n hx hb d_Mo_isRoomy_233 rfl (lv_at hl 0 rfl) ?_
            refine lv_aload_n hx hb d_Mo_isRoomy_234 rfl (lv_at hl 0 rfl) ?_
            refine lv_iload_n hx hb d_Mo_isRoomy_235 rfl (lv_at hl 2 rfl) ?_
            obtain ⟨r_34, S_34, hc_34, h⟩ := lf_cE h
            have hFc := lx_free hD hS hA
            refine va_calli (va_runV (As := [.int y_2]) (rest := [.ref M.o]) ⟨hx, hb, hml, hown, hts⟩ (l_Mo_clusterOf l dC dI X _ hc_34) (cwV 1 hts (gwV good_Mq (u_Mq_Mo _ k_Mo_379) (u_Mq_Mo _ k_Mo_380) (u_Mq_Mo _ k_Mo_531) (u_Mq_Mo _ k_Mo_0) (wcs (u_Mq_Mo _ k_Mo_381) (fun _ h => h))) rfl rfl rfl (by decide +kernel) ⟨Nat.le_of_ble_eq_true rfl, Nat.le_of_ble_eq_true rfl⟩) (pv_ofE (X.same _) (fun U z1 z2 => X.mono _ _ U hFc (hEw _ _ hS U z1 z2)) hP hK hD (va_recv hK hP (ci := 12) (q0 := 0) rfl rfl)) rfl rfl hl.1 rfl (lv_room (Nat.le_of_ble_eq_true rfl)) d_Mo_isRoomy_236 ⟨by decide, by decide⟩) hS (fun q _ h => hFc q h) hFc (fun r_ u t H locs ht hvm hw hB hz1 hk1 hS => ?_)
            rw [hw]
            obtain ⟨hP, -, hD⟩ := hB
            rw [ht] at hP
            have hD := lx_dj hD hFc
            obtain ⟨r_35, S_35, hc_35, h⟩ := lf_cE h
            have hFc := lx_free hD hS hA
            refine va_calli (va_runV (As := [.int r_34]) (rest := []) ⟨hx, hb, hml, hown, hts⟩ (l_Mo_isCluster l dC dI X _ hc_35) (cwV 1 hts (gwV good_Mq (u_Mq_Mo _ k_Mo_104) (u_Mq_Mo _ k_Mo_105) (u_Mq_Mo _ k_Mo_482) (u_Mq_Mo _ k_Mo_0) (wcs (u_Mq_Mo _ k_Mo_106) (fun _ h => h))) rfl rfl rfl (by decide +kernel) ⟨Nat.le_of_ble_eq_true rfl, Nat.le_of_ble_eq_true rfl⟩) (pv_ofE (X.same _) (fun U z1 z2 => X.mono _ _ U hFc (hEw _ _ hS U z1 z2)) hP hK hD (va_recv hK hP (ci := 12) (q0 := 0) rfl rfl)) rfl rfl hl.1 rfl (lv_room (Nat.le_of_ble_eq_true rfl)) d_Mo_isRoomy_239 ⟨by decide, by decide⟩) hS (fun q _ h => hFc q h) hFc (fun r_ u t H locs ht hvm hw hB hz1 hk1 hS => ?_)
            rw [hw]
            obtain ⟨hP, -, hD⟩ := hB
            rw [ht] at hP
            have hD := lx_dj hD hFc
            refine lv_if_eq (tgt := 249) hx hb d_Mo_isRoomy_242 (by decide) (fun c_36 => ?_) (fun c_36 => ?_)
            · have h := lf_t h c_36
              exact hB_249 _ hr_174 y_2 S_35 _ _ _ h hP hD hS (lv_sub hl [0, 2] rfl)
            · have h := lf_f h c_36
              exact hB_245 _ hr_174 y_2 S_35 _ _ _ h hP hD hS (lv_sub hl [0, 2] rfl)
  have hB_174 : ∀ (k : Nat), ∀ (y_1 : Int32) (y_2 : Int32) (S : MS) (H : Heap) (locs : List Loc) (ls : Array Slot), f_Mo_isRoomy_174 K k y_1 y_2 S = some (r, S') → va_P (dC, dI) classes (wM M S) H → va_D A (wM M S) → va_S A s.heap H locs → lv_has ls 4 [(0, .ref M.o), (1, .int y_1), (2, .int y_2)] → W p l e ({ frames := 1, cells := 0, slots := 0, locals := 21 }) s m ([.ref M.o] : List Value).toArray below meth c H locs 0 0 Q (F0 m 174 ls []) := by
    intro k
    induction k with
    | zero => intro y_1 y_2 S H locs ls h; exact lf_no h
    | succ k hr_174 =>
      intro y_1 y_2 S H locs ls h hP hD hS hl
      rw [f_Mo_isRoomy_174] at h
      refine lv_iload_n hx hb d_Mo_isRoomy_174 rfl (lv_at hl 2 rfl) ?_
      refine lv_aload_n hx hb d_Mo_isRoomy_175 rfl (lv_at hl 0 rfl) ?_
      refine va_get (D := (dC, dI)) (ci := 12) (v := .int S.v_blocks) (C := R_Mo) (T := F_Mo) (N := 66) hx hb hts (fun w h => u_Mq_Mo w (i_Mo w h)) hown hK hP 0 rfl rfl 50 (by decide) (hts _ (u_Mq_Mo _ k_Mo_57)) (fun _ h9 => h9) rfl d_Mo_isRoomy_176 ?_
      refine lv_icmp_ge (tgt := 257) hx hb d_Mo_isRoomy_179 (by decide) (fun c_18 => ?_) (fun c_18 => ?_)
      · have h := lf_t h c_18
        refine lv_iload_n hx hb d_Mo_isRoomy_257 rfl (lv_at hl 1 rfl) ?_
        obtain ⟨g_19, h⟩ := lf_gE h
        rw [hQ]
        have e1 : y_1 = r := congrArg Prod.fst (Option.some.inj h)
        have e2 : S = S' := congrArg Prod.snd (Option.some.inj h)
        have hP := lx_newP e2.symm hP
        have hD := lx_newD e2.symm hD
        exact W.zret (v := y_1) hx hb hr (lf_nz g_19) (fun t ht hW => ⟨⟨y_1, (), rfl, e1, by rw [ht]; exact hP, va_K.moved hW.alike hK, hD⟩, hS.F ht⟩) hS.2.2 d_Mo_isRoomy_258
      · have h := lf_f h c_18
        refine lv_aload_n hx hb d_Mo_isRoomy_182 rfl (lv_at hl 0 rfl) ?_
        refine lv_dup hx hb d_Mo_isRoomy_183 rfl ?_
        refine va_get (D := (dC, dI)) (ci := 12) (v := .int S.v_fixedBlocks) (C := R_Mo) (T := F_Mo) (N := 66) hx hb hts (fun w h => u_Mq_Mo w (i_Mo w h)) hown hK hP 0 rfl rfl 56 (by decide) (hts _ (u_Mq_Mo _ k_Mo_63)) (fun _ h9 => h9) rfl d_Mo_isRoomy_184 ?_
        refine lv_aload_n hx hb d_Mo_isRoomy_187 rfl (lv_at hl 0 rfl) ?_
        refine va_get (D := (dC, dI)) (ci := 12) (v := .ref M.a_fixed) (C := R_Mo) (T := F_Mo) (N := 66) hx hb hts (fun w h => u_Mq_Mo w (i_Mo w h)) hown hK hP 0 rfl rfl 51 (by decide) (hts _ (u_Mq_Mo _ k_Mo_58)) (fun _ h9 => h9) rfl d_Mo_isRoomy_188 ?_
        refine lv_iload_n hx hb d_Mo_isRoomy_191 rfl (lv_at hl 2 rfl) ?_
        obtain ⟨g_20, h⟩ := lf_gE h
        refine va_zald hx hb hK hP 21 20 rfl rfl g_20 d_Mo_isRoomy_192 ?_
        refine lv_if_eq (tgt := 200) hx hb d_Mo_isRoomy_193 (by decide) (fun c_21 => ?_) (fun c_21 => ?_)
        · have h := lf_t h c_21
          refine lv_iconst (v := 0) hx hb d_Mo_isRoomy_200 (by decide) ?_
          exact hB_201 _ hr_174 y_1 y_2 S.v_fixedBlocks 0 S _ _ _ h hP hD hS (lv_sub hl [0, 1, 2] rfl)
        · have h := lf_f h c_21
          refine lv_iconst (v := 1) hx hb d_Mo_isRoomy_196 (by decide) ?_
          refine lv_goto (tgt := 201) hx hb d_Mo_isRoomy_197 (by decide) ?_
          exact hB_201 _ hr_174 y_1 y_2 S.v_fixedBlocks 1 S _ _ _ h hP hD hS (lv_sub hl [0, 1, 2] rfl)
  have hB_94 : ∀ (k : Nat), ∀ (y_1 : Int32) (y_2 : Int32) (S : MS) (H : Heap) (locs : List Loc) (ls : Array Slot), f_Mo_isRoomy_94 K k y_1 y_2 S = some (r, S') → va_P (dC, dI) classes (wM M S) H → va_D A (wM M S) → va_S A s.heap H locs → lv_has ls 4 [(0, .ref M.o), (1, .int y_1), (2, .int y_2)] → W p l e ({ frames := 1, cells := 0, slots := 0, locals := 21 }) s m ([.ref M.o] : List Value).toArray below meth c H locs 0 0 Q (F0 m 94 ls []) := by
    intro k
    induction k with
    | zero => intro y_1 y_2 S H locs ls h; exact lf_no h
    | succ k hr_94 =>
      intro y_1 y_2 S H locs ls h hP hD hS hl
      rw [f_Mo_isRoomy_94] at h
      refine lv_iload_n hx hb d_Mo_isRoomy_94 rfl (lv_at hl 2 rfl) ?_
      refine lv_aload_n hx hb d_Mo_isRoomy_95 rfl (lv_at hl 0 rfl) ?_
      refine va_get (D := (dC, dI)) (ci := 12) (v := .int S.v_groups) (C := R_Mo) (T := F_Mo) (N := 66) hx hb hts (fun w h => u_Mq_Mo w (i_Mo w h)) hown hK hP 0 rfl rfl 46 (by decide) (hts _ (u_Mq_Mo _ k_Mo_53)) (fun _ h9 => h9) rfl d_Mo_isRoomy_96 ?_
      refine lv_icmp_ge (tgt := 167) hx hb d_Mo_isRoomy_99 (by decide) (fun c_11 => ?_) (fun c_11 => ?_)
      · have h := lf_t h c_11
        refine lv_aload_n hx hb d_Mo_isRoomy_167 rfl (lv_at hl 0 rfl) ?_
        refine lv_iconst (v := 0) hx hb d_Mo_isRoomy_168 (by decide) ?_
        refine va_put (D := (dC, dI)) (ci := 12) (v := .int 0) (ty := .int) (C := R_Mo) (T := F_Mo) (N := 66) hx hb hts (fun w h => u_Mq_Mo w (i_Mo w h)) t_Mo t_Mo_ok n_Mo hown hK hP hD hS 0 rfl rfl 56 (by decide) (hts _ (u_Mq_Mo _ k_Mo_63)) (fun _ h9 => h9) rfl (by decide +kernel) rfl rfl (Nat.le_of_ble_eq_true rfl) d_Mo_isRoomy_169 (fun H locs hP hD hS => ?_)
        obtain ⟨S_12, eS_12, h⟩ := lf_lX h
        have hP := lx_newP eS_12 hP
        have hD := lx_newD eS_12 hD
        refine lv_iconst (v := 0) hx hb d_Mo_isRoomy_172 (by decide) ?_
        refine lv_istore_n (lv' := [(2, .int 0), (0, .ref M.o), (1, .int y_1)]) hx hb d_Mo_isRoomy_173 rfl hl (by decide) rfl (fun ls hl => ?_)
        exact hB_174 K y_1 0 S_12 _ _ _ h hP hD hS (lv_sub hl [1, 2, 0] rfl)
      · have h := lf_f h c_11
        refine lv_aload_n hx hb d_Mo_isRoomy_102 rfl (lv_at hl 0 rfl) ?_
        refine va_get (D := (dC, dI)) (ci := 12) (v := .ref M.a_fixed) (C := R_Mo) (T := F_Mo) (N := 66) hx hb hts (fun w h => u_Mq_Mo w (i_Mo w h)) hown hK hP 0 rfl rfl 51 (by decide) (hts _ (u_Mq_Mo _ k_Mo_58)) (fun _ h9 => h9) rfl d_Mo_isRoomy_103 ?_
        refine lv_iconst (v := 1) hx hb d_Mo_isRoomy_106 (by decide) ?_
        refine lv_iload_n hx hb d_Mo_isRoomy_107 rfl (lv_at hl 2 rfl) ?_
        refine lv_aload_n hx hb d_Mo_isRoomy_108 rfl (lv_at hl 0 rfl) ?_
        refine va_get (D := (dC, dI)) (ci := 12) (v := .int S.v_per) (C := R_Mo) (T := F_Mo) (N := 66) hx hb hts (fun w h => u_Mq_Mo w (i_Mo w h)) hown hK hP 0 rfl rfl 47 (by decide) (hts _ (u_Mq_Mo _ k_Mo_54)) (fun _ h9 => h9) rfl d_Mo_isRoomy_109 ?_
        refine lv_imul hx hb d_Mo_isRoomy_112 ?_
        refine lv_iadd hx hb d_Mo_isRoomy_113 ?_
        refine lv_iconst (v := 1) hx hb d_Mo_isRoomy_114 (by decide) ?_
        obtain ⟨g_13, h⟩ := lf_gE h
        refine va_zast hx hb hK hP hD hS 21 20 rfl rfl g_13 d_Mo_isRoomy_115 (fun H locs hP hD hS => ?_)
        obtain ⟨S_14, eS_14, h⟩ := lf_lX h
        have hP := lx_newP eS_14 hP
        have hD := lx_newD eS_14 hD
        refine lv_aload_n hx hb d_Mo_isRoomy_116 rfl (lv_at hl 0 rfl) ?_
        refine va_get (D := (dC, dI)) (ci := 12) (v := .ref M.a_fixed) (C := R_Mo) (T := F_Mo) (N := 66) hx hb hts (fun w h => u_Mq_Mo w (i_Mo w h)) hown hK hP 0 rfl rfl 51 (by decide) (hts _ (u_Mq_Mo _ k_Mo_58)) (fun _ h9 => h9) rfl d_Mo_isRoomy_117 ?_
        refine lv_iconst (v := 2) hx hb d_Mo_isRoomy_120 (by decide) ?_
        refine lv_iload_n hx hb d_Mo_isRoomy_121 rfl (lv_at hl 2 rfl) ?_
        refine lv_aload_n hx hb d_Mo_isRoomy_122 rfl (lv_at hl 0 rfl) ?_
        refine va_get (D := (dC, dI)) (ci := 12) (v := .int S_14.v_per) (C := R_Mo) (T := F_Mo) (N := 66) hx hb hts (fun w h => u_Mq_Mo w (i_Mo w h)) hown hK hP 0 rfl rfl 47 (by decide) (hts _ (u_Mq_Mo _ k_Mo_54)) (fun _ h9 => h9) rfl d_Mo_isRoomy_123 ?_
        refine lv_imul hx hb d_Mo_isRoomy_126 ?_
        refine lv_iadd hx hb d_Mo_isRoomy_127 ?_
        refine lv_iconst (v := 1) hx hb d_Mo_isRoomy_128 (by decide) ?_
        obtain ⟨g_15, h⟩ := lf_gE h
        refine va_zast hx hb hK hP hD hS 21 20 rfl rfl g_15 d_Mo_isRoomy_129 (fun H locs hP hD hS => ?_)
        obtain ⟨S_16, eS_16, h⟩ := lf_lX h
        have hP := lx_newP eS_16 hP
        have hD := lx_newD eS_16 hD
        refine lv_iconst (v := 0) hx hb d_Mo_isRoomy_130 (by decide) ?_
        refine lv_istore_n (lv' := [(3, .int 0), (0, .ref M.o), (1, .int y_1), (2, .int y_2)]) hx hb d_Mo_isRoomy_131 rfl hl (by decide) rfl (fun ls hl => ?_)
        exact hB_132 _ hr_94 K y_1 y_2 0 S_16 _ _ _ h hP hD hS (lv_sub hl [1, 2, 3, 0] rfl)
  have hB_72 : ∀ (k : Nat), ∀ (y_1 : Int32) (y_2 : Int32) (S : MS) (H : Heap) (locs : List Loc) (ls : Array Slot), f_Mo_isRoomy_72 K k y_1 y_2 S = some (r, S') → va_P (dC, dI) classes (wM M S) H → va_D A (wM M S) → va_S A s.heap H locs → lv_has ls 4 [(0, .ref M.o), (1, .int y_1), (2, .int y_2)] → W p l e ({ frames := 1, cells := 0, slots := 0, locals := 21 }) s m ([.ref M.o] : List Value).toArray below meth c H locs 0 0 Q (F0 m 72 ls []) := by
    intro k
    induction k with
    | zero => intro y_1 y_2 S H locs ls h; exact lf_no h
    | succ k hr_72 =>
      intro y_1 y_2 S H locs ls h hP hD hS hl
      rw [f_Mo_isRoomy_72] at h
      refine lv_iload_n hx hb d_Mo_isRoomy_72 rfl (lv_at hl 2 rfl) ?_
      refine lv_sipush (v := 512) hx hb d_Mo_isRoomy_73 (by decide) ?_
      refine lv_icmp_ge (tgt := 92) hx hb d_Mo_isRoomy_76 (by decide) (fun c_6 => ?_) (fun c_6 => ?_)
      · have h := lf_t h c_6
        refine lv_iconst (v := 0) hx hb d_Mo_isRoomy_92 (by decide) ?_
        refine lv_istore_n (lv' := [(2, .int 0), (0, .ref M.o), (1, .int y_1)]) hx hb d_Mo_isRoomy_93 rfl hl (by decide) rfl (fun ls hl => ?_)
        exact hB_94 K y_1 0 S _ _ _ h hP hD hS (lv_sub hl [1, 2, 0] rfl)
      · have h := lf_f h c_6
        refine lv_aload_n hx hb d_Mo_isRoomy_79 rfl (lv_at hl 0 rfl) ?_
        refine va_get (D := (dC, dI)) (ci := 12) (v := .ref M.a_fixed) (C := R_Mo) (T := F_Mo) (N := 66) hx hb hts (fun w h => u_Mq_Mo w (i_Mo w h)) hown hK hP 0 rfl rfl 51 (by decide) (hts _ (u_Mq_Mo _ k_Mo_58)) (fun _ h9 => h9) rfl d_Mo_isRoomy_80 ?_
        refine lv_iload_n hx hb d_Mo_isRoomy_83 rfl (lv_at hl 2 rfl) ?_
        refine lv_iconst (v := 0) hx hb d_Mo_isRoomy_84 (by decide) ?_
        obtain ⟨g_7, h⟩ := lf_gE h
        refine va_zast hx hb hK hP hD hS 21 20 rfl rfl g_7 d_Mo_isRoomy_85 (fun H locs hP hD hS => ?_)
        obtain ⟨S_8, eS_8, h⟩ := lf_lX h
        have hP := lx_newP eS_8 hP
        have hD := lx_newD eS_8 hD
        obtain ⟨x_9, ex_9, h⟩ := lf_lX h
        refine lv_iinc (v := x_9) (lv' := [(2, .int x_9), (0, .ref M.o), (1, .int y_1)]) hx hb d_Mo_isRoomy_86 hl (k := 2) rfl (by rw [ex_9]; rfl) (by decide) rfl (fun ls hl => ?_)
        refine lv_goto (tgt := 72) hx hb d_Mo_isRoomy_89 (by decide) ?_
        exact hr_72 y_1 x_9 S_8 _ _ _ h hP hD hS (lv_sub hl [1, 2, 0] rfl)
  have hB_4 : ∀ (k : Nat), ∀ (y_1 : Int32) (y_2 : Int32) (S : MS) (H : Heap) (locs : List Loc) (ls : Array Slot), f_Mo_isRoomy_4 K k y_1 y_2 S = some (r, S') → va_P (dC, dI) classes (wM M S) H → va_D A (wM M S) → va_S A s.heap H locs → lv_has ls 4 [(0, .ref M.o), (1, .int y_1), (2, .int y_2)] → W p l e ({ frames := 1, cells := 0, slots := 0, locals := 21 }) s m ([.ref M.o] : List Value).toArray below meth c H locs 0 0 Q (F0 m 4 ls []) := by
    intro k
    induction k with
    | zero => intro y_1 y_2 S H locs ls h; exact lf_no h
    | succ k hr_4 =>
      intro y_1 y_2 S H locs ls h hP hD hS hl
      rw [f_Mo_isRoomy_4] at h
      refine lv_iload_n hx hb d_Mo_isRoomy_4 rfl (lv_at hl 2 rfl) ?_
      refine lv_aload_n hx hb d_Mo_isRoomy_5 rfl (lv_at hl 0 rfl) ?_
      refine va_get (D := (dC, dI)) (ci := 12) (v := .int S.v_groups) (C := R_Mo) (T := F_Mo) (N := 66) hx hb hts (fun w h => u_Mq_Mo w (i_Mo w h)) hown hK hP 0 rfl rfl 46 (by decide) (hts _ (u_Mq_Mo _ k_Mo_53)) (fun _ h9 => h9) rfl d_Mo_isRoomy_6 ?_
      refine lv_icmp_ge (tgt := 64) hx hb d_Mo_isRoomy_9 (by decide) (fun c_1 => ?_) (fun c_1 => ?_)
      · have h := lf_t h c_1
        refine lv_iload_n hx hb d_Mo_isRoomy_64 rfl (lv_at hl 1 rfl) ?_
        refine lv_if_ne (tgt := 70) hx hb d_Mo_isRoomy_65 (by decide) (fun c_2 => ?_) (fun c_2 => ?_)
        · have h := lf_f h c_2
          refine lv_iconst (v := 0) hx hb d_Mo_isRoomy_70 (by decide) ?_
          refine lv_istore_n (lv' := [(2, .int 0), (0, .ref M.o), (1, .int y_1)]) hx hb d_Mo_isRoomy_71 rfl hl (by decide) rfl (fun ls hl => ?_)
          exact hB_72 K y_1 0 S _ _ _ h hP hD hS (lv_sub hl [1, 2, 0] rfl)
        · have h := lf_t h c_2
          refine lv_iconst (v := 0) hx hb d_Mo_isRoomy_68 (by decide) ?_
          rw [hQ]
          have e1 : (0 : Int32) = r := congrArg Prod.fst (Option.some.inj h)
          have e2 : S = S' := congrArg Prod.snd (Option.some.inj h)
          have hP := lx_newP e2.symm hP
          have hD := lx_newD e2.symm hD
          exact W.zret (v := 0) hx hb hr rfl (fun t ht hW => ⟨⟨0, (), rfl, e1, by rw [ht]; exact hP, va_K.moved hW.alike hK, hD⟩, hS.F ht⟩) hS.2.2 d_Mo_isRoomy_69
      · have h := lf_f h c_1
        refine lv_iload_n hx hb d_Mo_isRoomy_12 rfl (lv_at hl 1 rfl) ?_
        refine lv_if_eq (tgt := 56) hx hb d_Mo_isRoomy_13 (by decide) (fun c_3 => ?_) (fun c_3 => ?_)
        · have h := lf_t h c_3
          exact hB_56 _ hr_4 y_2 S _ _ _ h hP hD hS (lv_sub hl [0, 2] rfl)
        · have h := lf_f h c_3
          refine lv_aload_n hx hb d_Mo_isRoomy_16 rfl (lv_at hl 0 rfl) ?_
          refine lv_iload_n hx hb d_Mo_isRoomy_17 rfl (lv_at hl 2 rfl) ?_
          obtain ⟨r_4, S_4, hc_4, h⟩ := lf_cE h
          have hFc := lx_free hD hS hA
          refine va_calli (va_runV (As := [.int y_2]) (rest := []) ⟨hx, hb, hml, hown, hts⟩ (l_Mo_groupSize l dC dI X _ hc_4) (cwV 1 hts (gwV good_Mq (u_Mq_Mo _ k_Mo_373) (u_Mq_Mo _ k_Mo_374) (u_Mq_Mo _ k_Mo_529) (u_Mq_Mo _ k_Mo_0) (wcs (u_Mq_Mo _ k_Mo_375) (fun _ h => h))) rfl rfl rfl (by decide +kernel) ⟨Nat.le_of_ble_eq_true rfl, Nat.le_of_ble_eq_true rfl⟩) (pv_ofE (X.same _) (fun U z1 z2 => X.mono _ _ U hFc (hEw _ _ hS U z1 z2)) hP hK hD (va_recv hK hP (ci := 12) (q0 := 0) rfl rfl)) rfl rfl hl.1 rfl (lv_room (Nat.le_of_ble_eq_true rfl)) d_Mo_isRoomy_18 ⟨by decide, by decide⟩) hS (fun q _ h => hFc q h) hFc (fun r_ u t H locs ht hvm hw hB hz1 hk1 hS => ?_)
          rw [hw]
          obtain ⟨hP, -, hD⟩ := hB
          rw [ht] at hP
          have hD := lx_dj hD hFc
          refine lv_iload_n hx hb d_Mo_isRoomy_21 rfl (lv_at hl 2 rfl) ?_
          refine lv_if_ne (tgt := 42) hx hb d_Mo_isRoomy_22 (by decide) (fun c_5 => ?_) (fun c_5 => ?_)
          · have h := lf_f h c_5
            refine lv_aload_n hx hb d_Mo_isRoomy_42 rfl (lv_at hl 0 rfl) ?_
            refine va_get (D := (dC, dI)) (ci := 12) (v := .int S_4.v_rows) (C := R_Mo) (T := F_Mo) (N := 66) hx hb hts (fun w h => u_Mq_Mo w (i_Mo w h)) hown hK hP 0 rfl rfl 49 (by decide) (hts _ (u_Mq_Mo _ k_Mo_56)) (fun _ h9 => h9) rfl d_Mo_isRoomy_43 ?_
            refine lv_bipush (v := 12) hx hb d_Mo_isRoomy_46 (by decide) ?_
            refine lv_iadd hx hb d_Mo_isRoomy_48 ?_
            exact hB_49 _ hr_4 y_2 r_4 (S_4.v_rows + 12) S_4 _ _ _ h hP hD hS (lv_sub hl [0, 2] rfl)
          · have h := lf_t h c_5
            refine lv_aload_n hx hb d_Mo_isRoomy_25 rfl (lv_at hl 0 rfl) ?_
            refine va_get (D := (dC, dI)) (ci := 12) (v := .int S_4.v_a) (C := R_Mo) (T := F_Mo) (N := 66) hx hb hts (fun w h => u_Mq_Mo w (i_Mo w h)) hown hK hP 0 rfl rfl 16 (by decide) (hts _ (u_Mq_Mo _ k_Mo_23)) (fun _ h9 => h9) rfl d_Mo_isRoomy_26 ?_
            refine lv_iconst (v := 2) hx hb d_Mo_isRoomy_29 (by decide) ?_
            refine lv_idiv hx hb d_Mo_isRoomy_30 (by decide) ?_
            refine lv_aload_n hx hb d_Mo_isRoomy_31 rfl (lv_at hl 0 rfl) ?_
            refine va_get (D := (dC, dI)) (ci := 12) (v := .int S_4.v_rows) (C := R_Mo) (T := F_Mo) (N := 66) hx hb hts (fun w h => u_Mq_Mo w (i_Mo w h)) hown hK hP 0 rfl rfl 49 (by decide) (hts _ (u_Mq_Mo _ k_Mo_56)) (fun _ h9 => h9) rfl d_Mo_isRoomy_32 ?_
            refine lv_iadd hx hb d_Mo_isRoomy_35 ?_
            refine lv_bipush (v := 9) hx hb d_Mo_isRoomy_36 (by decide) ?_
            refine lv_iadd hx hb d_Mo_isRoomy_38 ?_
            refine lv_goto (tgt := 49) hx hb d_Mo_isRoomy_39 (by decide) ?_
            exact hB_49 _ hr_4 y_2 r_4 (((S_4.v_a / 2) + S_4.v_rows) + 9) S_4 _ _ _ h hP hD hS (lv_sub hl [0, 2] rfl)
  rw [f_Mo_isRoomy] at h
  refine lv_iconst (v := 1) hx hb d_Mo_isRoomy_0 (by decide) ?_
  refine lv_istore_n (lv' := [(1, .int 1), (0, .ref M.o)]) hx hb d_Mo_isRoomy_1 rfl hl (by decide) rfl (fun ls hl => ?_)
  refine lv_iconst (v := 0) hx hb d_Mo_isRoomy_2 (by decide) ?_
  refine lv_istore_n (lv' := [(2, .int 0), (1, .int 1), (0, .ref M.o)]) hx hb d_Mo_isRoomy_3 rfl hl (by decide) rfl (fun ls hl => ?_)
  exact hB_4 K 1 0 S _ _ _ h hP hD hS (lv_sub hl [2, 1, 0] rfl)
