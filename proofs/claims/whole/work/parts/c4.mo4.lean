set_option maxHeartbeats 4000000 in
set_option maxRecDepth 100000 in
theorem l_Mo_enter (l : Launch) (dC : Nat → ClassId) (dI : Nat → Nat → Nat) {K : Nat} {M : MA} {E : (Nat → Prop) → State → Prop} (X : lx_X l dC dI K M E) (sz : Nat) {S S' : MS} {p0 : Int32} {r : Int32} (h : f_Mo_enter K S p0 = some (r, S')) : Met l y_Mo_enter (.code y_Mo_enter b_Mo_enter 2 (some .int) :: V_Mq) ({ frames := 14, cells := 0, slots := 0, locals := 380 }) (va_Pc [.ref M.o, .int p0] (fun U => U.heap.size = sz ∧ at_ (dC, dI) (fun _ => True) (wM M S) (tM M) U ∧ E (va_A (wM M S) sz) U)) (va_Qi (fun (r_ : Int32) (u : Unit) => r_ = r) (fun (u : Unit) t => at_ (dC, dI) (va_A (wM M S) sz) (wM M S') (tM M) t) (va_A (wM M S) sz)) 0 0 (va_A (wM M S) sz) := by
  refine Met.ofW (cc := b_Mo_enter) (maxL := 2) (ret := (some .int)) (by decide) rfl ?_
  intro p e s m args below meth c s₁ B hml hv
  obtain ⟨rfl, hsz, ⟨hP, hK, hD0⟩, hE⟩ := hv
  have hx := B.exec
  have hb := B.bytes
  have hr := B.returns
  have hts0 := atoms_spec (ws := .code y_Mo_enter b_Mo_enter 2 (some .int) :: V_Mq) B.pre
  have hts : ∀ w ∈ V_Mq, w.before ([.ref M.o, .int p0] : List Value).toArray s = true := fun w h => hts0 w (List.mem_cons_of_mem _ h)
  have hown : s.vm.findClass R_Mo = some m.cls := findClass_of_methodNamed B.named
  subst hsz
  have hD := hD0.self (sz := s.heap.size)
  generalize hAe : va_A (wM M S) s.heap.size = A at hD hE ⊢
  have hA : ∀ q : Nat, s.heap.size ≤ q → A q := fun q h => by rw [← hAe]; exact Or.inr h
  have hS : va_S A s.heap s.heap [] := va_S.rf
  have hP : va_P (dC, dI) classes (wM M S) s.heap := hP
  have hK : va_K (dC, dI) classes (tM M) s := hK
  have hEw : ∀ (H : Heap) (locs : List Loc), va_S A s.heap H locs → ∀ U : State, U.heap = H → s.WarmedH U.vm → E A U := fun H locs hS U hU hW => X.kept A s U H locs hE hS hU hW
  have hl := lv_entry ([.ref M.o, .int p0]) (n := 2) (Nat.le_of_ble_eq_true rfl)
  rw [lg_entry_eq]
  generalize (lg_sl ([.ref M.o, .int p0]) ++ List.replicate (2 - (lg_sl ([.ref M.o, .int p0])).length) Slot.unset).toArray = ls at hl ⊢
  have hl : lv_has ls 2 [(0, .ref M.o), (1, .int p0)] := hl
  refine qabs (fun Q hQ => ?_)
  have hB_42 : ∀ (S : MS) (H : Heap) (locs : List Loc) (ls : Array Slot), f_Mo_enter_42 K S = some (r, S') → va_P (dC, dI) classes (wM M S) H → va_D A (wM M S) → va_S A s.heap H locs → lv_has ls 2 [] → W p l e ({ frames := 14, cells := 0, slots := 0, locals := 380 }) s m ([.ref M.o, .int p0] : List Value).toArray below meth c H locs 0 0 Q (F0 m 42 ls []) := by
    intro S H locs ls h hP hD hS hl
    rw [f_Mo_enter_42] at h
    refine lv_iconst (v := 0) hx hb d_Mo_enter_42 (by decide) ?_
    rw [hQ]
    have e1 : (0 : Int32) = r := congrArg Prod.fst (Option.some.inj h)
    have e2 : S = S' := congrArg Prod.snd (Option.some.inj h)
    have hP := lx_newP e2.symm hP
    have hD := lx_newD e2.symm hD
    exact W.iret (v := 0) hx hb hr (fun t ht hW => ⟨⟨0, (), rfl, e1, by rw [ht]; exact hP, va_K.moved hW.alike hK, hD⟩, hS.F ht⟩) hS.2.2 d_Mo_enter_43
  have hB_35 : ∀ (y_1 : Int32) (z_1 : Int32) (S : MS) (H : Heap) (locs : List Loc) (ls : Array Slot), f_Mo_enter_35 K y_1 z_1 S = some (r, S') → va_P (dC, dI) classes (wM M S) H → va_D A (wM M S) → va_S A s.heap H locs → lv_has ls 2 [(0, .ref M.o), (1, .int y_1)] → W p l e ({ frames := 14, cells := 0, slots := 0, locals := 380 }) s m ([.ref M.o, .int p0] : List Value).toArray below meth c H locs 0 0 Q (F0 m 35 ls [.int z_1, .ref M.o]) := by
    intro y_1 z_1 S H locs ls h hP hD hS hl
    rw [f_Mo_enter_35] at h
    refine lv_iconst (v := 3) hx hb d_Mo_enter_35 (by decide) ?_
    obtain ⟨r_8, S_8, hc_8, h⟩ := lf_cE h
    have hFc := lx_free hD hS hA
    refine va_calli (va_runV (As := [.int z_1, .int 3]) (rest := []) ⟨hx, hb, hml, hown, hts⟩ (l_Mo_fails l dC dI X _ hc_8) (cwV 2 hts (gwV good_Mq (u_Mq_Mo _ k_Mo_217) (u_Mq_Mo _ k_Mo_218) (u_Mq_Mo _ k_Mo_474) (u_Mq_Mo _ k_Mo_0) (wcs (u_Mq_Mo _ k_Mo_219) (fun _ h => h))) rfl rfl rfl (by decide +kernel) ⟨Nat.le_of_ble_eq_true rfl, Nat.le_of_ble_eq_true rfl⟩) (pv_ofE (X.same _) (fun U z1 z2 => X.mono _ _ U hFc (hEw _ _ hS U z1 z2)) hP hK hD (va_recv hK hP (ci := 12) (q0 := 0) rfl rfl)) rfl rfl hl.1 rfl (lv_room (Nat.le_of_ble_eq_true rfl)) d_Mo_enter_36 ⟨by decide, by decide⟩) hS (fun q _ h => hFc q h) hFc (fun r_ u t H locs ht hvm hw hB hz1 hk1 hS => ?_)
    rw [hw]
    obtain ⟨hP, -, hD⟩ := hB
    rw [ht] at hP
    have hD := lx_dj hD hFc
    refine lv_if_eq (tgt := 44) hx hb d_Mo_enter_39 (by decide) (fun c_9 => ?_) (fun c_9 => ?_)
    · have h := lf_t h c_9
      refine lv_aload_n hx hb d_Mo_enter_44 rfl (lv_at hl 0 rfl) ?_
      refine lv_aload_n hx hb d_Mo_enter_45 rfl (lv_at hl 0 rfl) ?_
      refine lv_aload_n hx hb d_Mo_enter_46 rfl (lv_at hl 0 rfl) ?_
      refine lv_iload_n hx hb d_Mo_enter_47 rfl (lv_at hl 1 rfl) ?_
      obtain ⟨r_10, S_10, hc_10, h⟩ := lf_cE h
      have hFc := lx_free hD hS hA
      refine va_calli (va_runV (As := [.int y_1]) (rest := [.ref M.o, .ref M.o]) ⟨hx, hb, hml, hown, hts⟩ (l_Mo_item l dC dI X _ hc_10) (cwV 1 hts (gwV good_Mq (u_Mq_Mo _ k_Mo_255) (u_Mq_Mo _ k_Mo_256) (u_Mq_Mo _ k_Mo_511) (u_Mq_Mo _ k_Mo_0) (wcs (u_Mq_Mo _ k_Mo_257) (fun _ h => h))) rfl rfl rfl (by decide +kernel) ⟨Nat.le_of_ble_eq_true rfl, Nat.le_of_ble_eq_true rfl⟩) (pv_ofE (X.same _) (fun U z1 z2 => X.mono _ _ U hFc (hEw _ _ hS U z1 z2)) hP hK hD (va_recv hK hP (ci := 12) (q0 := 0) rfl rfl)) rfl rfl hl.1 rfl (lv_room (Nat.le_of_ble_eq_true rfl)) d_Mo_enter_48 ⟨by decide, by decide⟩) hS (fun q _ h => hFc q h) hFc (fun r_ u t H locs ht hvm hw hB hz1 hk1 hS => ?_)
      rw [hw]
      obtain ⟨hP, -, hD⟩ := hB
      rw [ht] at hP
      have hD := lx_dj hD hFc
      obtain ⟨r_11, S_11, hc_11, h⟩ := lf_cE h
      have hFc := lx_free hD hS hA
      refine va_calli (va_runV (As := [.int r_10]) (rest := [.ref M.o]) ⟨hx, hb, hml, hown, hts⟩ (l_Mo_beginOf l dC dI X _ hc_11) (cwV 1 hts (gwV good_Mq (u_Mq_Mo _ k_Mo_124) (u_Mq_Mo _ k_Mo_125) (u_Mq_Mo _ k_Mo_490) (u_Mq_Mo _ k_Mo_0) (wcs (u_Mq_Mo _ k_Mo_126) (fun _ h => h))) rfl rfl rfl (by decide +kernel) ⟨Nat.le_of_ble_eq_true rfl, Nat.le_of_ble_eq_true rfl⟩) (pv_ofE (X.same _) (fun U z1 z2 => X.mono _ _ U hFc (hEw _ _ hS U z1 z2)) hP hK hD (va_recv hK hP (ci := 12) (q0 := 0) rfl rfl)) rfl rfl hl.1 rfl (lv_room (Nat.le_of_ble_eq_true rfl)) d_Mo_enter_51 ⟨by decide, by decide⟩) hS (fun q _ h => hFc q h) hFc (fun r_ u t H locs ht hvm hw hB hz1 hk1 hS => ?_)
      rw [hw]
      obtain ⟨hP, -, hD⟩ := hB
      rw [ht] at hP
      have hD := lx_dj hD hFc
      refine va_put (D := (dC, dI)) (ci := 12) (v := .int r_11) (ty := .int) (C := R_Mo) (T := F_Mo) (N := 66) hx hb hts (fun w h => u_Mq_Mo w (i_Mo w h)) t_Mo t_Mo_ok n_Mo hown hK hP hD hS 0 rfl rfl 18 (by decide) (hts _ (u_Mq_Mo _ k_Mo_25)) (fun _ h9 => h9) rfl (by decide +kernel) rfl rfl (Nat.le_of_ble_eq_true rfl) d_Mo_enter_54 (fun H locs hP hD hS => ?_)
      obtain ⟨S_12, eS_12, h⟩ := lf_lX h
      have hP := lx_newP eS_12 hP
      have hD := lx_newD eS_12 hD
      refine lv_aload_n hx hb d_Mo_enter_57 rfl (lv_at hl 0 rfl) ?_
      obtain ⟨r_13, S_13, hc_13, h⟩ := lf_cE h
      have hFc := lx_free hD hS hA
      refine va_calli (va_runV (As := []) (rest := []) ⟨hx, hb, hml, hown, hts⟩ (l_Mo_many l dC dI X _ hc_13) (cwV 0 hts (gwV good_Mq (u_Mq_Mo _ k_Mo_243) (u_Mq_Mo _ k_Mo_244) (u_Mq_Mo _ k_Mo_509) (u_Mq_Mo _ k_Mo_0) (wcs (u_Mq_Mo _ k_Mo_245) (fun _ h => h))) rfl rfl rfl (by decide +kernel) ⟨Nat.le_of_ble_eq_true rfl, Nat.le_of_ble_eq_true rfl⟩) (pv_ofE (X.same _) (fun U z1 z2 => X.mono _ _ U hFc (hEw _ _ hS U z1 z2)) hP hK hD (va_recv hK hP (ci := 12) (q0 := 0) rfl rfl)) rfl rfl hl.1 rfl (lv_room (Nat.le_of_ble_eq_true rfl)) d_Mo_enter_58 ⟨by decide, by decide⟩) hS (fun q _ h => hFc q h) hFc (fun r_ u t H locs ht hvm hw hB hz1 hk1 hS => ?_)
      rw [hw]
      obtain ⟨hP, -, hD⟩ := hB
      rw [ht] at hP
      have hD := lx_dj hD hFc
      rw [hQ]
      have e1 : r_13 = r := congrArg Prod.fst (Option.some.inj h)
      have e2 : S_13 = S' := congrArg Prod.snd (Option.some.inj h)
      have hP := lx_newP e2.symm hP
      have hD := lx_newD e2.symm hD
      exact W.iret (v := r_13) hx hb hr (fun t ht hW => ⟨⟨r_13, (), rfl, e1, by rw [ht]; exact hP, va_K.moved hW.alike hK, hD⟩, hS.F ht⟩) hS.2.2 d_Mo_enter_61
    · have h := lf_f h c_9
      exact hB_42 S_8 _ _ _ h hP hD hS (lv_sub hl [] rfl)
  have hB_30 : ∀ (y_1 : Int32) (S : MS) (H : Heap) (locs : List Loc) (ls : Array Slot), f_Mo_enter_30 K y_1 S = some (r, S') → va_P (dC, dI) classes (wM M S) H → va_D A (wM M S) → va_S A s.heap H locs → lv_has ls 2 [(0, .ref M.o), (1, .int y_1)] → W p l e ({ frames := 14, cells := 0, slots := 0, locals := 380 }) s m ([.ref M.o, .int p0] : List Value).toArray below meth c H locs 0 0 Q (F0 m 30 ls [.ref M.o]) := by
    intro y_1 S H locs ls h hP hD hS hl
    rw [f_Mo_enter_30] at h
    refine lv_iconst (v := 1) hx hb d_Mo_enter_30 (by decide) ?_
    refine lv_goto (tgt := 35) hx hb d_Mo_enter_31 (by decide) ?_
    exact hB_35 y_1 1 S _ _ _ h hP hD hS (lv_sub hl [0, 1] rfl)
  rw [f_Mo_enter] at h
  refine lv_aload_n hx hb d_Mo_enter_0 rfl (lv_at hl 0 rfl) ?_
  refine lv_iload_n hx hb d_Mo_enter_1 rfl (lv_at hl 1 rfl) ?_
  obtain ⟨r_1, S_1, hc_1, h⟩ := lf_cE h
  have hFc := lx_free hD hS hA
  refine va_calli (va_runV (As := [.int p0]) (rest := []) ⟨hx, hb, hml, hown, hts⟩ (l_Mo_no l dC dI X _ hc_1) (cwV 1 hts (gwV good_Mq (u_Mq_Mo _ k_Mo_252) (u_Mq_Mo _ k_Mo_253) (u_Mq_Mo _ k_Mo_510) (u_Mq_Mo _ k_Mo_0) (wcs (u_Mq_Mo _ k_Mo_254) (fun _ h => h))) rfl rfl rfl (by decide +kernel) ⟨Nat.le_of_ble_eq_true rfl, Nat.le_of_ble_eq_true rfl⟩) (pv_ofE (X.same _) (fun U z1 z2 => X.mono _ _ U hFc (hEw _ _ hS U z1 z2)) hP hK hD (va_recv hK hP (ci := 12) (q0 := 0) rfl rfl)) rfl rfl hl.1 rfl (lv_room (Nat.le_of_ble_eq_true rfl)) d_Mo_enter_2 ⟨by decide, by decide⟩) hS (fun q _ h => hFc q h) hFc (fun r_ u t H locs ht hvm hw hB hz1 hk1 hS => ?_)
  rw [hw]
  obtain ⟨hP, -, hD⟩ := hB
  rw [ht] at hP
  have hD := lx_dj hD hFc
  refine lv_if_ne (tgt := 42) hx hb d_Mo_enter_5 (by decide) (fun c_2 => ?_) (fun c_2 => ?_)
  · have h := lf_f h c_2
    exact hB_42 S_1 _ _ _ h hP hD hS (lv_sub hl [] rfl)
  · have h := lf_t h c_2
    refine lv_aload_n hx hb d_Mo_enter_8 rfl (lv_at hl 0 rfl) ?_
    refine lv_aload_n hx hb d_Mo_enter_9 rfl (lv_at hl 0 rfl) ?_
    refine lv_iload_n hx hb d_Mo_enter_10 rfl (lv_at hl 1 rfl) ?_
    obtain ⟨r_3, S_3, hc_3, h⟩ := lf_cE h
    have hFc := lx_free hD hS hA
    refine va_calli (va_runV (As := [.int p0]) (rest := [.ref M.o]) ⟨hx, hb, hml, hown, hts⟩ (l_Mo_item l dC dI X _ hc_3) (cwV 1 hts (gwV good_Mq (u_Mq_Mo _ k_Mo_255) (u_Mq_Mo _ k_Mo_256) (u_Mq_Mo _ k_Mo_511) (u_Mq_Mo _ k_Mo_0) (wcs (u_Mq_Mo _ k_Mo_257) (fun _ h => h))) rfl rfl rfl (by decide +kernel) ⟨Nat.le_of_ble_eq_true rfl, Nat.le_of_ble_eq_true rfl⟩) (pv_ofE (X.same _) (fun U z1 z2 => X.mono _ _ U hFc (hEw _ _ hS U z1 z2)) hP hK hD (va_recv hK hP (ci := 12) (q0 := 0) rfl rfl)) rfl rfl hl.1 rfl (lv_room (Nat.le_of_ble_eq_true rfl)) d_Mo_enter_11 ⟨by decide, by decide⟩) hS (fun q _ h => hFc q h) hFc (fun r_ u t H locs ht hvm hw hB hz1 hk1 hS => ?_)
    rw [hw]
    obtain ⟨hP, -, hD⟩ := hB
    rw [ht] at hP
    have hD := lx_dj hD hFc
    refine lv_iconst (v := (-1)) hx hb d_Mo_enter_14 (by decide) ?_
    refine lv_icmp_eq (tgt := 30) hx hb d_Mo_enter_15 (by decide) (fun c_4 => ?_) (fun c_4 => ?_)
    · have h := lf_t h c_4
      exact hB_30 p0 S_3 _ _ _ h hP hD hS (lv_sub hl [0, 1] rfl)
    · have h := lf_f h c_4
      refine lv_aload_n hx hb d_Mo_enter_18 rfl (lv_at hl 0 rfl) ?_
      refine lv_aload_n hx hb d_Mo_enter_19 rfl (lv_at hl 0 rfl) ?_
      refine lv_iload_n hx hb d_Mo_enter_20 rfl (lv_at hl 1 rfl) ?_
      obtain ⟨r_5, S_5, hc_5, h⟩ := lf_cE h
      have hFc := lx_free hD hS hA
      refine va_calli (va_runV (As := [.int p0]) (rest := [.ref M.o, .ref M.o]) ⟨hx, hb, hml, hown, hts⟩ (l_Mo_item l dC dI X _ hc_5) (cwV 1 hts (gwV good_Mq (u_Mq_Mo _ k_Mo_255) (u_Mq_Mo _ k_Mo_256) (u_Mq_Mo _ k_Mo_511) (u_Mq_Mo _ k_Mo_0) (wcs (u_Mq_Mo _ k_Mo_257) (fun _ h => h))) rfl rfl rfl (by decide +kernel) ⟨Nat.le_of_ble_eq_true rfl, Nat.le_of_ble_eq_true rfl⟩) (pv_ofE (X.same _) (fun U z1 z2 => X.mono _ _ U hFc (hEw _ _ hS U z1 z2)) hP hK hD (va_recv hK hP (ci := 12) (q0 := 0) rfl rfl)) rfl rfl hl.1 rfl (lv_room (Nat.le_of_ble_eq_true rfl)) d_Mo_enter_21 ⟨by decide, by decide⟩) hS (fun q _ h => hFc q h) hFc (fun r_ u t H locs ht hvm hw hB hz1 hk1 hS => ?_)
      rw [hw]
      obtain ⟨hP, -, hD⟩ := hB
      rw [ht] at hP
      have hD := lx_dj hD hFc
      obtain ⟨r_6, S_6, hc_6, h⟩ := lf_cE h
      have hFc := lx_free hD hS hA
      refine va_calli (va_runV (As := [.int r_5]) (rest := [.ref M.o]) ⟨hx, hb, hml, hown, hts⟩ (l_Mo_isFolder l dC dI X _ hc_6) (cwV 1 hts (gwV good_Mq (u_Mq_Mo _ k_Mo_118) (u_Mq_Mo _ k_Mo_119) (u_Mq_Mo _ k_Mo_489) (u_Mq_Mo _ k_Mo_0) (wcs (u_Mq_Mo _ k_Mo_120) (fun _ h => h))) rfl rfl rfl (by decide +kernel) ⟨Nat.le_of_ble_eq_true rfl, Nat.le_of_ble_eq_true rfl⟩) (pv_ofE (X.same _) (fun U z1 z2 => X.mono _ _ U hFc (hEw _ _ hS U z1 z2)) hP hK hD (va_recv hK hP (ci := 12) (q0 := 0) rfl rfl)) rfl rfl hl.1 rfl (lv_room (Nat.le_of_ble_eq_true rfl)) d_Mo_enter_24 ⟨by decide, by decide⟩) hS (fun q _ h => hFc q h) hFc (fun r_ u t H locs ht hvm hw hB hz1 hk1 hS => ?_)
      rw [hw]
      obtain ⟨hP, -, hD⟩ := hB
      rw [ht] at hP
      have hD := lx_dj hD hFc
      refine lv_if_ne (tgt := 34) hx hb d_Mo_enter_27 (by decide) (fun c_7 => ?_) (fun c_7 => ?_)
      · have h := lf_f h c_7
        refine lv_iconst (v := 0) hx hb d_Mo_enter_34 (by decide) ?_
        exact hB_35 p0 0 S_6 _ _ _ h hP hD hS (lv_sub hl [0, 1] rfl)
      · have h := lf_t h c_7
        exact hB_30 p0 S_6 _ _ _ h hP hD hS (lv_sub hl [0, 1] rfl)
set_option maxHeartbeats 4000000 in
set_option maxRecDepth 100000 in
theorem l_Mo_up (l : Launch) (dC : Nat → ClassId) (dI : Nat → Nat → Nat) {K : Nat} {M : MA} {E : (Nat → Prop) → State → Prop} (X : lx_X l dC dI K M E) (sz : Nat) {S S' : MS} {r : Int32} (h : f_Mo_up K S = some (r, S')) : Met l y_Mo_up (.code y_Mo_up b_Mo_up 2 (some .boolean) :: V_Mq) ({ frames := 13, cells := 0, slots := 0, locals := 359 }) (va_Pc [.ref M.o] (fun U => U.heap.size = sz ∧ at_ (dC, dI) (fun _ => True) (wM M S) (tM M) U ∧ E (va_A (wM M S) sz) U)) (va_Qi (fun (r_ : Int32) (u : Unit) => r_ = r) (fun (u : Unit) t => at_ (dC, dI) (va_A (wM M S) sz) (wM M S') (tM M) t) (va_A (wM M S) sz)) 0 0 (va_A (wM M S) sz) := by
  refine Met.ofW (cc := b_Mo_up) (maxL := 2) (ret := (some .boolean)) (by decide) rfl ?_
  intro p e s m args below meth c s₁ B hml hv
  obtain ⟨rfl, hsz, ⟨hP, hK, hD0⟩, hE⟩ := hv
  have hx := B.exec
  have hb := B.bytes
  have hr := B.returns
  have hts0 := atoms_spec (ws := .code y_Mo_up b_Mo_up 2 (some .boolean) :: V_Mq) B.pre
  have hts : ∀ w ∈ V_Mq, w.before ([.ref M.o] : List Value).toArray s = true := fun w h => hts0 w (List.mem_cons_of_mem _ h)
  have hown : s.vm.findClass R_Mo = some m.cls := findClass_of_methodNamed B.named
  subst hsz
  have hD := hD0.self (sz := s.heap.size)
  generalize hAe : va_A (wM M S) s.heap.size = A at hD hE ⊢
  have hA : ∀ q : Nat, s.heap.size ≤ q → A q := fun q h => by rw [← hAe]; exact Or.inr h
  have hS : va_S A s.heap s.heap [] := va_S.rf
  have hP : va_P (dC, dI) classes (wM M S) s.heap := hP
  have hK : va_K (dC, dI) classes (tM M) s := hK
  have hEw : ∀ (H : Heap) (locs : List Loc), va_S A s.heap H locs → ∀ U : State, U.heap = H → s.WarmedH U.vm → E A U := fun H locs hS U hU hW => X.kept A s U H locs hE hS hU hW
  have hl := lv_entry ([.ref M.o]) (n := 2) (Nat.le_of_ble_eq_true rfl)
  rw [lg_entry_eq]
  generalize (lg_sl ([.ref M.o]) ++ List.replicate (2 - (lg_sl ([.ref M.o])).length) Slot.unset).toArray = ls at hl ⊢
  have hl : lv_has ls 2 [(0, .ref M.o)] := hl
  refine qabs (fun Q hQ => ?_)
  have hB_14 : ∀ (S : MS) (H : Heap) (locs : List Loc) (ls : Array Slot), f_Mo_up_14 K S = some (r, S') → va_P (dC, dI) classes (wM M S) H → va_D A (wM M S) → va_S A s.heap H locs → lv_has ls 2 [] → W p l e ({ frames := 13, cells := 0, slots := 0, locals := 359 }) s m ([.ref M.o] : List Value).toArray below meth c H locs 0 0 Q (F0 m 14 ls []) := by
    intro S H locs ls h hP hD hS hl
    rw [f_Mo_up_14] at h
    refine lv_iconst (v := 0) hx hb d_Mo_up_14 (by decide) ?_
    rw [hQ]
    have e1 : (0 : Int32) = r := congrArg Prod.fst (Option.some.inj h)
    have e2 : S = S' := congrArg Prod.snd (Option.some.inj h)
    have hP := lx_newP e2.symm hP
    have hD := lx_newD e2.symm hD
    exact W.zret (v := 0) hx hb hr rfl (fun t ht hW => ⟨⟨0, (), rfl, e1, by rw [ht]; exact hP, va_K.moved hW.alike hK, hD⟩, hS.F ht⟩) hS.2.2 d_Mo_up_15
  have hB_40 : ∀ (z_1 : Int32) (S : MS) (H : Heap) (locs : List Loc) (ls : Array Slot), f_Mo_up_40 K z_1 S = some (r, S') → va_P (dC, dI) classes (wM M S) H → va_D A (wM M S) → va_S A s.heap H locs → lv_has ls 2 [] → W p l e ({ frames := 13, cells := 0, slots := 0, locals := 359 }) s m ([.ref M.o] : List Value).toArray below meth c H locs 0 0 Q (F0 m 40 ls [.int z_1, .ref M.o]) := by
    intro z_1 S H locs ls h hP hD hS hl
    rw [f_Mo_up_40] at h
    refine va_put (D := (dC, dI)) (ci := 12) (v := .int z_1) (ty := .int) (C := R_Mo) (T := F_Mo) (N := 66) hx hb hts (fun w h => u_Mq_Mo w (i_Mo w h)) t_Mo t_Mo_ok n_Mo hown hK hP hD hS 0 rfl rfl 18 (by decide) (hts _ (u_Mq_Mo _ k_Mo_25)) (fun _ h9 => h9) rfl (by decide +kernel) rfl rfl (Nat.le_of_ble_eq_true rfl) d_Mo_up_40 (fun H locs hP hD hS => ?_)
    obtain ⟨S_9, eS_9, h⟩ := lf_lX h
    have hP := lx_newP eS_9 hP
    have hD := lx_newD eS_9 hD
    refine lv_iconst (v := 1) hx hb d_Mo_up_43 (by decide) ?_
    rw [hQ]
    have e1 : (1 : Int32) = r := congrArg Prod.fst (Option.some.inj h)
    have e2 : S_9 = S' := congrArg Prod.snd (Option.some.inj h)
    have hP := lx_newP e2.symm hP
    have hD := lx_newD e2.symm hD
    exact W.zret (v := 1) hx hb hr rfl (fun t ht hW => ⟨⟨1, (), rfl, e1, by rw [ht]; exact hP, va_K.moved hW.alike hK, hD⟩, hS.F ht⟩) hS.2.2 d_Mo_up_44
  rw [f_Mo_up] at h
  refine lv_aload_n hx hb d_Mo_up_0 rfl (lv_at hl 0 rfl) ?_
  obtain ⟨r_1, S_1, hc_1, h⟩ := lf_cE h
  have hFc := lx_free hD hS hA
  refine va_calli (va_runV (As := []) (rest := []) ⟨hx, hb, hml, hown, hts⟩ (l_Mo_none l dC dI X _ hc_1) (cwV 0 hts (gwV good_Mq (u_Mq_Mo _ k_Mo_240) (u_Mq_Mo _ k_Mo_241) (u_Mq_Mo _ k_Mo_507) (u_Mq_Mo _ k_Mo_0) (wcs (u_Mq_Mo _ k_Mo_242) (fun _ h => h))) rfl rfl rfl (by decide +kernel) ⟨Nat.le_of_ble_eq_true rfl, Nat.le_of_ble_eq_true rfl⟩) (pv_ofE (X.same _) (fun U z1 z2 => X.mono _ _ U hFc (hEw _ _ hS U z1 z2)) hP hK hD (va_recv hK hP (ci := 12) (q0 := 0) rfl rfl)) rfl rfl hl.1 rfl (lv_room (Nat.le_of_ble_eq_true rfl)) d_Mo_up_1 ⟨by decide, by decide⟩) hS (fun q _ h => hFc q h) hFc (fun r_ u t H locs ht hvm hw hB hz1 hk1 hS => ?_)
  rw [hw]
  obtain ⟨hP, -, hD⟩ := hB
  rw [ht] at hP
  have hD := lx_dj hD hFc
  refine lv_if_ne (tgt := 14) hx hb d_Mo_up_4 (by decide) (fun c_2 => ?_) (fun c_2 => ?_)
  · have h := lf_f h c_2
    exact hB_14 S_1 _ _ _ h hP hD hS (lv_sub hl [] rfl)
  · have h := lf_t h c_2
    refine lv_aload_n hx hb d_Mo_up_7 rfl (lv_at hl 0 rfl) ?_
    refine va_get (D := (dC, dI)) (ci := 12) (v := .int S_1.v_here) (C := R_Mo) (T := F_Mo) (N := 66) hx hb hts (fun w h => u_Mq_Mo w (i_Mo w h)) hown hK hP 0 rfl rfl 18 (by decide) (hts _ (u_Mq_Mo _ k_Mo_25)) (fun _ h9 => h9) rfl d_Mo_up_8 ?_
    refine lv_if_ne (tgt := 16) hx hb d_Mo_up_11 (by decide) (fun c_3 => ?_) (fun c_3 => ?_)
    · have h := lf_f h c_3
      refine lv_aload_n hx hb d_Mo_up_16 rfl (lv_at hl 0 rfl) ?_
      refine va_get (D := (dC, dI)) (ci := 12) (v := .ref M.a_parent) (C := R_Mo) (T := F_Mo) (N := 66) hx hb hts (fun w h => u_Mq_Mo w (i_Mo w h)) hown hK hP 0 rfl rfl 27 (by decide) (hts _ (u_Mq_Mo _ k_Mo_34)) (fun _ h9 => h9) rfl d_Mo_up_17 ?_
      refine lv_aload_n hx hb d_Mo_up_20 rfl (lv_at hl 0 rfl) ?_
      obtain ⟨r_4, S_4, hc_4, h⟩ := lf_cE h
      have hFc := lx_free hD hS hA
      refine va_calli (va_runV (As := []) (rest := [.ref M.a_parent]) ⟨hx, hb, hml, hown, hts⟩ (l_Mo_folderHere l dC dI X _ hc_4) (cwV 0 hts (gwV good_Mq (u_Mq_Mo _ k_Mo_246) (u_Mq_Mo _ k_Mo_247) (u_Mq_Mo _ k_Mo_508) (u_Mq_Mo _ k_Mo_0) (wcs (u_Mq_Mo _ k_Mo_248) (fun _ h => h))) rfl rfl rfl (by decide +kernel) ⟨Nat.le_of_ble_eq_true rfl, Nat.le_of_ble_eq_true rfl⟩) (pv_ofE (X.same _) (fun U z1 z2 => X.mono _ _ U hFc (hEw _ _ hS U z1 z2)) hP hK hD (va_recv hK hP (ci := 12) (q0 := 0) rfl rfl)) rfl rfl hl.1 rfl (lv_room (Nat.le_of_ble_eq_true rfl)) d_Mo_up_21 ⟨by decide, by decide⟩) hS (fun q _ h => hFc q h) hFc (fun r_ u t H locs ht hvm hw hB hz1 hk1 hS => ?_)
      rw [hw]
      obtain ⟨hP, -, hD⟩ := hB
      rw [ht] at hP
      have hD := lx_dj hD hFc
      obtain ⟨g_5, h⟩ := lf_gE h
      refine va_iald hx hb hK hP 9 8 rfl rfl g_5 d_Mo_up_24 ?_
      refine lv_topi (fun x_6 ex_6 => ?_)
      have h := lf_lE h ex_6
      refine lv_istore_n (lv' := [(1, .int x_6), (0, .ref M.o)]) hx hb d_Mo_up_25 rfl hl (by decide) rfl (fun ls hl => ?_)
      refine lv_aload_n hx hb d_Mo_up_26 rfl (lv_at hl 1 rfl) ?_
      refine lv_iload_n hx hb d_Mo_up_27 rfl (lv_at hl 0 rfl) ?_
      refine lv_if_ne (tgt := 35) hx hb d_Mo_up_28 (by decide) (fun c_7 => ?_) (fun c_7 => ?_)
      · have h := lf_f h c_7
        refine lv_aload_n hx hb d_Mo_up_35 rfl (lv_at hl 1 rfl) ?_
        refine lv_iload_n hx hb d_Mo_up_36 rfl (lv_at hl 0 rfl) ?_
        obtain ⟨r_8, S_8, hc_8, h⟩ := lf_cE h
        have hFc := lx_free hD hS hA
        refine va_calli (va_runV (As := [.int x_6]) (rest := [.ref M.o]) ⟨hx, hb, hml, hown, hts⟩ (l_Mo_beginOf l dC dI X _ hc_8) (cwV 1 hts (gwV good_Mq (u_Mq_Mo _ k_Mo_124) (u_Mq_Mo _ k_Mo_125) (u_Mq_Mo _ k_Mo_490) (u_Mq_Mo _ k_Mo_0) (wcs (u_Mq_Mo _ k_Mo_126) (fun _ h => h))) rfl rfl rfl (by decide +kernel) ⟨Nat.le_of_ble_eq_true rfl, Nat.le_of_ble_eq_true rfl⟩) (pv_ofE (X.same _) (fun U z1 z2 => X.mono _ _ U hFc (hEw _ _ hS U z1 z2)) hP hK hD (va_recv hK hP (ci := 12) (q0 := 0) rfl rfl)) rfl rfl hl.1 rfl (lv_room (Nat.le_of_ble_eq_true rfl)) d_Mo_up_37 ⟨by decide, by decide⟩) hS (fun q _ h => hFc q h) hFc (fun r_ u t H locs ht hvm hw hB hz1 hk1 hS => ?_)
        rw [hw]
        obtain ⟨hP, -, hD⟩ := hB
        rw [ht] at hP
        have hD := lx_dj hD hFc
        exact hB_40 r_8 S_8 _ _ _ h hP hD hS (lv_sub hl [] rfl)
      · have h := lf_t h c_7
        refine lv_iconst (v := 0) hx hb d_Mo_up_31 (by decide) ?_
        refine lv_goto (tgt := 40) hx hb d_Mo_up_32 (by decide) ?_
        exact hB_40 0 S_4 _ _ _ h hP hD hS (lv_sub hl [] rfl)
    · have h := lf_t h c_3
      exact hB_14 S_1 _ _ _ h hP hD hS (lv_sub hl [] rfl)
set_option maxHeartbeats 4000000 in
set_option maxRecDepth 100000 in
theorem l_Mo_fixedNow (l : Launch) (dC : Nat → ClassId) (dI : Nat → Nat → Nat) {K : Nat} {M : MA} {E : (Nat → Prop) → State → Prop} (X : lx_X l dC dI K M E) (sz : Nat) {S S' : MS} {r : Int32} (h : f_Mo_fixedNow K S = some (r, S')) : Met l y_Mo_fixedNow (.code y_Mo_fixedNow b_Mo_fixedNow 1 (some .boolean) :: V_Mq) ({ frames := 12, cells := 0, slots := 0, locals := 339 }) (va_Pc [.ref M.o] (fun U => U.heap.size = sz ∧ at_ (dC, dI) (fun _ => True) (wM M S) (tM M) U ∧ E (va_A (wM M S) sz) U)) (va_Qi (fun (r_ : Int32) (u : Unit) => r_ = r) (fun (u : Unit) t => at_ (dC, dI) (va_A (wM M S) sz) (wM M S') (tM M) t) (va_A (wM M S) sz)) 0 0 (va_A (wM M S) sz) := by
  refine Met.ofW (cc := b_Mo_fixedNow) (maxL := 1) (ret := (some .boolean)) (by decide) rfl ?_
  intro p e s m args below meth c s₁ B hml hv
  obtain ⟨rfl, hsz, ⟨hP, hK, hD0⟩, hE⟩ := hv
  have hx := B.exec
  have hb := B.bytes
  have hr := B.returns
  have hts0 := atoms_spec (ws := .code y_Mo_fixedNow b_Mo_fixedNow 1 (some .boolean) :: V_Mq) B.pre
  have hts : ∀ w ∈ V_Mq, w.before ([.ref M.o] : List Value).toArray s = true := fun w h => hts0 w (List.mem_cons_of_mem _ h)
  have hown : s.vm.findClass R_Mo = some m.cls := findClass_of_methodNamed B.named
  subst hsz
  have hD := hD0.self (sz := s.heap.size)
  generalize hAe : va_A (wM M S) s.heap.size = A at hD hE ⊢
  have hA : ∀ q : Nat, s.heap.size ≤ q → A q := fun q h => by rw [← hAe]; exact Or.inr h
  have hS : va_S A s.heap s.heap [] := va_S.rf
  have hP : va_P (dC, dI) classes (wM M S) s.heap := hP
  have hK : va_K (dC, dI) classes (tM M) s := hK
  have hEw : ∀ (H : Heap) (locs : List Loc), va_S A s.heap H locs → ∀ U : State, U.heap = H → s.WarmedH U.vm → E A U := fun H locs hS U hU hW => X.kept A s U H locs hE hS hU hW
  have hl := lv_entry ([.ref M.o]) (n := 1) (Nat.le_of_ble_eq_true rfl)
  rw [lg_entry_eq]
  generalize (lg_sl ([.ref M.o]) ++ List.replicate (1 - (lg_sl ([.ref M.o])).length) Slot.unset).toArray = ls at hl ⊢
  have hl : lv_has ls 1 [(0, .ref M.o)] := hl
  refine qabs (fun Q hQ => ?_)
  have hB_29 : ∀ (z_1 : Int32) (S : MS) (H : Heap) (locs : List Loc) (ls : Array Slot), f_Mo_fixedNow_29 K z_1 S = some (r, S') → va_P (dC, dI) classes (wM M S) H → va_D A (wM M S) → va_S A s.heap H locs → lv_has ls 1 [] → W p l e ({ frames := 12, cells := 0, slots := 0, locals := 339 }) s m ([.ref M.o] : List Value).toArray below meth c H locs 0 0 Q (F0 m 29 ls [.int z_1, .ref M.o]) := by
    intro z_1 S H locs ls h hP hD hS hl
    rw [f_Mo_fixedNow_29] at h
    refine lv_iconst (v := 1) hx hb d_Mo_fixedNow_29 (by decide) ?_
    obtain ⟨r_5, S_5, hc_5, h⟩ := lf_cE h
    have hFc := lx_free hD hS hA
    refine va_calli (va_runV (As := [.int z_1, .int 1]) (rest := []) ⟨hx, hb, hml, hown, hts⟩ (l_Mo_fails l dC dI X _ hc_5) (cwV 2 hts (gwV good_Mq (u_Mq_Mo _ k_Mo_217) (u_Mq_Mo _ k_Mo_218) (u_Mq_Mo _ k_Mo_474) (u_Mq_Mo _ k_Mo_0) (wcs (u_Mq_Mo _ k_Mo_219) (fun _ h => h))) rfl rfl rfl (by decide +kernel) ⟨Nat.le_of_ble_eq_true rfl, Nat.le_of_ble_eq_true rfl⟩) (pv_ofE (X.same _) (fun U z1 z2 => X.mono _ _ U hFc (hEw _ _ hS U z1 z2)) hP hK hD (va_recv hK hP (ci := 12) (q0 := 0) rfl rfl)) rfl rfl hl.1 rfl (lv_room (Nat.le_of_ble_eq_true rfl)) d_Mo_fixedNow_30 ⟨by decide, by decide⟩) hS (fun q _ h => hFc q h) hFc (fun r_ u t H locs ht hvm hw hB hz1 hk1 hS => ?_)
    rw [hw]
    obtain ⟨hP, -, hD⟩ := hB
    rw [ht] at hP
    have hD := lx_dj hD hFc
    obtain ⟨g_6, h⟩ := lf_gE h
    rw [hQ]
    have e1 : r_5 = r := congrArg Prod.fst (Option.some.inj h)
    have e2 : S_5 = S' := congrArg Prod.snd (Option.some.inj h)
    have hP := lx_newP e2.symm hP
    have hD := lx_newD e2.symm hD
    exact W.zret (v := r_5) hx hb hr (lf_nz g_6) (fun t ht hW => ⟨⟨r_5, (), rfl, e1, by rw [ht]; exact hP, va_K.moved hW.alike hK, hD⟩, hS.F ht⟩) hS.2.2 d_Mo_fixedNow_33
  have hB_24 : ∀ (S : MS) (H : Heap) (locs : List Loc) (ls : Array Slot), f_Mo_fixedNow_24 K S = some (r, S') → va_P (dC, dI) classes (wM M S) H → va_D A (wM M S) → va_S A s.heap H locs → lv_has ls 1 [] → W p l e ({ frames := 12, cells := 0, slots := 0, locals := 339 }) s m ([.ref M.o] : List Value).toArray below meth c H locs 0 0 Q (F0 m 24 ls [.ref M.o]) := by
    intro S H locs ls h hP hD hS hl
    rw [f_Mo_fixedNow_24] at h
    refine lv_iconst (v := 1) hx hb d_Mo_fixedNow_24 (by decide) ?_
    refine lv_goto (tgt := 29) hx hb d_Mo_fixedNow_25 (by decide) ?_
    exact hB_29 1 S _ _ _ h hP hD hS (lv_sub hl [] rfl)
  rw [f_Mo_fixedNow] at h
  refine lv_aload_n hx hb d_Mo_fixedNow_0 rfl (lv_at hl 0 rfl) ?_
  refine lv_iconst (v := 0) hx hb d_Mo_fixedNow_1 (by decide) ?_
  refine va_put (D := (dC, dI)) (ci := 12) (v := .int 0) (ty := .int) (C := R_Mo) (T := F_Mo) (N := 66) hx hb hts (fun w h => u_Mq_Mo w (i_Mo w h)) t_Mo t_Mo_ok n_Mo hown hK hP hD hS 0 rfl rfl 6 (by decide) (hts _ (u_Mq_Mo _ k_Mo_13)) (fun _ h9 => h9) rfl (by decide +kernel) rfl rfl (Nat.le_of_ble_eq_true rfl) d_Mo_fixedNow_2 (fun H locs hP hD hS => ?_)
  obtain ⟨S_1, eS_1, h⟩ := lf_lX h
  have hP := lx_newP eS_1 hP
  have hD := lx_newD eS_1 hD
  refine lv_aload_n hx hb d_Mo_fixedNow_5 rfl (lv_at hl 0 rfl) ?_
  obtain ⟨S_2, hc_2, h⟩ := lf_bE h
  have hFc := lx_free hD hS hA
  refine va_callv (va_runV (As := []) (rest := []) ⟨hx, hb, hml, hown, hts⟩ (l_Mo_look l dC dI X _ hc_2) (cwV 0 hts (gwV good_Mq (u_Mq_Mo _ k_Mo_88) (u_Mq_Mo _ k_Mo_89) (u_Mq_Mo _ k_Mo_492) (u_Mq_Mo _ k_Mo_0) (wcs (u_Mq_Mo _ k_Mo_90) (fun _ h => h))) rfl rfl rfl (by decide +kernel) ⟨Nat.le_of_ble_eq_true rfl, Nat.le_of_ble_eq_true rfl⟩) (pv_ofE (X.same _) (fun U z1 z2 => X.mono _ _ U hFc (hEw _ _ hS U z1 z2)) hP hK hD (va_recv hK hP (ci := 12) (q0 := 0) rfl rfl)) rfl rfl hl.1 rfl (lv_room (Nat.le_of_ble_eq_true rfl)) d_Mo_fixedNow_6 ⟨by decide, by decide⟩) hS (fun q _ h => hFc q h) hFc (fun u t H locs ht hvm hw hB hz1 hk1 hS => ?_)
  obtain ⟨hP, -, hD⟩ := hB
  rw [ht] at hP
  have hD := lx_dj hD hFc
  refine lv_aload_n hx hb d_Mo_fixedNow_9 rfl (lv_at hl 0 rfl) ?_
  refine lv_aload_n hx hb d_Mo_fixedNow_10 rfl (lv_at hl 0 rfl) ?_
  refine va_get (D := (dC, dI)) (ci := 12) (v := .int S_2.v_turned) (C := R_Mo) (T := F_Mo) (N := 66) hx hb hts (fun w h => u_Mq_Mo w (i_Mo w h)) hown hK hP 0 rfl rfl 9 (by decide) (hts _ (u_Mq_Mo _ k_Mo_16)) (fun _ h9 => h9) rfl d_Mo_fixedNow_11 ?_
  refine lv_if_ne (tgt := 24) hx hb d_Mo_fixedNow_14 (by decide) (fun c_3 => ?_) (fun c_3 => ?_)
  · have h := lf_f h c_3
    exact hB_24 S_2 _ _ _ h hP hD hS (lv_sub hl [] rfl)
  · have h := lf_t h c_3
    refine lv_aload_n hx hb d_Mo_fixedNow_17 rfl (lv_at hl 0 rfl) ?_
    refine va_get (D := (dC, dI)) (ci := 12) (v := .int S_2.v_fault) (C := R_Mo) (T := F_Mo) (N := 66) hx hb hts (fun w h => u_Mq_Mo w (i_Mo w h)) hown hK hP 0 rfl rfl 20 (by decide) (hts _ (u_Mq_Mo _ k_Mo_27)) (fun _ h9 => h9) rfl d_Mo_fixedNow_18 ?_
    refine lv_if_le (tgt := 28) hx hb d_Mo_fixedNow_21 (by decide) (fun c_4 => ?_) (fun c_4 => ?_)
    · have h := lf_t h c_4
      refine lv_iconst (v := 0) hx hb d_Mo_fixedNow_28 (by decide) ?_
      exact hB_29 0 S_2 _ _ _ h hP hD hS (lv_sub hl [] rfl)
    · have h := lf_f h c_4
      exact hB_24 S_2 _ _ _ h hP hD hS (lv_sub hl [] rfl)
set_option maxHeartbeats 4000000 in
set_option maxRecDepth 100000 in
theorem l_Mo_free (l : Launch) (dC : Nat → ClassId) (dI : Nat → Nat → Nat) {K : Nat} {M : MA} {E : (Nat → Prop) → State → Prop} (X : lx_X l dC dI K M E) (sz : Nat) {S S' : MS} {r : Int32} (h : f_Mo_free K S = some (r, S')) : Met l y_Mo_free (.code y_Mo_free b_Mo_free 3 (some .int) :: V_Mq) ({ frames := 4, cells := 0, slots := 0, locals := 84 }) (va_Pc [.ref M.o] (fun U => U.heap.size = sz ∧ at_ (dC, dI) (fun _ => True) (wM M S) (tM M) U ∧ E (va_A (wM M S) sz) U)) (va_Qi (fun (r_ : Int32) (u : Unit) => r_ = r) (fun (u : Unit) t => at_ (dC, dI) (va_A (wM M S) sz) (wM M S') (tM M) t) (va_A (wM M S) sz)) 0 0 (va_A (wM M S) sz) := by
  refine Met.ofW (cc := b_Mo_free) (maxL := 3) (ret := (some .int)) (by decide) rfl ?_
  intro p e s m args below meth c s₁ B hml hv
  obtain ⟨rfl, hsz, ⟨hP, hK, hD0⟩, hE⟩ := hv
  have hx := B.exec
  have hb := B.bytes
  have hr := B.returns
  have hts0 := atoms_spec (ws := .code y_Mo_free b_Mo_free 3 (some .int) :: V_Mq) B.pre
  have hts : ∀ w ∈ V_Mq, w.before ([.ref M.o] : List Value).toArray s = true := fun w h => hts0 w (List.mem_cons_of_mem _ h)
  have hown : s.vm.findClass R_Mo = some m.cls := findClass_of_methodNamed B.named
  subst hsz
  have hD := hD0.self (sz := s.heap.size)
  generalize hAe : va_A (wM M S) s.heap.size = A at hD hE ⊢
  have hA : ∀ q : Nat, s.heap.size ≤ q → A q := fun q h => by rw [← hAe]; exact Or.inr h
  have hS : va_S A s.heap s.heap [] := va_S.rf
  have hP : va_P (dC, dI) classes (wM M S) s.heap := hP
  have hK : va_K (dC, dI) classes (tM M) s := hK
  have hEw : ∀ (H : Heap) (locs : List Loc), va_S A s.heap H locs → ∀ U : State, U.heap = H → s.WarmedH U.vm → E A U := fun H locs hS U hU hW => X.kept A s U H locs hE hS hU hW
  have hl := lv_entry ([.ref M.o]) (n := 3) (Nat.le_of_ble_eq_true rfl)
  rw [lg_entry_eq]
  generalize (lg_sl ([.ref M.o]) ++ List.replicate (3 - (lg_sl ([.ref M.o])).length) Slot.unset).toArray = ls at hl ⊢
  have hl : lv_has ls 3 [(0, .ref M.o)] := hl
  refine qabs (fun Q hQ => ?_)
  have hB_28 : ∀ (rec_4 : Int32 → Int32 → MS → Option (Int32 × MS)) (hr_4 : ∀ (y_1 : Int32) (y_2 : Int32) (S : MS) (H : Heap) (locs : List Loc) (ls : Array Slot), rec_4 y_1 y_2 S = some (r, S') → va_P (dC, dI) classes (wM M S) H → va_D A (wM M S) → va_S A s.heap H locs → lv_has ls 3 [(0, .ref M.o), (1, .int y_1), (2, .int y_2)] → W p l e ({ frames := 4, cells := 0, slots := 0, locals := 84 }) s m ([.ref M.o] : List Value).toArray below meth c H locs 0 0 Q (F0 m 4 ls [])), ∀ (y_2 : Int32) (z_0 : Int32) (z_1 : Int32) (S : MS) (H : Heap) (locs : List Loc) (ls : Array Slot), f_Mo_free_28 K rec_4 y_2 z_0 z_1 S = some (r, S') → va_P (dC, dI) classes (wM M S) H → va_D A (wM M S) → va_S A s.heap H locs → lv_has ls 3 [(0, .ref M.o), (2, .int y_2)] → W p l e ({ frames := 4, cells := 0, slots := 0, locals := 84 }) s m ([.ref M.o] : List Value).toArray below meth c H locs 0 0 Q (F0 m 28 ls [.int z_1, .int z_0]) := by
    intro rec_4 hr_4 y_2 z_0 z_1 S H locs ls h hP hD hS hl
    rw [f_Mo_free_28] at h
    refine lv_iadd hx hb d_Mo_free_28 ?_
    refine lv_topi (fun x_4 ex_4 => ?_)
    have h := lf_lE h ex_4
    refine lv_istore_n (lv' := [(1, .int x_4), (0, .ref M.o), (2, .int y_2)]) hx hb d_Mo_free_29 rfl hl (by decide) rfl (fun ls hl => ?_)
    obtain ⟨x_5, ex_5, h⟩ := lf_lX h
    refine lv_iinc (v := x_5) (lv' := [(2, .int x_5), (1, .int x_4), (0, .ref M.o)]) hx hb d_Mo_free_30 hl (k := 2) rfl (by rw [ex_5]; rfl) (by decide) rfl (fun ls hl => ?_)
    refine lv_goto (tgt := 4) hx hb d_Mo_free_33 (by decide) ?_
    exact hr_4 x_4 x_5 S _ _ _ h hP hD hS (lv_sub hl [2, 1, 0] rfl)
  have hB_4 : ∀ (k : Nat), ∀ (y_1 : Int32) (y_2 : Int32) (S : MS) (H : Heap) (locs : List Loc) (ls : Array Slot), f_Mo_free_4 K k y_1 y_2 S = some (r, S') → va_P (dC, dI) classes (wM M S) H → va_D A (wM M S) → va_S A s.heap H locs → lv_has ls 3 [(0, .ref M.o), (1, .int y_1), (2, .int y_2)] → W p l e ({ frames := 4, cells := 0, slots := 0, locals := 84 }) s m ([.ref M.o] : List Value).toArray below meth c H locs 0 0 Q (F0 m 4 ls []) := by
    intro k
    induction k with
    | zero => intro y_1 y_2 S H locs ls h; exact lf_no h
    | succ k hr_4 =>
      intro y_1 y_2 S H locs ls h hP hD hS hl
      rw [f_Mo_free_4] at h
      refine lv_iload_n hx hb d_Mo_free_4 rfl (lv_at hl 2 rfl) ?_
      refine lv_aload_n hx hb d_Mo_free_5 rfl (lv_at hl 0 rfl) ?_
      refine va_get (D := (dC, dI)) (ci := 12) (v := .int S.v_k) (C := R_Mo) (T := F_Mo) (N := 66) hx hb hts (fun w h => u_Mq_Mo w (i_Mo w h)) hown hK hP 0 rfl rfl 17 (by decide) (hts _ (u_Mq_Mo _ k_Mo_24)) (fun _ h9 => h9) rfl d_Mo_free_6 ?_
      refine lv_iconst (v := 2) hx hb d_Mo_free_9 (by decide) ?_
      refine lv_iadd hx hb d_Mo_free_10 ?_
      refine lv_icmp_ge (tgt := 36) hx hb d_Mo_free_11 (by decide) (fun c_1 => ?_) (fun c_1 => ?_)
      · have h := lf_t h c_1
        refine lv_iload_n hx hb d_Mo_free_36 rfl (lv_at hl 1 rfl) ?_
        rw [hQ]
        have e1 : y_1 = r := congrArg Prod.fst (Option.some.inj h)
        have e2 : S = S' := congrArg Prod.snd (Option.some.inj h)
        have hP := lx_newP e2.symm hP
        have hD := lx_newD e2.symm hD
        exact W.iret (v := y_1) hx hb hr (fun t ht hW => ⟨⟨y_1, (), rfl, e1, by rw [ht]; exact hP, va_K.moved hW.alike hK, hD⟩, hS.F ht⟩) hS.2.2 d_Mo_free_37
      · have h := lf_f h c_1
        refine lv_iload_n hx hb d_Mo_free_14 rfl (lv_at hl 1 rfl) ?_
        refine lv_aload_n hx hb d_Mo_free_15 rfl (lv_at hl 0 rfl) ?_
        refine lv_iload_n hx hb d_Mo_free_16 rfl (lv_at hl 2 rfl) ?_
        obtain ⟨r_2, S_2, hc_2, h⟩ := lf_cE h
        have hFc := lx_free hD hS hA
        refine va_calli (va_runV (As := [.int y_2]) (rest := [.int y_1]) ⟨hx, hb, hml, hown, hts⟩ (l_Mo_entry l dC dI X _ hc_2) (cwV 1 hts (gwV good_Mq (u_Mq_Mo _ k_Mo_110) (u_Mq_Mo _ k_Mo_111) (u_Mq_Mo _ k_Mo_480) (u_Mq_Mo _ k_Mo_0) (wcs (u_Mq_Mo _ k_Mo_112) (fun _ h => h))) rfl rfl rfl (by decide +kernel) ⟨Nat.le_of_ble_eq_true rfl, Nat.le_of_ble_eq_true rfl⟩) (pv_ofE (X.same _) (fun U z1 z2 => X.mono _ _ U hFc (hEw _ _ hS U z1 z2)) hP hK hD (va_recv hK hP (ci := 12) (q0 := 0) rfl rfl)) rfl rfl hl.1 rfl (lv_room (Nat.le_of_ble_eq_true rfl)) d_Mo_free_17 ⟨by decide, by decide⟩) hS (fun q _ h => hFc q h) hFc (fun r_ u t H locs ht hvm hw hB hz1 hk1 hS => ?_)
        rw [hw]
        obtain ⟨hP, -, hD⟩ := hB
        rw [ht] at hP
        have hD := lx_dj hD hFc
        refine lv_if_ne (tgt := 27) hx hb d_Mo_free_20 (by decide) (fun c_3 => ?_) (fun c_3 => ?_)
        · have h := lf_f h c_3
          refine lv_iconst (v := 0) hx hb d_Mo_free_27 (by decide) ?_
          exact hB_28 _ hr_4 y_2 y_1 0 S_2 _ _ _ h hP hD hS (lv_sub hl [0, 2] rfl)
        · have h := lf_t h c_3
          refine lv_iconst (v := 1) hx hb d_Mo_free_23 (by decide) ?_
          refine lv_goto (tgt := 28) hx hb d_Mo_free_24 (by decide) ?_
          exact hB_28 _ hr_4 y_2 y_1 1 S_2 _ _ _ h hP hD hS (lv_sub hl [0, 2] rfl)
  rw [f_Mo_free] at h
  refine lv_iconst (v := 0) hx hb d_Mo_free_0 (by decide) ?_
  refine lv_istore_n (lv' := [(1, .int 0), (0, .ref M.o)]) hx hb d_Mo_free_1 rfl hl (by decide) rfl (fun ls hl => ?_)
  refine lv_iconst (v := 2) hx hb d_Mo_free_2 (by decide) ?_
  refine lv_istore_n (lv' := [(2, .int 2), (1, .int 0), (0, .ref M.o)]) hx hb d_Mo_free_3 rfl hl (by decide) rfl (fun ls hl => ?_)
  exact hB_4 K 0 2 S _ _ _ h hP hD hS (lv_sub hl [2, 1, 0] rfl)
set_option maxHeartbeats 4000000 in
set_option maxRecDepth 100000 in
theorem l_Mo_take (l : Launch) (dC : Nat → ClassId) (dI : Nat → Nat → Nat) {K : Nat} {M : MA} {E : (Nat → Prop) → State → Prop} (X : lx_X l dC dI K M E) (sz : Nat) {S S' : MS} {r : Int32} (h : f_Mo_take K S = some (r, S')) : Met l y_Mo_take (.code y_Mo_take b_Mo_take 3 (some .int) :: V_Mq) ({ frames := 4, cells := 0, slots := 0, locals := 87 }) (va_Pc [.ref M.o] (fun U => U.heap.size = sz ∧ at_ (dC, dI) (fun _ => True) (wM M S) (tM M) U ∧ E (va_A (wM M S) sz) U)) (va_Qi (fun (r_ : Int32) (u : Unit) => r_ = r) (fun (u : Unit) t => at_ (dC, dI) (va_A (wM M S) sz) (wM M S') (tM M) t) (va_A (wM M S) sz)) 0 0 (va_A (wM M S) sz) := by
  refine Met.ofW (cc := b_Mo_take) (maxL := 3) (ret := (some .int)) (by decide) rfl ?_
  intro p e s m args below meth c s₁ B hml hv
  obtain ⟨rfl, hsz, ⟨hP, hK, hD0⟩, hE⟩ := hv
  have hx := B.exec
  have hb := B.bytes
  have hr := B.returns
  have hts0 := atoms_spec (ws := .code y_Mo_take b_Mo_take 3 (some .int) :: V_Mq) B.pre
  have hts : ∀ w ∈ V_Mq, w.before ([.ref M.o] : List Value).toArray s = true := fun w h => hts0 w (List.mem_cons_of_mem _ h)
  have hown : s.vm.findClass R_Mo = some m.cls := findClass_of_methodNamed B.named
  subst hsz
  have hD := hD0.self (sz := s.heap.size)
  generalize hAe : va_A (wM M S) s.heap.size = A at hD hE ⊢
  have hA : ∀ q : Nat, s.heap.size ≤ q → A q := fun q h => by rw [← hAe]; exact Or.inr h
  have hS : va_S A s.heap s.heap [] := va_S.rf
  have hP : va_P (dC, dI) classes (wM M S) s.heap := hP
  have hK : va_K (dC, dI) classes (tM M) s := hK
  have hEw : ∀ (H : Heap) (locs : List Loc), va_S A s.heap H locs → ∀ U : State, U.heap = H → s.WarmedH U.vm → E A U := fun H locs hS U hU hW => X.kept A s U H locs hE hS hU hW
  have hl := lv_entry ([.ref M.o]) (n := 3) (Nat.le_of_ble_eq_true rfl)
  rw [lg_entry_eq]
  generalize (lg_sl ([.ref M.o]) ++ List.replicate (3 - (lg_sl ([.ref M.o])).length) Slot.unset).toArray = ls at hl ⊢
  have hl : lv_has ls 3 [(0, .ref M.o)] := hl
  refine qabs (fun Q hQ => ?_)
  have hB_25 : ∀ (k : Nat), ∀ (y_1 : Int32) (y_2 : Int32) (S : MS) (H : Heap) (locs : List Loc) (ls : Array Slot), f_Mo_take_25 K k y_1 y_2 S = some (r, S') → va_P (dC, dI) classes (wM M S) H → va_D A (wM M S) → va_S A s.heap H locs → lv_has ls 3 [(0, .ref M.o), (1, .int y_1), (2, .int y_2)] → W p l e ({ frames := 4, cells := 0, slots := 0, locals := 87 }) s m ([.ref M.o] : List Value).toArray below meth c H locs 0 0 Q (F0 m 25 ls []) := by
    intro k
    induction k with
    | zero => intro y_1 y_2 S H locs ls h; exact lf_no h
    | succ k hr_25 =>
      intro y_1 y_2 S H locs ls h hP hD hS hl
      rw [f_Mo_take_25] at h
      refine lv_iload_n hx hb d_Mo_take_25 rfl (lv_at hl 2 rfl) ?_
      refine lv_sipush (v := 512) hx hb d_Mo_take_26 (by decide) ?_
      refine lv_aload_n hx hb d_Mo_take_29 rfl (lv_at hl 0 rfl) ?_
      refine va_get (D := (dC, dI)) (ci := 12) (v := .int S.v_c) (C := R_Mo) (T := F_Mo) (N := 66) hx hb hts (fun w h => u_Mq_Mo w (i_Mo w h)) hown hK hP 0 rfl rfl 11 (by decide) (hts _ (u_Mq_Mo _ k_Mo_18)) (fun _ h9 => h9) rfl d_Mo_take_30 ?_
      refine lv_imul hx hb d_Mo_take_33 ?_
      refine lv_icmp_ge (tgt := 56) hx hb d_Mo_take_34 (by decide) (fun c_5 => ?_) (fun c_5 => ?_)
      · have h := lf_t h c_5
        refine lv_iload_n hx hb d_Mo_take_56 rfl (lv_at hl 1 rfl) ?_
        rw [hQ]
        have e1 : y_1 = r := congrArg Prod.fst (Option.some.inj h)
        have e2 : S = S' := congrArg Prod.snd (Option.some.inj h)
        have hP := lx_newP e2.symm hP
        have hD := lx_newD e2.symm hD
        exact W.iret (v := y_1) hx hb hr (fun t ht hW => ⟨⟨y_1, (), rfl, e1, by rw [ht]; exact hP, va_K.moved hW.alike hK, hD⟩, hS.F ht⟩) hS.2.2 d_Mo_take_57
      · have h := lf_f h c_5
        refine lv_aload_n hx hb d_Mo_take_37 rfl (lv_at hl 0 rfl) ?_
        refine va_get (D := (dC, dI)) (ci := 12) (v := .ref M.a_disk) (C := R_Mo) (T := F_Mo) (N := 66) hx hb hts (fun w h => u_Mq_Mo w (i_Mo w h)) hown hK hP 0 rfl rfl 1 (by decide) (hts _ (u_Mq_Mo _ k_Mo_8)) (fun _ h9 => h9) rfl d_Mo_take_38 ?_
        refine lv_aload_n hx hb d_Mo_take_41 rfl (lv_at hl 0 rfl) ?_
        refine lv_iload_n hx hb d_Mo_take_42 rfl (lv_at hl 1 rfl) ?_
        obtain ⟨r_6, S_6, hc_6, h⟩ := lf_cE h
        have hFc := lx_free hD hS hA
        refine va_calli (va_runV (As := [.int y_1]) (rest := [.ref M.a_disk]) ⟨hx, hb, hml, hown, hts⟩ (l_Mo_place l dC dI X _ hc_6) (cwV 1 hts (gwV good_Mq (u_Mq_Mo _ k_Mo_136) (u_Mq_Mo _ k_Mo_137) (u_Mq_Mo _ k_Mo_483) (u_Mq_Mo _ k_Mo_0) (wcs (u_Mq_Mo _ k_Mo_138) (fun _ h => h))) rfl rfl rfl (by decide +kernel) ⟨Nat.le_of_ble_eq_true rfl, Nat.le_of_ble_eq_true rfl⟩) (pv_ofE (X.same _) (fun U z1 z2 => X.mono _ _ U hFc (hEw _ _ hS U z1 z2)) hP hK hD (va_recv hK hP (ci := 12) (q0 := 0) rfl rfl)) rfl rfl hl.1 rfl (lv_room (Nat.le_of_ble_eq_true rfl)) d_Mo_take_43 ⟨by decide, by decide⟩) hS (fun q _ h => hFc q h) hFc (fun r_ u t H locs ht hvm hw hB hz1 hk1 hS => ?_)
        rw [hw]
        obtain ⟨hP, -, hD⟩ := hB
        rw [ht] at hP
        have hD := lx_dj hD hFc
        refine lv_iload_n hx hb d_Mo_take_46 rfl (lv_at hl 2 rfl) ?_
        refine lv_iadd hx hb d_Mo_take_47 ?_
        refine lv_iconst (v := 0) hx hb d_Mo_take_48 (by decide) ?_
        obtain ⟨g_7, h⟩ := lf_gE h
        refine va_bast hx hb hK hP hD hS 1 0 rfl rfl g_7 d_Mo_take_49 (fun H locs hP hD hS => ?_)
        obtain ⟨S_8, eS_8, h⟩ := lf_lX h
        have hP := lx_newP eS_8 hP
        have hD := lx_newD eS_8 hD
        obtain ⟨x_9, ex_9, h⟩ := lf_lX h
        refine lv_iinc (v := x_9) (lv' := [(2, .int x_9), (0, .ref M.o), (1, .int y_1)]) hx hb d_Mo_take_50 hl (k := 2) rfl (by rw [ex_9]; rfl) (by decide) rfl (fun ls hl => ?_)
        refine lv_goto (tgt := 25) hx hb d_Mo_take_53 (by decide) ?_
        exact hr_25 y_1 x_9 S_8 _ _ _ h hP hD hS (lv_sub hl [1, 2, 0] rfl)
  have hB_2 : ∀ (k : Nat), ∀ (y_1 : Int32) (S : MS) (H : Heap) (locs : List Loc) (ls : Array Slot), f_Mo_take_2 K k y_1 S = some (r, S') → va_P (dC, dI) classes (wM M S) H → va_D A (wM M S) → va_S A s.heap H locs → lv_has ls 3 [(0, .ref M.o), (1, .int y_1)] → W p l e ({ frames := 4, cells := 0, slots := 0, locals := 87 }) s m ([.ref M.o] : List Value).toArray below meth c H locs 0 0 Q (F0 m 2 ls []) := by
    intro k
    induction k with
    | zero => intro y_1 S H locs ls h; exact lf_no h
    | succ k hr_2 =>
      intro y_1 S H locs ls h hP hD hS hl
      rw [f_Mo_take_2] at h
      refine lv_aload_n hx hb d_Mo_take_2 rfl (lv_at hl 0 rfl) ?_
      refine lv_iload_n hx hb d_Mo_take_3 rfl (lv_at hl 1 rfl) ?_
      obtain ⟨r_1, S_1, hc_1, h⟩ := lf_cE h
      have hFc := lx_free hD hS hA
      refine va_calli (va_runV (As := [.int y_1]) (rest := []) ⟨hx, hb, hml, hown, hts⟩ (l_Mo_entry l dC dI X _ hc_1) (cwV 1 hts (gwV good_Mq (u_Mq_Mo _ k_Mo_110) (u_Mq_Mo _ k_Mo_111) (u_Mq_Mo _ k_Mo_480) (u_Mq_Mo _ k_Mo_0) (wcs (u_Mq_Mo _ k_Mo_112) (fun _ h => h))) rfl rfl rfl (by decide +kernel) ⟨Nat.le_of_ble_eq_true rfl, Nat.le_of_ble_eq_true rfl⟩) (pv_ofE (X.same _) (fun U z1 z2 => X.mono _ _ U hFc (hEw _ _ hS U z1 z2)) hP hK hD (va_recv hK hP (ci := 12) (q0 := 0) rfl rfl)) rfl rfl hl.1 rfl (lv_room (Nat.le_of_ble_eq_true rfl)) d_Mo_take_4 ⟨by decide, by decide⟩) hS (fun q _ h => hFc q h) hFc (fun r_ u t H locs ht hvm hw hB hz1 hk1 hS => ?_)
      rw [hw]
      obtain ⟨hP, -, hD⟩ := hB
      rw [ht] at hP
      have hD := lx_dj hD hFc
      refine lv_if_eq (tgt := 16) hx hb d_Mo_take_7 (by decide) (fun c_2 => ?_) (fun c_2 => ?_)
      · have h := lf_t h c_2
        refine lv_aload_n hx hb d_Mo_take_16 rfl (lv_at hl 0 rfl) ?_
        refine lv_iload_n hx hb d_Mo_take_17 rfl (lv_at hl 1 rfl) ?_
        refine lv_ldc (v := 268435455) hx hb hown (hts _ (u_Mq_Mo _ k_Mo_116)) d_Mo_take_18 ?_
        obtain ⟨S_3, hc_3, h⟩ := lf_bE h
        have hFc := lx_free hD hS hA
        refine va_callv (va_runV (As := [.int y_1, .int 268435455]) (rest := []) ⟨hx, hb, hml, hown, hts⟩ (l_Mo_setEntry l dC dI X _ hc_3) (cwV 2 hts (gwV good_Mq (u_Mq_Mo _ k_Mo_231) (u_Mq_Mo _ k_Mo_232) (u_Mq_Mo _ k_Mo_481) (u_Mq_Mo _ k_Mo_0) (wcs (u_Mq_Mo _ k_Mo_233) (fun _ h => h))) rfl rfl rfl (by decide +kernel) ⟨Nat.le_of_ble_eq_true rfl, Nat.le_of_ble_eq_true rfl⟩) (pv_ofE (X.same _) (fun U z1 z2 => X.mono _ _ U hFc (hEw _ _ hS U z1 z2)) hP hK hD (va_recv hK hP (ci := 12) (q0 := 0) rfl rfl)) rfl rfl hl.1 rfl (lv_room (Nat.le_of_ble_eq_true rfl)) d_Mo_take_20 ⟨by decide, by decide⟩) hS (fun q _ h => hFc q h) hFc (fun u t H locs ht hvm hw hB hz1 hk1 hS => ?_)
        obtain ⟨hP, -, hD⟩ := hB
        rw [ht] at hP
        have hD := lx_dj hD hFc
        refine lv_iconst (v := 0) hx hb d_Mo_take_23 (by decide) ?_
        refine lv_istore_n (lv' := [(2, .int 0), (0, .ref M.o), (1, .int y_1)]) hx hb d_Mo_take_24 rfl hl (by decide) rfl (fun ls hl => ?_)
        exact hB_25 K y_1 0 S_3 _ _ _ h hP hD hS (lv_sub hl [1, 2, 0] rfl)
      · have h := lf_f h c_2
        obtain ⟨x_4, ex_4, h⟩ := lf_lX h
        refine lv_iinc (v := x_4) (lv' := [(1, .int x_4), (0, .ref M.o)]) hx hb d_Mo_take_10 hl (k := 1) rfl (by rw [ex_4]; rfl) (by decide) rfl (fun ls hl => ?_)
        refine lv_goto (tgt := 2) hx hb d_Mo_take_13 (by decide) ?_
        exact hr_2 x_4 S_1 _ _ _ h hP hD hS (lv_sub hl [1, 0] rfl)
  rw [f_Mo_take] at h
  refine lv_iconst (v := 2) hx hb d_Mo_take_0 (by decide) ?_
  refine lv_istore_n (lv' := [(1, .int 2), (0, .ref M.o)]) hx hb d_Mo_take_1 rfl hl (by decide) rfl (fun ls hl => ?_)
  exact hB_2 K 2 S _ _ _ h hP hD hS (lv_sub hl [1, 0] rfl)
set_option maxHeartbeats 4000000 in
set_option maxRecDepth 100000 in
theorem l_Mo_named (l : Launch) (dC : Nat → ClassId) (dI : Nat → Nat → Nat) {K : Nat} {M : MA} {E : (Nat → Prop) → State → Prop} (X : lx_X l dC dI K M E) (sz : Nat) {S S' : MS} {r : Int32} (h : f_Mo_named K S = some (r, S')) : Met l y_Mo_named (.code y_Mo_named b_Mo_named 2 (some .boolean) :: V_Mq) ({ frames := 8, cells := 0, slots := 0, locals := 244 }) (va_Pc [.ref M.o] (fun U => U.heap.size = sz ∧ at_ (dC, dI) (fun _ => True) (wM M S) (tM M) U ∧ E (va_A (wM M S) sz) U)) (va_Qi (fun (r_ : Int32) (u : Unit) => r_ = r) (fun (u : Unit) t => at_ (dC, dI) (va_A (wM M S) sz) (wM M S') (tM M) t) (va_A (wM M S) sz)) 0 0 (va_A (wM M S) sz) := by
  refine Met.ofW (cc := b_Mo_named) (maxL := 2) (ret := (some .boolean)) (by decide) rfl ?_
  intro p e s m args below meth c s₁ B hml hv
  obtain ⟨rfl, hsz, ⟨hP, hK, hD0⟩, hE⟩ := hv
  have hx := B.exec
  have hb := B.bytes
  have hr := B.returns
  have hts0 := atoms_spec (ws := .code y_Mo_named b_Mo_named 2 (some .boolean) :: V_Mq) B.pre
  have hts : ∀ w ∈ V_Mq, w.before ([.ref M.o] : List Value).toArray s = true := fun w h => hts0 w (List.mem_cons_of_mem _ h)
  have hown : s.vm.findClass R_Mo = some m.cls := findClass_of_methodNamed B.named
  subst hsz
  have hD := hD0.self (sz := s.heap.size)
  generalize hAe : va_A (wM M S) s.heap.size = A at hD hE ⊢
  have hA : ∀ q : Nat, s.heap.size ≤ q → A q := fun q h => by rw [← hAe]; exact Or.inr h
  have hS : va_S A s.heap s.heap [] := va_S.rf
  have hP : va_P (dC, dI) classes (wM M S) s.heap := hP
  have hK : va_K (dC, dI) classes (tM M) s := hK
  have hEw : ∀ (H : Heap) (locs : List Loc), va_S A s.heap H locs → ∀ U : State, U.heap = H → s.WarmedH U.vm → E A U := fun H locs hS U hU hW => X.kept A s U H locs hE hS hU hW
  have hl := lv_entry ([.ref M.o]) (n := 2) (Nat.le_of_ble_eq_true rfl)
  rw [lg_entry_eq]
  generalize (lg_sl ([.ref M.o]) ++ List.replicate (2 - (lg_sl ([.ref M.o])).length) Slot.unset).toArray = ls at hl ⊢
  have hl : lv_has ls 2 [(0, .ref M.o)] := hl
  refine qabs (fun Q hQ => ?_)
  have hB_35 : ∀ (k : Nat), ∀ (y_1 : Int32) (S : MS) (H : Heap) (locs : List Loc) (ls : Array Slot), f_Mo_named_35 K k y_1 S = some (r, S') → va_P (dC, dI) classes (wM M S) H → va_D A (wM M S) → va_S A s.heap H locs → lv_has ls 2 [(0, .ref M.o), (1, .int y_1)] → W p l e ({ frames := 8, cells := 0, slots := 0, locals := 244 }) s m ([.ref M.o] : List Value).toArray below meth c H locs 0 0 Q (F0 m 35 ls []) := by
    intro k
    induction k with
    | zero => intro y_1 S H locs ls h; exact lf_no h
    | succ k hr_35 =>
      intro y_1 S H locs ls h hP hD hS hl
      rw [f_Mo_named_35] at h
      refine lv_iload_n hx hb d_Mo_named_35 rfl (lv_at hl 1 rfl) ?_
      refine lv_aload_n hx hb d_Mo_named_36 rfl (lv_at hl 0 rfl) ?_
      refine va_get (D := (dC, dI)) (ci := 12) (v := .int S.v_size) (C := R_Mo) (T := F_Mo) (N := 66) hx hb hts (fun w h => u_Mq_Mo w (i_Mo w h)) hown hK hP 0 rfl rfl 39 (by decide) (hts _ (u_Mq_Mo _ k_Mo_46)) (fun _ h9 => h9) rfl d_Mo_named_37 ?_
      refine lv_icmp_ge (tgt := 76) hx hb d_Mo_named_40 (by decide) (fun c_4 => ?_) (fun c_4 => ?_)
      · have h := lf_t h c_4
        refine lv_aload_n hx hb d_Mo_named_76 rfl (lv_at hl 0 rfl) ?_
        refine lv_iconst (v := 0) hx hb d_Mo_named_77 (by decide) ?_
        refine va_put (D := (dC, dI)) (ci := 12) (v := .int 0) (ty := .int) (C := R_Mo) (T := F_Mo) (N := 66) hx hb hts (fun w h => u_Mq_Mo w (i_Mo w h)) t_Mo t_Mo_ok n_Mo hown hK hP hD hS 0 rfl rfl 5 (by decide) (hts _ (u_Mq_Mo _ k_Mo_12)) (fun _ h9 => h9) rfl (by decide +kernel) rfl rfl (Nat.le_of_ble_eq_true rfl) d_Mo_named_78 (fun H locs hP hD hS => ?_)
        obtain ⟨S_5, eS_5, h⟩ := lf_lX h
        have hP := lx_newP eS_5 hP
        have hD := lx_newD eS_5 hD
        refine lv_aload_n hx hb d_Mo_named_81 rfl (lv_at hl 0 rfl) ?_
        obtain ⟨r_6, S_6, hc_6, h⟩ := lf_cE h
        have hFc := lx_free hD hS hA
        refine va_calli (va_runV (As := []) (rest := []) ⟨hx, hb, hml, hown, hts⟩ (l_Mo_isName l dC dI X _ hc_6) (cwV 0 hts (gwV good_Mq (u_Mq_Mo _ k_Mo_181) (u_Mq_Mo _ k_Mo_182) (u_Mq_Mo _ k_Mo_500) (u_Mq_Mo _ k_Mo_0) (wcs (u_Mq_Mo _ k_Mo_183) (fun _ h => h))) rfl rfl rfl (by decide +kernel) ⟨Nat.le_of_ble_eq_true rfl, Nat.le_of_ble_eq_true rfl⟩) (pv_ofE (X.same _) (fun U z1 z2 => X.mono _ _ U hFc (hEw _ _ hS U z1 z2)) hP hK hD (va_recv hK hP (ci := 12) (q0 := 0) rfl rfl)) rfl rfl hl.1 rfl (lv_room (Nat.le_of_ble_eq_true rfl)) d_Mo_named_82 ⟨by decide, by decide⟩) hS (fun q _ h => hFc q h) hFc (fun r_ u t H locs ht hvm hw hB hz1 hk1 hS => ?_)
        rw [hw]
        obtain ⟨hP, -, hD⟩ := hB
        rw [ht] at hP
        have hD := lx_dj hD hFc
        obtain ⟨g_7, h⟩ := lf_gE h
        rw [hQ]
        have e1 : r_6 = r := congrArg Prod.fst (Option.some.inj h)
        have e2 : S_6 = S' := congrArg Prod.snd (Option.some.inj h)
        have hP := lx_newP e2.symm hP
        have hD := lx_newD e2.symm hD
        exact W.zret (v := r_6) hx hb hr (lf_nz g_7) (fun t ht hW => ⟨⟨r_6, (), rfl, e1, by rw [ht]; exact hP, va_K.moved hW.alike hK, hD⟩, hS.F ht⟩) hS.2.2 d_Mo_named_85
      · have h := lf_f h c_4
        refine lv_aload_n hx hb d_Mo_named_43 rfl (lv_at hl 0 rfl) ?_
        refine va_get (D := (dC, dI)) (ci := 12) (v := .ref M.a_name) (C := R_Mo) (T := F_Mo) (N := 66) hx hb hts (fun w h => u_Mq_Mo w (i_Mo w h)) hown hK hP 0 rfl rfl 38 (by decide) (hts _ (u_Mq_Mo _ k_Mo_45)) (fun _ h9 => h9) rfl d_Mo_named_44 ?_
        refine lv_iload_n hx hb d_Mo_named_47 rfl (lv_at hl 1 rfl) ?_
        refine lv_aload_n hx hb d_Mo_named_48 rfl (lv_at hl 0 rfl) ?_
        refine lv_iconst (v := 2) hx hb d_Mo_named_49 (by decide) ?_
        refine lv_iload_n hx hb d_Mo_named_50 rfl (lv_at hl 1 rfl) ?_
        refine lv_imul hx hb d_Mo_named_51 ?_
        obtain ⟨r_8, S_8, hc_8, h⟩ := lf_cE h
        have hFc := lx_free hD hS hA
        refine va_calli (va_runV (As := [.int (2 * y_1)]) (rest := [.int y_1, .ref M.a_name]) ⟨hx, hb, hml, hown, hts⟩ (l_Mo_taken l dC dI X _ hc_8) (cwV 1 hts (gwV good_Mq (u_Mq_Mo _ k_Mo_214) (u_Mq_Mo _ k_Mo_215) (u_Mq_Mo _ k_Mo_505) (u_Mq_Mo _ k_Mo_0) (wcs (u_Mq_Mo _ k_Mo_216) (fun _ h => h))) rfl rfl rfl (by decide +kernel) ⟨Nat.le_of_ble_eq_true rfl, Nat.le_of_ble_eq_true rfl⟩) (pv_ofE (X.same _) (fun U z1 z2 => X.mono _ _ U hFc (hEw _ _ hS U z1 z2)) hP hK hD (va_recv hK hP (ci := 12) (q0 := 0) rfl rfl)) rfl rfl hl.1 rfl (lv_room (Nat.le_of_ble_eq_true rfl)) d_Mo_named_52 ⟨by decide, by decide⟩) hS (fun q _ h => hFc q h) hFc (fun r_ u t H locs ht hvm hw hB hz1 hk1 hS => ?_)
        rw [hw]
        obtain ⟨hP, -, hD⟩ := hB
        rw [ht] at hP
        have hD := lx_dj hD hFc
        refine lv_bipush (v := 8) hx hb d_Mo_named_55 (by decide) ?_
        refine lv_ishl hx hb d_Mo_named_57 ?_
        refine lv_aload_n hx hb d_Mo_named_58 rfl (lv_at hl 0 rfl) ?_
        refine lv_iconst (v := 2) hx hb d_Mo_named_59 (by decide) ?_
        refine lv_iload_n hx hb d_Mo_named_60 rfl (lv_at hl 1 rfl) ?_
        refine lv_imul hx hb d_Mo_named_61 ?_
        refine lv_iconst (v := 1) hx hb d_Mo_named_62 (by decide) ?_
        refine lv_iadd hx hb d_Mo_named_63 ?_
        obtain ⟨r_9, S_9, hc_9, h⟩ := lf_cE h
        have hFc := lx_free hD hS hA
        refine va_calli (va_runV (As := [.int ((2 * y_1) + 1)]) (rest := [.int (r_8 <<< ((8 : Int32) &&& 31)), .int y_1, .ref M.a_name]) ⟨hx, hb, hml, hown, hts⟩ (l_Mo_taken l dC dI X _ hc_9) (cwV 1 hts (gwV good_Mq (u_Mq_Mo _ k_Mo_214) (u_Mq_Mo _ k_Mo_215) (u_Mq_Mo _ k_Mo_505) (u_Mq_Mo _ k_Mo_0) (wcs (u_Mq_Mo _ k_Mo_216) (fun _ h => h))) rfl rfl rfl (by decide +kernel) ⟨Nat.le_of_ble_eq_true rfl, Nat.le_of_ble_eq_true rfl⟩) (pv_ofE (X.same _) (fun U z1 z2 => X.mono _ _ U hFc (hEw _ _ hS U z1 z2)) hP hK hD (va_recv hK hP (ci := 12) (q0 := 0) rfl rfl)) rfl rfl hl.1 rfl (lv_room (Nat.le_of_ble_eq_true rfl)) d_Mo_named_64 ⟨by decide, by decide⟩) hS (fun q _ h => hFc q h) hFc (fun r_ u t H locs ht hvm hw hB hz1 hk1 hS => ?_)
        rw [hw]
        obtain ⟨hP, -, hD⟩ := hB
        rw [ht] at hP
        have hD := lx_dj hD hFc
        refine lv_ior hx hb d_Mo_named_67 ?_
        refine lv_i2c hx hb d_Mo_named_68 rfl ?_
        obtain ⟨g_10, h⟩ := lf_gE h
        refine va_cast hx hb hK hP hD hS 17 16 rfl rfl g_10 d_Mo_named_69 (fun H locs hP hD hS => ?_)
        obtain ⟨S_11, eS_11, h⟩ := lf_lX h
        have hP := lx_newP eS_11 hP
        have hD := lx_newD eS_11 hD
        obtain ⟨x_12, ex_12, h⟩ := lf_lX h
        refine lv_iinc (v := x_12) (lv' := [(1, .int x_12), (0, .ref M.o)]) hx hb d_Mo_named_70 hl (k := 1) rfl (by rw [ex_12]; rfl) (by decide) rfl (fun ls hl => ?_)
        refine lv_goto (tgt := 35) hx hb d_Mo_named_73 (by decide) ?_
        exact hr_35 x_12 S_11 _ _ _ h hP hD hS (lv_sub hl [1, 0] rfl)
  have hB_30 : ∀ (z_1 : Int32) (S : MS) (H : Heap) (locs : List Loc) (ls : Array Slot), f_Mo_named_30 K z_1 S = some (r, S') → va_P (dC, dI) classes (wM M S) H → va_D A (wM M S) → va_S A s.heap H locs → lv_has ls 2 [(0, .ref M.o)] → W p l e ({ frames := 8, cells := 0, slots := 0, locals := 244 }) s m ([.ref M.o] : List Value).toArray below meth c H locs 0 0 Q (F0 m 30 ls [.int z_1, .ref M.o]) := by
    intro z_1 S H locs ls h hP hD hS hl
    rw [f_Mo_named_30] at h
    refine va_put (D := (dC, dI)) (ci := 12) (v := .int z_1) (ty := .int) (C := R_Mo) (T := F_Mo) (N := 66) hx hb hts (fun w h => u_Mq_Mo w (i_Mo w h)) t_Mo t_Mo_ok n_Mo hown hK hP hD hS 0 rfl rfl 39 (by decide) (hts _ (u_Mq_Mo _ k_Mo_46)) (fun _ h9 => h9) rfl (by decide +kernel) rfl rfl (Nat.le_of_ble_eq_true rfl) d_Mo_named_30 (fun H locs hP hD hS => ?_)
    obtain ⟨S_3, eS_3, h⟩ := lf_lX h
    have hP := lx_newP eS_3 hP
    have hD := lx_newD eS_3 hD
    refine lv_iconst (v := 0) hx hb d_Mo_named_33 (by decide) ?_
    refine lv_istore_n (lv' := [(1, .int 0), (0, .ref M.o)]) hx hb d_Mo_named_34 rfl hl (by decide) rfl (fun ls hl => ?_)
    exact hB_35 K 0 S_3 _ _ _ h hP hD hS (lv_sub hl [1, 0] rfl)
  have hB_29 : ∀ (S : MS) (H : Heap) (locs : List Loc) (ls : Array Slot), f_Mo_named_29 K S = some (r, S') → va_P (dC, dI) classes (wM M S) H → va_D A (wM M S) → va_S A s.heap H locs → lv_has ls 2 [(0, .ref M.o)] → W p l e ({ frames := 8, cells := 0, slots := 0, locals := 244 }) s m ([.ref M.o] : List Value).toArray below meth c H locs 0 0 Q (F0 m 29 ls [.ref M.o]) := by
    intro S H locs ls h hP hD hS hl
    rw [f_Mo_named_29] at h
    refine lv_iconst (v := 0) hx hb d_Mo_named_29 (by decide) ?_
    exact hB_30 0 S _ _ _ h hP hD hS (lv_sub hl [0] rfl)
  rw [f_Mo_named] at h
  refine lv_aload_n hx hb d_Mo_named_0 rfl (lv_at hl 0 rfl) ?_
  refine lv_aload_n hx hb d_Mo_named_1 rfl (lv_at hl 0 rfl) ?_
  refine va_get (D := (dC, dI)) (ci := 12) (v := .int S.v_taped) (C := R_Mo) (T := F_Mo) (N := 66) hx hb hts (fun w h => u_Mq_Mo w (i_Mo w h)) hown hK hP 0 rfl rfl 5 (by decide) (hts _ (u_Mq_Mo _ k_Mo_12)) (fun _ h9 => h9) rfl d_Mo_named_2 ?_
  refine lv_iconst (v := 2) hx hb d_Mo_named_5 (by decide) ?_
  refine lv_irem hx hb d_Mo_named_6 (by decide) ?_
  refine lv_if_ne (tgt := 29) hx hb d_Mo_named_7 (by decide) (fun c_1 => ?_) (fun c_1 => ?_)
  · have h := lf_f h c_1
    exact hB_29 S _ _ _ h hP hD hS (lv_sub hl [0] rfl)
  · have h := lf_t h c_1
    refine lv_aload_n hx hb d_Mo_named_10 rfl (lv_at hl 0 rfl) ?_
    refine va_get (D := (dC, dI)) (ci := 12) (v := .int S.v_taped) (C := R_Mo) (T := F_Mo) (N := 66) hx hb hts (fun w h => u_Mq_Mo w (i_Mo w h)) hown hK hP 0 rfl rfl 5 (by decide) (hts _ (u_Mq_Mo _ k_Mo_12)) (fun _ h9 => h9) rfl d_Mo_named_11 ?_
    refine lv_sipush (v := 510) hx hb d_Mo_named_14 (by decide) ?_
    refine lv_icmp_gt (tgt := 29) hx hb d_Mo_named_17 (by decide) (fun c_2 => ?_) (fun c_2 => ?_)
    · have h := lf_t h c_2
      exact hB_29 S _ _ _ h hP hD hS (lv_sub hl [0] rfl)
    · have h := lf_f h c_2
      refine lv_aload_n hx hb d_Mo_named_20 rfl (lv_at hl 0 rfl) ?_
      refine va_get (D := (dC, dI)) (ci := 12) (v := .int S.v_taped) (C := R_Mo) (T := F_Mo) (N := 66) hx hb hts (fun w h => u_Mq_Mo w (i_Mo w h)) hown hK hP 0 rfl rfl 5 (by decide) (hts _ (u_Mq_Mo _ k_Mo_12)) (fun _ h9 => h9) rfl d_Mo_named_21 ?_
      refine lv_iconst (v := 2) hx hb d_Mo_named_24 (by decide) ?_
      refine lv_idiv hx hb d_Mo_named_25 (by decide) ?_
      refine lv_goto (tgt := 30) hx hb d_Mo_named_26 (by decide) ?_
      exact hB_30 (S.v_taped / 2) S _ _ _ h hP hD hS (lv_sub hl [0] rfl)
set_option maxHeartbeats 4000000 in
set_option maxRecDepth 100000 in
theorem l_Mo_isBrief (l : Launch) (dC : Nat → ClassId) (dI : Nat → Nat → Nat) {K : Nat} {M : MA} {E : (Nat → Prop) → State → Prop} (X : lx_X l dC dI K M E) (sz : Nat) {S S' : MS} {r : Int32} (h : f_Mo_isBrief K S = some (r, S')) : Met l y_Mo_isBrief (.code y_Mo_isBrief b_Mo_isBrief 3 (some .boolean) :: V_Mq) ({ frames := 8, cells := 0, slots := 0, locals := 241 }) (va_Pc [.ref M.o] (fun U => U.heap.size = sz ∧ at_ (dC, dI) (fun _ => True) (wM M S) (tM M) U ∧ E (va_A (wM M S) sz) U)) (va_Qi (fun (r_ : Int32) (u : Unit) => r_ = r) (fun (u : Unit) t => at_ (dC, dI) (va_A (wM M S) sz) (wM M S') (tM M) t) (va_A (wM M S) sz)) 0 0 (va_A (wM M S) sz) := by
  refine Met.ofW (cc := b_Mo_isBrief) (maxL := 3) (ret := (some .boolean)) (by decide) rfl ?_
  intro p e s m args below meth c s₁ B hml hv
  obtain ⟨rfl, hsz, ⟨hP, hK, hD0⟩, hE⟩ := hv
  have hx := B.exec
  have hb := B.bytes
  have hr := B.returns
  have hts0 := atoms_spec (ws := .code y_Mo_isBrief b_Mo_isBrief 3 (some .boolean) :: V_Mq) B.pre
  have hts : ∀ w ∈ V_Mq, w.before ([.ref M.o] : List Value).toArray s = true := fun w h => hts0 w (List.mem_cons_of_mem _ h)
  have hown : s.vm.findClass R_Mo = some m.cls := findClass_of_methodNamed B.named
  subst hsz
  have hD := hD0.self (sz := s.heap.size)
  generalize hAe : va_A (wM M S) s.heap.size = A at hD hE ⊢
  have hA : ∀ q : Nat, s.heap.size ≤ q → A q := fun q h => by rw [← hAe]; exact Or.inr h
  have hS : va_S A s.heap s.heap [] := va_S.rf
  have hP : va_P (dC, dI) classes (wM M S) s.heap := hP
  have hK : va_K (dC, dI) classes (tM M) s := hK
  have hEw : ∀ (H : Heap) (locs : List Loc), va_S A s.heap H locs → ∀ U : State, U.heap = H → s.WarmedH U.vm → E A U := fun H locs hS U hU hW => X.kept A s U H locs hE hS hU hW
  have hl := lv_entry ([.ref M.o]) (n := 3) (Nat.le_of_ble_eq_true rfl)
  rw [lg_entry_eq]
  generalize (lg_sl ([.ref M.o]) ++ List.replicate (3 - (lg_sl ([.ref M.o])).length) Slot.unset).toArray = ls at hl ⊢
  have hl : lv_has ls 3 [(0, .ref M.o)] := hl
  refine qabs (fun Q hQ => ?_)
  have hB_65 : ∀ (S : MS) (H : Heap) (locs : List Loc) (ls : Array Slot), f_Mo_isBrief_65 K S = some (r, S') → va_P (dC, dI) classes (wM M S) H → va_D A (wM M S) → va_S A s.heap H locs → lv_has ls 3 [] → W p l e ({ frames := 8, cells := 0, slots := 0, locals := 241 }) s m ([.ref M.o] : List Value).toArray below meth c H locs 0 0 Q (F0 m 65 ls []) := by
    intro S H locs ls h hP hD hS hl
    rw [f_Mo_isBrief_65] at h
    refine lv_iconst (v := 0) hx hb d_Mo_isBrief_65 (by decide) ?_
    rw [hQ]
    have e1 : (0 : Int32) = r := congrArg Prod.fst (Option.some.inj h)
    have e2 : S = S' := congrArg Prod.snd (Option.some.inj h)
    have hP := lx_newP e2.symm hP
    have hD := lx_newD e2.symm hD
    exact W.zret (v := 0) hx hb hr rfl (fun t ht hW => ⟨⟨0, (), rfl, e1, by rw [ht]; exact hP, va_K.moved hW.alike hK, hD⟩, hS.F ht⟩) hS.2.2 d_Mo_isBrief_66
  have hB_149 : ∀ (rec_91 : Int32 → Int32 → MS → Option (Int32 × MS)) (hr_91 : ∀ (y_1 : Int32) (y_2 : Int32) (S : MS) (H : Heap) (locs : List Loc) (ls : Array Slot), rec_91 y_1 y_2 S = some (r, S') → va_P (dC, dI) classes (wM M S) H → va_D A (wM M S) → va_S A s.heap H locs → lv_has ls 3 [(0, .ref M.o), (1, .int y_1), (2, .int y_2)] → W p l e ({ frames := 8, cells := 0, slots := 0, locals := 241 }) s m ([.ref M.o] : List Value).toArray below meth c H locs 0 0 Q (F0 m 91 ls [])), ∀ (y_1 : Int32) (y_2 : Int32) (S : MS) (H : Heap) (locs : List Loc) (ls : Array Slot), f_Mo_isBrief_149 K rec_91 y_1 y_2 S = some (r, S') → va_P (dC, dI) classes (wM M S) H → va_D A (wM M S) → va_S A s.heap H locs → lv_has ls 3 [(0, .ref M.o), (1, .int y_1), (2, .int y_2)] → W p l e ({ frames := 8, cells := 0, slots := 0, locals := 241 }) s m ([.ref M.o] : List Value).toArray below meth c H locs 0 0 Q (F0 m 149 ls []) := by
    intro rec_91 hr_91 y_1 y_2 S H locs ls h hP hD hS hl
    rw [f_Mo_isBrief_149] at h
    obtain ⟨x_21, ex_21, h⟩ := lf_lX h
    refine lv_iinc (v := x_21) (lv' := [(2, .int x_21), (0, .ref M.o), (1, .int y_1)]) hx hb d_Mo_isBrief_149 hl (k := 2) rfl (by rw [ex_21]; rfl) (by decide) rfl (fun ls hl => ?_)
    refine lv_goto (tgt := 91) hx hb d_Mo_isBrief_152 (by decide) ?_
    exact hr_91 y_1 x_21 S _ _ _ h hP hD hS (lv_sub hl [1, 2, 0] rfl)
  have hB_142 : ∀ (rec_91 : Int32 → Int32 → MS → Option (Int32 × MS)) (hr_91 : ∀ (y_1 : Int32) (y_2 : Int32) (S : MS) (H : Heap) (locs : List Loc) (ls : Array Slot), rec_91 y_1 y_2 S = some (r, S') → va_P (dC, dI) classes (wM M S) H → va_D A (wM M S) → va_S A s.heap H locs → lv_has ls 3 [(0, .ref M.o), (1, .int y_1), (2, .int y_2)] → W p l e ({ frames := 8, cells := 0, slots := 0, locals := 241 }) s m ([.ref M.o] : List Value).toArray below meth c H locs 0 0 Q (F0 m 91 ls [])), ∀ (y_1 : Int32) (y_2 : Int32) (z_1 : Int32) (S : MS) (H : Heap) (locs : List Loc) (ls : Array Slot), f_Mo_isBrief_142 K rec_91 y_1 y_2 z_1 S = some (r, S') → va_P (dC, dI) classes (wM M S) H → va_D A (wM M S) → va_S A s.heap H locs → lv_has ls 3 [(0, .ref M.o), (1, .int y_1), (2, .int y_2)] → W p l e ({ frames := 8, cells := 0, slots := 0, locals := 241 }) s m ([.ref M.o] : List Value).toArray below meth c H locs 0 0 Q (F0 m 142 ls [.int z_1, .ref M.a_brief]) := by
    intro rec_91 hr_91 y_1 y_2 z_1 S H locs ls h hP hD hS hl
    rw [f_Mo_isBrief_142] at h
    refine lv_aload_n hx hb d_Mo_isBrief_142 rfl (lv_at hl 0 rfl) ?_
    refine va_get (D := (dC, dI)) (ci := 12) (v := .ref M.a_name) (C := R_Mo) (T := F_Mo) (N := 66) hx hb hts (fun w h => u_Mq_Mo w (i_Mo w h)) hown hK hP 0 rfl rfl 38 (by decide) (hts _ (u_Mq_Mo _ k_Mo_45)) (fun _ h9 => h9) rfl d_Mo_isBrief_143 ?_
    refine lv_iload_n hx hb d_Mo_isBrief_146 rfl (lv_at hl 2 rfl) ?_
    obtain ⟨g_22, h⟩ := lf_gE h
    refine va_cald hx hb hK hP 17 16 rfl rfl g_22 d_Mo_isBrief_147 ?_
    obtain ⟨g_23, h⟩ := lf_gE h
    refine va_iast hx hb hK hP hD hS 18 17 rfl rfl g_23 d_Mo_isBrief_148 (fun H locs hP hD hS => ?_)
    obtain ⟨S_24, eS_24, h⟩ := lf_lX h
    have hP := lx_newP eS_24 hP
    have hD := lx_newD eS_24 hD
    exact hB_149 _ hr_91 y_1 y_2 S_24 _ _ _ h hP hD hS (lv_sub hl [0, 1, 2] rfl)
  have hB_118 : ∀ (rec_91 : Int32 → Int32 → MS → Option (Int32 × MS)) (hr_91 : ∀ (y_1 : Int32) (y_2 : Int32) (S : MS) (H : Heap) (locs : List Loc) (ls : Array Slot), rec_91 y_1 y_2 S = some (r, S') → va_P (dC, dI) classes (wM M S) H → va_D A (wM M S) → va_S A s.heap H locs → lv_has ls 3 [(0, .ref M.o), (1, .int y_1), (2, .int y_2)] → W p l e ({ frames := 8, cells := 0, slots := 0, locals := 241 }) s m ([.ref M.o] : List Value).toArray below meth c H locs 0 0 Q (F0 m 91 ls [])), ∀ (y_1 : Int32) (y_2 : Int32) (S : MS) (H : Heap) (locs : List Loc) (ls : Array Slot), f_Mo_isBrief_118 K rec_91 y_1 y_2 S = some (r, S') → va_P (dC, dI) classes (wM M S) H → va_D A (wM M S) → va_S A s.heap H locs → lv_has ls 3 [(0, .ref M.o), (1, .int y_1), (2, .int y_2)] → W p l e ({ frames := 8, cells := 0, slots := 0, locals := 241 }) s m ([.ref M.o] : List Value).toArray below meth c H locs 0 0 Q (F0 m 118 ls []) := by
    intro rec_91 hr_91 y_1 y_2 S H locs ls h hP hD hS hl
    rw [f_Mo_isBrief_118] at h
    refine lv_iload_n hx hb d_Mo_isBrief_118 rfl (lv_at hl 2 rfl) ?_
    refine lv_iload_n hx hb d_Mo_isBrief_119 rfl (lv_at hl 1 rfl) ?_
    refine lv_icmp_eq (tgt := 149) hx hb d_Mo_isBrief_120 (by decide) (fun c_19 => ?_) (fun c_19 => ?_)
    · have h := lf_t h c_19
      exact hB_149 _ hr_91 y_1 y_2 S _ _ _ h hP hD hS (lv_sub hl [0, 1, 2] rfl)
    · have h := lf_f h c_19
      refine lv_aload_n hx hb d_Mo_isBrief_123 rfl (lv_at hl 0 rfl) ?_
      refine va_get (D := (dC, dI)) (ci := 12) (v := .ref M.a_brief) (C := R_Mo) (T := F_Mo) (N := 66) hx hb hts (fun w h => u_Mq_Mo w (i_Mo w h)) hown hK hP 0 rfl rfl 43 (by decide) (hts _ (u_Mq_Mo _ k_Mo_50)) (fun _ h9 => h9) rfl d_Mo_isBrief_124 ?_
      refine lv_iload_n hx hb d_Mo_isBrief_127 rfl (lv_at hl 2 rfl) ?_
      refine lv_iload_n hx hb d_Mo_isBrief_128 rfl (lv_at hl 1 rfl) ?_
      refine lv_icmp_ge (tgt := 136) hx hb d_Mo_isBrief_129 (by decide) (fun c_20 => ?_) (fun c_20 => ?_)
      · have h := lf_t h c_20
        refine lv_bipush (v := 7) hx hb d_Mo_isBrief_136 (by decide) ?_
        refine lv_iload_n hx hb d_Mo_isBrief_138 rfl (lv_at hl 2 rfl) ?_
        refine lv_iadd hx hb d_Mo_isBrief_139 ?_
        refine lv_iload_n hx hb d_Mo_isBrief_140 rfl (lv_at hl 1 rfl) ?_
        refine lv_isub hx hb d_Mo_isBrief_141 ?_
        exact hB_142 _ hr_91 y_1 y_2 ((7 + y_2) - y_1) S _ _ _ h hP hD hS (lv_sub hl [0, 1, 2] rfl)
      · have h := lf_f h c_20
        refine lv_iload_n hx hb d_Mo_isBrief_132 rfl (lv_at hl 2 rfl) ?_
        refine lv_goto (tgt := 142) hx hb d_Mo_isBrief_133 (by decide) ?_
        exact hB_142 _ hr_91 y_1 y_2 y_2 S _ _ _ h hP hD hS (lv_sub hl [0, 1, 2] rfl)
  have hB_91 : ∀ (k : Nat), ∀ (y_1 : Int32) (y_2 : Int32) (S : MS) (H : Heap) (locs : List Loc) (ls : Array Slot), f_Mo_isBrief_91 K k y_1 y_2 S = some (r, S') → va_P (dC, dI) classes (wM M S) H → va_D A (wM M S) → va_S A s.heap H locs → lv_has ls 3 [(0, .ref M.o), (1, .int y_1), (2, .int y_2)] → W p l e ({ frames := 8, cells := 0, slots := 0, locals := 241 }) s m ([.ref M.o] : List Value).toArray below meth c H locs 0 0 Q (F0 m 91 ls []) := by
    intro k
    induction k with
    | zero => intro y_1 y_2 S H locs ls h; exact lf_no h
    | succ k hr_91 =>
      intro y_1 y_2 S H locs ls h hP hD hS hl
      rw [f_Mo_isBrief_91] at h
      refine lv_iload_n hx hb d_Mo_isBrief_91 rfl (lv_at hl 2 rfl) ?_
      refine lv_aload_n hx hb d_Mo_isBrief_92 rfl (lv_at hl 0 rfl) ?_
      refine va_get (D := (dC, dI)) (ci := 12) (v := .int S.v_size) (C := R_Mo) (T := F_Mo) (N := 66) hx hb hts (fun w h => u_Mq_Mo w (i_Mo w h)) hown hK hP 0 rfl rfl 39 (by decide) (hts _ (u_Mq_Mo _ k_Mo_46)) (fun _ h9 => h9) rfl d_Mo_isBrief_93 ?_
      refine lv_icmp_ge (tgt := 155) hx hb d_Mo_isBrief_96 (by decide) (fun c_14 => ?_) (fun c_14 => ?_)
      · have h := lf_t h c_14
        refine lv_iconst (v := 1) hx hb d_Mo_isBrief_155 (by decide) ?_
        rw [hQ]
        have e1 : (1 : Int32) = r := congrArg Prod.fst (Option.some.inj h)
        have e2 : S = S' := congrArg Prod.snd (Option.some.inj h)
        have hP := lx_newP e2.symm hP
        have hD := lx_newD e2.symm hD
        exact W.zret (v := 1) hx hb hr rfl (fun t ht hW => ⟨⟨1, (), rfl, e1, by rw [ht]; exact hP, va_K.moved hW.alike hK, hD⟩, hS.F ht⟩) hS.2.2 d_Mo_isBrief_156
      · have h := lf_f h c_14
        refine lv_iload_n hx hb d_Mo_isBrief_99 rfl (lv_at hl 2 rfl) ?_
        refine lv_iload_n hx hb d_Mo_isBrief_100 rfl (lv_at hl 1 rfl) ?_
        refine lv_icmp_eq (tgt := 118) hx hb d_Mo_isBrief_101 (by decide) (fun c_15 => ?_) (fun c_15 => ?_)
        · have h := lf_t h c_15
          exact hB_118 _ hr_91 y_1 y_2 S _ _ _ h hP hD hS (lv_sub hl [0, 1, 2] rfl)
        · have h := lf_f h c_15
          refine lv_aload_n hx hb d_Mo_isBrief_104 rfl (lv_at hl 0 rfl) ?_
          refine va_get (D := (dC, dI)) (ci := 12) (v := .ref M.a_name) (C := R_Mo) (T := F_Mo) (N := 66) hx hb hts (fun w h => u_Mq_Mo w (i_Mo w h)) hown hK hP 0 rfl rfl 38 (by decide) (hts _ (u_Mq_Mo _ k_Mo_45)) (fun _ h9 => h9) rfl d_Mo_isBrief_105 ?_
          refine lv_iload_n hx hb d_Mo_isBrief_108 rfl (lv_at hl 2 rfl) ?_
          obtain ⟨g_16, h⟩ := lf_gE h
          refine va_cald hx hb hK hP 17 16 rfl rfl g_16 d_Mo_isBrief_109 ?_
          obtain ⟨r_17, hc_17, h⟩ := lf_bE h
          have hFc := lx_free0 hS hA
          refine va_calli (va_runS (As := [.int (S.v_name y_2.toNatClampNeg)]) (rest := []) ⟨hx, hb, hml, hown, hts⟩ (l_Mo_isShortSign l dC dI X _ hc_17) (va_cwS 1 hts (gwS good_Mq (u_Mq_Mo _ k_Mo_167) (u_Mq_Mo _ k_Mo_168) (u_Mq_Mo _ k_Mo_0) (wcs (u_Mq_Mo _ k_Mo_169) (fun _ h => h))) rfl rfl rfl (by decide +kernel) ⟨Nat.le_of_ble_eq_true rfl, Nat.le_of_ble_eq_true rfl⟩) (ps_ofE2 (W := []) (tys := []) (X.same _) (fun U z1 z2 => X.mono _ _ U hFc (hEw _ _ hS U z1 z2)) (hP.sub (ws' := []) [] rfl) (hK.sub [] rfl) (hD.sub (ws' := []) [] (by decide) rfl)) rfl rfl hl.1 rfl (lv_room (Nat.le_of_ble_eq_true rfl)) d_Mo_isBrief_110 ⟨by decide, by decide⟩) hS (fun q _ h => hFc q h) hFc (fun r_ u t H locs ht hvm hw hB hz1 hk1 hS => ?_)
          rw [hw]
          have hP := lx_stat (A := A) hP hk1
          refine lv_if_ne (tgt := 118) hx hb d_Mo_isBrief_113 (by decide) (fun c_18 => ?_) (fun c_18 => ?_)
          · have h := lf_f h c_18
            exact hB_118 _ hr_91 y_1 y_2 S _ _ _ h hP hD hS (lv_sub hl [0, 1, 2] rfl)
          · have h := lf_t h c_18
            refine lv_iconst (v := 0) hx hb d_Mo_isBrief_116 (by decide) ?_
            rw [hQ]
            have e1 : (0 : Int32) = r := congrArg Prod.fst (Option.some.inj h)
            have e2 : S = S' := congrArg Prod.snd (Option.some.inj h)
            have hP := lx_newP e2.symm hP
            have hD := lx_newD e2.symm hD
            exact W.zret (v := 0) hx hb hr rfl (fun t ht hW => ⟨⟨0, (), rfl, e1, by rw [ht]; exact hP, va_K.moved hW.alike hK, hD⟩, hS.F ht⟩) hS.2.2 d_Mo_isBrief_117
  have hB_69 : ∀ (k : Nat), ∀ (y_1 : Int32) (y_2 : Int32) (S : MS) (H : Heap) (locs : List Loc) (ls : Array Slot), f_Mo_isBrief_69 K k y_1 y_2 S = some (r, S') → va_P (dC, dI) classes (wM M S) H → va_D A (wM M S) → va_S A s.heap H locs → lv_has ls 3 [(0, .ref M.o), (1, .int y_1), (2, .int y_2)] → W p l e ({ frames := 8, cells := 0, slots := 0, locals := 241 }) s m ([.ref M.o] : List Value).toArray below meth c H locs 0 0 Q (F0 m 69 ls []) := by
    intro k
    induction k with
    | zero => intro y_1 y_2 S H locs ls h; exact lf_no h
    | succ k hr_69 =>
      intro y_1 y_2 S H locs ls h hP hD hS hl
      rw [f_Mo_isBrief_69] at h
      refine lv_iload_n hx hb d_Mo_isBrief_69 rfl (lv_at hl 2 rfl) ?_
      refine lv_bipush (v := 11) hx hb d_Mo_isBrief_70 (by decide) ?_
      refine lv_icmp_ge (tgt := 89) hx hb d_Mo_isBrief_72 (by decide) (fun c_10 => ?_) (fun c_10 => ?_)
      · have h := lf_t h c_10
        refine lv_iconst (v := 0) hx hb d_Mo_isBrief_89 (by decide) ?_
        refine lv_istore_n (lv' := [(2, .int 0), (0, .ref M.o), (1, .int y_1)]) hx hb d_Mo_isBrief_90 rfl hl (by decide) rfl (fun ls hl => ?_)
        exact hB_91 K y_1 0 S _ _ _ h hP hD hS (lv_sub hl [1, 2, 0] rfl)
      · have h := lf_f h c_10
        refine lv_aload_n hx hb d_Mo_isBrief_75 rfl (lv_at hl 0 rfl) ?_
        refine va_get (D := (dC, dI)) (ci := 12) (v := .ref M.a_brief) (C := R_Mo) (T := F_Mo) (N := 66) hx hb hts (fun w h => u_Mq_Mo w (i_Mo w h)) hown hK hP 0 rfl rfl 43 (by decide) (hts _ (u_Mq_Mo _ k_Mo_50)) (fun _ h9 => h9) rfl d_Mo_isBrief_76 ?_
        refine lv_iload_n hx hb d_Mo_isBrief_79 rfl (lv_at hl 2 rfl) ?_
        refine lv_bipush (v := 32) hx hb d_Mo_isBrief_80 (by decide) ?_
        obtain ⟨g_11, h⟩ := lf_gE h
        refine va_iast hx hb hK hP hD hS 18 17 rfl rfl g_11 d_Mo_isBrief_82 (fun H locs hP hD hS => ?_)
        obtain ⟨S_12, eS_12, h⟩ := lf_lX h
        have hP := lx_newP eS_12 hP
        have hD := lx_newD eS_12 hD
        obtain ⟨x_13, ex_13, h⟩ := lf_lX h
        refine lv_iinc (v := x_13) (lv' := [(2, .int x_13), (0, .ref M.o), (1, .int y_1)]) hx hb d_Mo_isBrief_83 hl (k := 2) rfl (by rw [ex_13]; rfl) (by decide) rfl (fun ls hl => ?_)
        refine lv_goto (tgt := 69) hx hb d_Mo_isBrief_86 (by decide) ?_
        exact hr_69 y_1 x_13 S_12 _ _ _ h hP hD hS (lv_sub hl [1, 2, 0] rfl)
  have hB_67 : ∀ (y_1 : Int32) (S : MS) (H : Heap) (locs : List Loc) (ls : Array Slot), f_Mo_isBrief_67 K y_1 S = some (r, S') → va_P (dC, dI) classes (wM M S) H → va_D A (wM M S) → va_S A s.heap H locs → lv_has ls 3 [(0, .ref M.o), (1, .int y_1)] → W p l e ({ frames := 8, cells := 0, slots := 0, locals := 241 }) s m ([.ref M.o] : List Value).toArray below meth c H locs 0 0 Q (F0 m 67 ls []) := by
    intro y_1 S H locs ls h hP hD hS hl
    rw [f_Mo_isBrief_67] at h
    refine lv_iconst (v := 0) hx hb d_Mo_isBrief_67 (by decide) ?_
    refine lv_istore_n (lv' := [(2, .int 0), (0, .ref M.o), (1, .int y_1)]) hx hb d_Mo_isBrief_68 rfl hl (by decide) rfl (fun ls hl => ?_)
    exact hB_69 K y_1 0 S _ _ _ h hP hD hS (lv_sub hl [1, 2, 0] rfl)
  have hB_27 : ∀ (y_1 : Int32) (S : MS) (H : Heap) (locs : List Loc) (ls : Array Slot), f_Mo_isBrief_27 K y_1 S = some (r, S') → va_P (dC, dI) classes (wM M S) H → va_D A (wM M S) → va_S A s.heap H locs → lv_has ls 3 [(0, .ref M.o), (1, .int y_1)] → W p l e ({ frames := 8, cells := 0, slots := 0, locals := 241 }) s m ([.ref M.o] : List Value).toArray below meth c H locs 0 0 Q (F0 m 27 ls []) := by
    intro y_1 S H locs ls h hP hD hS hl
    rw [f_Mo_isBrief_27] at h
    refine lv_iload_n hx hb d_Mo_isBrief_27 rfl (lv_at hl 1 rfl) ?_
    refine lv_if_eq (tgt := 65) hx hb d_Mo_isBrief_28 (by decide) (fun c_5 => ?_) (fun c_5 => ?_)
    · have h := lf_t h c_5
      exact hB_65 S _ _ _ h hP hD hS (lv_sub hl [] rfl)
    · have h := lf_f h c_5
      refine lv_iload_n hx hb d_Mo_isBrief_31 rfl (lv_at hl 1 rfl) ?_
      refine lv_bipush (v := 8) hx hb d_Mo_isBrief_32 (by decide) ?_
      refine lv_icmp_gt (tgt := 65) hx hb d_Mo_isBrief_34 (by decide) (fun c_6 => ?_) (fun c_6 => ?_)
      · have h := lf_t h c_6
        exact hB_65 S _ _ _ h hP hD hS (lv_sub hl [] rfl)
      · have h := lf_f h c_6
        refine lv_aload_n hx hb d_Mo_isBrief_37 rfl (lv_at hl 0 rfl) ?_
        refine va_get (D := (dC, dI)) (ci := 12) (v := .int S.v_size) (C := R_Mo) (T := F_Mo) (N := 66) hx hb hts (fun w h => u_Mq_Mo w (i_Mo w h)) hown hK hP 0 rfl rfl 39 (by decide) (hts _ (u_Mq_Mo _ k_Mo_46)) (fun _ h9 => h9) rfl d_Mo_isBrief_38 ?_
        refine lv_iload_n hx hb d_Mo_isBrief_41 rfl (lv_at hl 1 rfl) ?_
        refine lv_isub hx hb d_Mo_isBrief_42 ?_
        refine lv_iconst (v := 4) hx hb d_Mo_isBrief_43 (by decide) ?_
        refine lv_icmp_gt (tgt := 65) hx hb d_Mo_isBrief_44 (by decide) (fun c_7 => ?_) (fun c_7 => ?_)
        · have h := lf_t h c_7
          exact hB_65 S _ _ _ h hP hD hS (lv_sub hl [] rfl)
        · have h := lf_f h c_7
          refine lv_iload_n hx hb d_Mo_isBrief_47 rfl (lv_at hl 1 rfl) ?_
          refine lv_aload_n hx hb d_Mo_isBrief_48 rfl (lv_at hl 0 rfl) ?_
          refine va_get (D := (dC, dI)) (ci := 12) (v := .int S.v_size) (C := R_Mo) (T := F_Mo) (N := 66) hx hb hts (fun w h => u_Mq_Mo w (i_Mo w h)) hown hK hP 0 rfl rfl 39 (by decide) (hts _ (u_Mq_Mo _ k_Mo_46)) (fun _ h9 => h9) rfl d_Mo_isBrief_49 ?_
          refine lv_icmp_ge (tgt := 67) hx hb d_Mo_isBrief_52 (by decide) (fun c_8 => ?_) (fun c_8 => ?_)
          · have h := lf_t h c_8
            exact hB_67 y_1 S _ _ _ h hP hD hS (lv_sub hl [0, 1] rfl)
          · have h := lf_f h c_8
            refine lv_aload_n hx hb d_Mo_isBrief_55 rfl (lv_at hl 0 rfl) ?_
            refine va_get (D := (dC, dI)) (ci := 12) (v := .int S.v_size) (C := R_Mo) (T := F_Mo) (N := 66) hx hb hts (fun w h => u_Mq_Mo w (i_Mo w h)) hown hK hP 0 rfl rfl 39 (by decide) (hts _ (u_Mq_Mo _ k_Mo_46)) (fun _ h9 => h9) rfl d_Mo_isBrief_56 ?_
            refine lv_iload_n hx hb d_Mo_isBrief_59 rfl (lv_at hl 1 rfl) ?_
            refine lv_isub hx hb d_Mo_isBrief_60 ?_
            refine lv_iconst (v := 2) hx hb d_Mo_isBrief_61 (by decide) ?_
            refine lv_icmp_ge (tgt := 67) hx hb d_Mo_isBrief_62 (by decide) (fun c_9 => ?_) (fun c_9 => ?_)
            · have h := lf_t h c_9
              exact hB_67 y_1 S _ _ _ h hP hD hS (lv_sub hl [0, 1] rfl)
            · have h := lf_f h c_9
              exact hB_65 S _ _ _ h hP hD hS (lv_sub hl [] rfl)
  have hB_2 : ∀ (k : Nat), ∀ (y_1 : Int32) (S : MS) (H : Heap) (locs : List Loc) (ls : Array Slot), f_Mo_isBrief_2 K k y_1 S = some (r, S') → va_P (dC, dI) classes (wM M S) H → va_D A (wM M S) → va_S A s.heap H locs → lv_has ls 3 [(0, .ref M.o), (1, .int y_1)] → W p l e ({ frames := 8, cells := 0, slots := 0, locals := 241 }) s m ([.ref M.o] : List Value).toArray below meth c H locs 0 0 Q (F0 m 2 ls []) := by
    intro k
    induction k with
    | zero => intro y_1 S H locs ls h; exact lf_no h
    | succ k hr_2 =>
      intro y_1 S H locs ls h hP hD hS hl
      rw [f_Mo_isBrief_2] at h
      refine lv_iload_n hx hb d_Mo_isBrief_2 rfl (lv_at hl 1 rfl) ?_
      refine lv_aload_n hx hb d_Mo_isBrief_3 rfl (lv_at hl 0 rfl) ?_
      refine va_get (D := (dC, dI)) (ci := 12) (v := .int S.v_size) (C := R_Mo) (T := F_Mo) (N := 66) hx hb hts (fun w h => u_Mq_Mo w (i_Mo w h)) hown hK hP 0 rfl rfl 39 (by decide) (hts _ (u_Mq_Mo _ k_Mo_46)) (fun _ h9 => h9) rfl d_Mo_isBrief_4 ?_
      refine lv_icmp_ge (tgt := 27) hx hb d_Mo_isBrief_7 (by decide) (fun c_1 => ?_) (fun c_1 => ?_)
      · have h := lf_t h c_1
        exact hB_27 y_1 S _ _ _ h hP hD hS (lv_sub hl [0, 1] rfl)
      · have h := lf_f h c_1
        refine lv_aload_n hx hb d_Mo_isBrief_10 rfl (lv_at hl 0 rfl) ?_
        refine va_get (D := (dC, dI)) (ci := 12) (v := .ref M.a_name) (C := R_Mo) (T := F_Mo) (N := 66) hx hb hts (fun w h => u_Mq_Mo w (i_Mo w h)) hown hK hP 0 rfl rfl 38 (by decide) (hts _ (u_Mq_Mo _ k_Mo_45)) (fun _ h9 => h9) rfl d_Mo_isBrief_11 ?_
        refine lv_iload_n hx hb d_Mo_isBrief_14 rfl (lv_at hl 1 rfl) ?_
        obtain ⟨g_2, h⟩ := lf_gE h
        refine va_cald hx hb hK hP 17 16 rfl rfl g_2 d_Mo_isBrief_15 ?_
        refine lv_bipush (v := 46) hx hb d_Mo_isBrief_16 (by decide) ?_
        refine lv_icmp_eq (tgt := 27) hx hb d_Mo_isBrief_18 (by decide) (fun c_3 => ?_) (fun c_3 => ?_)
        · have h := lf_t h c_3
          exact hB_27 y_1 S _ _ _ h hP hD hS (lv_sub hl [0, 1] rfl)
        · have h := lf_f h c_3
          obtain ⟨x_4, ex_4, h⟩ := lf_lX h
          refine lv_iinc (v := x_4) (lv' := [(1, .int x_4), (0, .ref M.o)]) hx hb d_Mo_isBrief_21 hl (k := 1) rfl (by rw [ex_4]; rfl) (by decide) rfl (fun ls hl => ?_)
          refine lv_goto (tgt := 2) hx hb d_Mo_isBrief_24 (by decide) ?_
          exact hr_2 x_4 S _ _ _ h hP hD hS (lv_sub hl [1, 0] rfl)
  rw [f_Mo_isBrief] at h
  refine lv_iconst (v := 0) hx hb d_Mo_isBrief_0 (by decide) ?_
  refine lv_istore_n (lv' := [(1, .int 0), (0, .ref M.o)]) hx hb d_Mo_isBrief_1 rfl hl (by decide) rfl (fun ls hl => ?_)
  exact hB_2 K 0 S _ _ _ h hP hD hS (lv_sub hl [1, 0] rfl)
set_option maxHeartbeats 4000000 in
set_option maxRecDepth 100000 in
theorem l_Mo_plain (l : Launch) (dC : Nat → ClassId) (dI : Nat → Nat → Nat) {K : Nat} {M : MA} {E : (Nat → Prop) → State → Prop} (X : lx_X l dC dI K M E) (sz : Nat) {p0 : Int32} {r : Int32} (h : f_Mo_plain K p0 = some r) : Met l y_Mo_plain (.code y_Mo_plain b_Mo_plain 2 (some .int) :: V_Mq) ({ frames := 8, cells := 0, slots := 0, locals := 241 }) (va_Pc [.int p0] (fun U => U.heap.size = sz ∧ at_ (dC, dI) (fun _ => True) [] [] U ∧ E (va_A [] sz) U)) (va_Qi (fun (r_ : Int32) (u : Unit) => r_ = r) (fun (u : Unit) t => at_ (dC, dI) (va_A [] sz) [] [] t) (va_A [] sz)) 0 0 (va_A [] sz) := by
  refine Met.ofW (cc := b_Mo_plain) (maxL := 2) (ret := (some .int)) (by decide) rfl ?_
  intro p e s m args below meth c s₁ B hml hv
  obtain ⟨rfl, hsz, ⟨hP, hK, hD0⟩, hE⟩ := hv
  have hx := B.exec
  have hb := B.bytes
  have hr := B.returns
  have hts0 := atoms_spec (ws := .code y_Mo_plain b_Mo_plain 2 (some .int) :: V_Mq) B.pre
  have hts : ∀ w ∈ V_Mq, w.before ([.int p0] : List Value).toArray s = true := fun w h => hts0 w (List.mem_cons_of_mem _ h)
  have hown : s.vm.findClass R_Mo = some m.cls := findClass_of_methodNamed B.named
  subst hsz
  have hD := hD0.self (sz := s.heap.size)
  generalize hAe : va_A [] s.heap.size = A at hD hE ⊢
  have hA : ∀ q : Nat, s.heap.size ≤ q → A q := fun q h => by rw [← hAe]; exact Or.inr h
  have hS : va_S A s.heap s.heap [] := va_S.rf
  have hP : va_P (dC, dI) classes [] s.heap := hP
  have hK : va_K (dC, dI) classes [] s := hK
  have hEw : ∀ (H : Heap) (locs : List Loc), va_S A s.heap H locs → ∀ U : State, U.heap = H → s.WarmedH U.vm → E A U := fun H locs hS U hU hW => X.kept A s U H locs hE hS hU hW
  have hl := lv_entry ([.int p0]) (n := 2) (Nat.le_of_ble_eq_true rfl)
  rw [lg_entry_eq]
  generalize (lg_sl ([.int p0]) ++ List.replicate (2 - (lg_sl ([.int p0])).length) Slot.unset).toArray = ls at hl ⊢
  have hl : lv_has ls 2 [(0, .int p0)] := hl
  refine qabs (fun Q hQ => ?_)
  have hB_23 : ∀ (H : Heap) (locs : List Loc) (ls : Array Slot), f_Mo_plain_23 K = some r → va_P (dC, dI) classes [] H → va_D A [] → va_S A s.heap H locs → lv_has ls 2 [] → W p l e ({ frames := 8, cells := 0, slots := 0, locals := 241 }) s m ([.int p0] : List Value).toArray below meth c H locs 0 0 Q (F0 m 23 ls []) := by
    intro  H locs ls h hP hD hS hl
    rw [f_Mo_plain_23] at h
    refine lv_bipush (v := 95) hx hb d_Mo_plain_23 (by decide) ?_
    rw [hQ]
    have e1 : (95 : Int32) = r := Option.some.inj h
    exact W.iret (v := 95) hx hb hr (fun t ht hW => ⟨⟨95, (), rfl, e1, by rw [ht]; exact hP, va_K.moved hW.alike hK, hD⟩, hS.F ht⟩) hS.2.2 d_Mo_plain_25
  rw [f_Mo_plain] at h
  refine lv_iload_n hx hb d_Mo_plain_0 rfl (lv_at hl 0 rfl) ?_
  obtain ⟨r_1, hc_1, h⟩ := lf_bE h
  have hFc := lx_free0 hS hA
  refine va_calli (va_runS (As := [.int p0]) (rest := []) ⟨hx, hb, hml, hown, hts⟩ (l_Mo_capital l dC dI  _ hc_1) (va_cwS 1 hts (gwS good_Mq (u_Mq_Mo _ k_Mo_196) (u_Mq_Mo _ k_Mo_197) (u_Mq_Mo _ k_Mo_0) (wcs (u_Mq_Mo _ k_Mo_198) (fun _ h => h))) rfl rfl rfl (by decide +kernel) ⟨Nat.le_of_ble_eq_true rfl, Nat.le_of_ble_eq_true rfl⟩) (ps_of (W := []) (tys := []) (hP.sub (ws' := []) [] rfl) (hK.sub [] rfl) (hD.sub (ws' := []) [] (by decide) rfl)) rfl rfl hl.1 rfl (lv_room (Nat.le_of_ble_eq_true rfl)) d_Mo_plain_1 ⟨by decide, by decide⟩) hS (fun q _ h => hFc q h) hFc (fun r_ u t H locs ht hvm hw hB hz1 hk1 hS => ?_)
  rw [hw]
  have hP := lx_stat (A := A) hP hk1
  refine lv_istore_n (lv' := [(1, .int r_1), (0, .int p0)]) hx hb d_Mo_plain_4 rfl hl (by decide) rfl (fun ls hl => ?_)
  refine lv_iload_n hx hb d_Mo_plain_5 rfl (lv_at hl 1 rfl) ?_
  refine lv_sipush (v := 128) hx hb d_Mo_plain_6 (by decide) ?_
  refine lv_icmp_ge (tgt := 23) hx hb d_Mo_plain_9 (by decide) (fun c_2 => ?_) (fun c_2 => ?_)
  · have h := lf_t h c_2
    exact hB_23 _ _ _ h hP hD hS (lv_sub hl [] rfl)
  · have h := lf_f h c_2
    refine lv_iload_n hx hb d_Mo_plain_12 rfl (lv_at hl 0 rfl) ?_
    obtain ⟨r_3, hc_3, h⟩ := lf_bE h
    have hFc := lx_free0 hS hA
    refine va_calli (va_runS (As := [.int r_1]) (rest := []) ⟨hx, hb, hml, hown, hts⟩ (l_Mo_isShortSign l dC dI X _ hc_3) (va_cwS 1 hts (gwS good_Mq (u_Mq_Mo _ k_Mo_167) (u_Mq_Mo _ k_Mo_168) (u_Mq_Mo _ k_Mo_0) (wcs (u_Mq_Mo _ k_Mo_169) (fun _ h => h))) rfl rfl rfl (by decide +kernel) ⟨Nat.le_of_ble_eq_true rfl, Nat.le_of_ble_eq_true rfl⟩) (ps_ofE2 (W := []) (tys := []) (X.same _) (fun U z1 z2 => X.mono _ _ U hFc (hEw _ _ hS U z1 z2)) (hP.sub (ws' := []) [] rfl) (hK.sub [] rfl) (hD.sub (ws' := []) [] (by decide) rfl)) rfl rfl hl.1 rfl (lv_room (Nat.le_of_ble_eq_true rfl)) d_Mo_plain_13 ⟨by decide, by decide⟩) hS (fun q _ h => hFc q h) hFc (fun r_ u t H locs ht hvm hw hB hz1 hk1 hS => ?_)
    rw [hw]
    have hP := lx_stat (A := A) hP hk1
    refine lv_if_eq (tgt := 23) hx hb d_Mo_plain_16 (by decide) (fun c_4 => ?_) (fun c_4 => ?_)
    · have h := lf_t h c_4
      exact hB_23 _ _ _ h hP hD hS (lv_sub hl [] rfl)
    · have h := lf_f h c_4
      refine lv_iload_n hx hb d_Mo_plain_19 rfl (lv_at hl 0 rfl) ?_
      refine lv_goto (tgt := 25) hx hb d_Mo_plain_20 (by decide) ?_
      rw [hQ]
      have e1 : r_1 = r := Option.some.inj h
      exact W.iret (v := r_1) hx hb hr (fun t ht hW => ⟨⟨r_1, (), rfl, e1, by rw [ht]; exact hP, va_K.moved hW.alike hK, hD⟩, hS.F ht⟩) hS.2.2 d_Mo_plain_25
set_option maxHeartbeats 4000000 in
set_option maxRecDepth 100000 in
theorem l_Mo_isBriefTaken (l : Launch) (dC : Nat → ClassId) (dI : Nat → Nat → Nat) {K : Nat} {M : MA} {E : (Nat → Prop) → State → Prop} (X : lx_X l dC dI K M E) (sz : Nat) {S S' : MS} {p0 : Int32} {r : Int32} (h : f_Mo_isBriefTaken K S p0 = some (r, S')) : Met l y_Mo_isBriefTaken (.code y_Mo_isBriefTaken b_Mo_isBriefTaken 5 (some .boolean) :: V_Mq) ({ frames := 1, cells := 0, slots := 0, locals := 21 }) (va_Pc [.ref M.o, .int p0] (fun U => U.heap.size = sz ∧ at_ (dC, dI) (fun _ => True) (wM M S) (tM M) U ∧ E (va_A (wM M S) sz) U)) (va_Qi (fun (r_ : Int32) (u : Unit) => r_ = r) (fun (u : Unit) t => at_ (dC, dI) (va_A (wM M S) sz) (wM M S') (tM M) t) (va_A (wM M S) sz)) 0 0 (va_A (wM M S) sz) := by
  refine Met.ofW (cc := b_Mo_isBriefTaken) (maxL := 5) (ret := (some .boolean)) (by decide) rfl ?_
  intro p e s m args below meth c s₁ B hml hv
  obtain ⟨rfl, hsz, ⟨hP, hK, hD0⟩, hE⟩ := hv
  have hx := B.exec
  have hb := B.bytes
  have hr := B.returns
  have hts0 := atoms_spec (ws := .code y_Mo_isBriefTaken b_Mo_isBriefTaken 5 (some .boolean) :: V_Mq) B.pre
  have hts : ∀ w ∈ V_Mq, w.before ([.ref M.o, .int p0] : List Value).toArray s = true := fun w h => hts0 w (List.mem_cons_of_mem _ h)
  have hown : s.vm.findClass R_Mo = some m.cls := findClass_of_methodNamed B.named
  subst hsz
  have hD := hD0.self (sz := s.heap.size)
  generalize hAe : va_A (wM M S) s.heap.size = A at hD hE ⊢
  have hA : ∀ q : Nat, s.heap.size ≤ q → A q := fun q h => by rw [← hAe]; exact Or.inr h
  have hS : va_S A s.heap s.heap [] := va_S.rf
  have hP : va_P (dC, dI) classes (wM M S) s.heap := hP
  have hK : va_K (dC, dI) classes (tM M) s := hK
  have hEw : ∀ (H : Heap) (locs : List Loc), va_S A s.heap H locs → ∀ U : State, U.heap = H → s.WarmedH U.vm → E A U := fun H locs hS U hU hW => X.kept A s U H locs hE hS hU hW
  have hl := lv_entry ([.ref M.o, .int p0]) (n := 5) (Nat.le_of_ble_eq_true rfl)
  rw [lg_entry_eq]
  generalize (lg_sl ([.ref M.o, .int p0]) ++ List.replicate (5 - (lg_sl ([.ref M.o, .int p0])).length) Slot.unset).toArray = ls at hl ⊢
  have hl : lv_has ls 5 [(0, .ref M.o), (1, .int p0)] := hl
  refine qabs (fun Q hQ => ?_)
  have hB_68 : ∀ (rec_7 : Int32 → Int32 → MS → Option (Int32 × MS)) (hr_7 : ∀ (y_1 : Int32) (y_2 : Int32) (S : MS) (H : Heap) (locs : List Loc) (ls : Array Slot), rec_7 y_1 y_2 S = some (r, S') → va_P (dC, dI) classes (wM M S) H → va_D A (wM M S) → va_S A s.heap H locs → lv_has ls 5 [(0, .ref M.o), (1, .int y_1), (2, .int y_2)] → W p l e ({ frames := 1, cells := 0, slots := 0, locals := 21 }) s m ([.ref M.o, .int p0] : List Value).toArray below meth c H locs 0 0 Q (F0 m 7 ls [])) (rec_29 : Int32 → Int32 → Int32 → Int32 → MS → Option (Int32 × MS)) (hr_29 : ∀ (y_1 : Int32) (y_2 : Int32) (y_3 : Int32) (y_4 : Int32) (S : MS) (H : Heap) (locs : List Loc) (ls : Array Slot), rec_29 y_1 y_2 y_3 y_4 S = some (r, S') → va_P (dC, dI) classes (wM M S) H → va_D A (wM M S) → va_S A s.heap H locs → lv_has ls 5 [(0, .ref M.o), (1, .int y_1), (2, .int y_2), (3, .int y_3), (4, .int y_4)] → W p l e ({ frames := 1, cells := 0, slots := 0, locals := 21 }) s m ([.ref M.o, .int p0] : List Value).toArray below meth c H locs 0 0 Q (F0 m 29 ls [])), ∀ (y_1 : Int32) (y_2 : Int32) (y_4 : Int32) (z_0 : Int32) (S : MS) (H : Heap) (locs : List Loc) (ls : Array Slot), f_Mo_isBriefTaken_68 K rec_7 rec_29 y_1 y_2 y_4 z_0 S = some (r, S') → va_P (dC, dI) classes (wM M S) H → va_D A (wM M S) → va_S A s.heap H locs → lv_has ls 5 [(0, .ref M.o), (1, .int y_1), (2, .int y_2), (4, .int y_4)] → W p l e ({ frames := 1, cells := 0, slots := 0, locals := 21 }) s m ([.ref M.o, .int p0] : List Value).toArray below meth c H locs 0 0 Q (F0 m 68 ls [.int z_0]) := by
    intro rec_7 hr_7 rec_29 hr_29 y_1 y_2 y_4 z_0 S H locs ls h hP hD hS hl
    rw [f_Mo_isBriefTaken_68] at h
    refine lv_istore_n (lv' := [(3, .int z_0), (0, .ref M.o), (1, .int y_1), (2, .int y_2), (4, .int y_4)]) hx hb d_Mo_isBriefTaken_68 rfl hl (by decide) rfl (fun ls hl => ?_)
    obtain ⟨x_14, ex_14, h⟩ := lf_lX h
    refine lv_iinc (v := x_14) (lv' := [(4, .int x_14), (3, .int z_0), (0, .ref M.o), (1, .int y_1), (2, .int y_2)]) hx hb d_Mo_isBriefTaken_69 hl (k := 4) rfl (by rw [ex_14]; rfl) (by decide) rfl (fun ls hl => ?_)
    refine lv_goto (tgt := 29) hx hb d_Mo_isBriefTaken_72 (by decide) ?_
    exact hr_29 y_1 y_2 z_0 x_14 S _ _ _ h hP hD hS (lv_sub hl [2, 3, 4, 1, 0] rfl)
  have hB_67 : ∀ (rec_7 : Int32 → Int32 → MS → Option (Int32 × MS)) (hr_7 : ∀ (y_1 : Int32) (y_2 : Int32) (S : MS) (H : Heap) (locs : List Loc) (ls : Array Slot), rec_7 y_1 y_2 S = some (r, S') → va_P (dC, dI) classes (wM M S) H → va_D A (wM M S) → va_S A s.heap H locs → lv_has ls 5 [(0, .ref M.o), (1, .int y_1), (2, .int y_2)] → W p l e ({ frames := 1, cells := 0, slots := 0, locals := 21 }) s m ([.ref M.o, .int p0] : List Value).toArray below meth c H locs 0 0 Q (F0 m 7 ls [])) (rec_29 : Int32 → Int32 → Int32 → Int32 → MS → Option (Int32 × MS)) (hr_29 : ∀ (y_1 : Int32) (y_2 : Int32) (y_3 : Int32) (y_4 : Int32) (S : MS) (H : Heap) (locs : List Loc) (ls : Array Slot), rec_29 y_1 y_2 y_3 y_4 S = some (r, S') → va_P (dC, dI) classes (wM M S) H → va_D A (wM M S) → va_S A s.heap H locs → lv_has ls 5 [(0, .ref M.o), (1, .int y_1), (2, .int y_2), (3, .int y_3), (4, .int y_4)] → W p l e ({ frames := 1, cells := 0, slots := 0, locals := 21 }) s m ([.ref M.o, .int p0] : List Value).toArray below meth c H locs 0 0 Q (F0 m 29 ls [])), ∀ (y_1 : Int32) (y_2 : Int32) (y_4 : Int32) (S : MS) (H : Heap) (locs : List Loc) (ls : Array Slot), f_Mo_isBriefTaken_67 K rec_7 rec_29 y_1 y_2 y_4 S = some (r, S') → va_P (dC, dI) classes (wM M S) H → va_D A (wM M S) → va_S A s.heap H locs → lv_has ls 5 [(0, .ref M.o), (1, .int y_1), (2, .int y_2), (4, .int y_4)] → W p l e ({ frames := 1, cells := 0, slots := 0, locals := 21 }) s m ([.ref M.o, .int p0] : List Value).toArray below meth c H locs 0 0 Q (F0 m 67 ls []) := by
    intro rec_7 hr_7 rec_29 hr_29 y_1 y_2 y_4 S H locs ls h hP hD hS hl
    rw [f_Mo_isBriefTaken_67] at h
    refine lv_iconst (v := 0) hx hb d_Mo_isBriefTaken_67 (by decide) ?_
    exact hB_68 _ hr_7 _ hr_29 y_1 y_2 y_4 0 S _ _ _ h hP hD hS (lv_sub hl [0, 1, 2, 3] rfl)
  have hB_29 : ∀ (rec_7 : Int32 → Int32 → MS → Option (Int32 × MS)) (hr_7 : ∀ (y_1 : Int32) (y_2 : Int32) (S : MS) (H : Heap) (locs : List Loc) (ls : Array Slot), rec_7 y_1 y_2 S = some (r, S') → va_P (dC, dI) classes (wM M S) H → va_D A (wM M S) → va_S A s.heap H locs → lv_has ls 5 [(0, .ref M.o), (1, .int y_1), (2, .int y_2)] → W p l e ({ frames := 1, cells := 0, slots := 0, locals := 21 }) s m ([.ref M.o, .int p0] : List Value).toArray below meth c H locs 0 0 Q (F0 m 7 ls [])) (k : Nat), ∀ (y_1 : Int32) (y_2 : Int32) (y_3 : Int32) (y_4 : Int32) (S : MS) (H : Heap) (locs : List Loc) (ls : Array Slot), f_Mo_isBriefTaken_29 K rec_7 k y_1 y_2 y_3 y_4 S = some (r, S') → va_P (dC, dI) classes (wM M S) H → va_D A (wM M S) → va_S A s.heap H locs → lv_has ls 5 [(0, .ref M.o), (1, .int y_1), (2, .int y_2), (3, .int y_3), (4, .int y_4)] → W p l e ({ frames := 1, cells := 0, slots := 0, locals := 21 }) s m ([.ref M.o, .int p0] : List Value).toArray below meth c H locs 0 0 Q (F0 m 29 ls []) := by
    intro rec_7 hr_7 k
    induction k with
    | zero => intro y_1 y_2 y_3 y_4 S H locs ls h; exact lf_no h
    | succ k hr_29 =>
      intro y_1 y_2 y_3 y_4 S H locs ls h hP hD hS hl
      rw [f_Mo_isBriefTaken_29] at h
      refine lv_iload hx hb d_Mo_isBriefTaken_29 (lv_at hl 4 rfl) ?_
      refine lv_bipush (v := 11) hx hb d_Mo_isBriefTaken_31 (by decide) ?_
      refine lv_icmp_ge (tgt := 75) hx hb d_Mo_isBriefTaken_33 (by decide) (fun c_6 => ?_) (fun c_6 => ?_)
      · have h := lf_t h c_6
        refine lv_iload_n hx hb d_Mo_isBriefTaken_75 rfl (lv_at hl 3 rfl) ?_
        refine lv_if_eq (tgt := 81) hx hb d_Mo_isBriefTaken_76 (by decide) (fun c_7 => ?_) (fun c_7 => ?_)
        · have h := lf_t h c_7
          obtain ⟨x_8, ex_8, h⟩ := lf_lX h
          refine lv_iinc (v := x_8) (lv' := [(2, .int x_8), (0, .ref M.o), (1, .int y_1), (3, .int y_3), (4, .int y_4)]) hx hb d_Mo_isBriefTaken_81 hl (k := 2) rfl (by rw [ex_8]; rfl) (by decide) rfl (fun ls hl => ?_)
          refine lv_goto (tgt := 7) hx hb d_Mo_isBriefTaken_84 (by decide) ?_
          exact hr_7 y_1 x_8 S _ _ _ h hP hD hS (lv_sub hl [1, 2, 0] rfl)
        · have h := lf_f h c_7
          refine lv_iconst (v := 1) hx hb d_Mo_isBriefTaken_79 (by decide) ?_
          rw [hQ]
          have e1 : (1 : Int32) = r := congrArg Prod.fst (Option.some.inj h)
          have e2 : S = S' := congrArg Prod.snd (Option.some.inj h)
          have hP := lx_newP e2.symm hP
          have hD := lx_newD e2.symm hD
          exact W.zret (v := 1) hx hb hr rfl (fun t ht hW => ⟨⟨1, (), rfl, e1, by rw [ht]; exact hP, va_K.moved hW.alike hK, hD⟩, hS.F ht⟩) hS.2.2 d_Mo_isBriefTaken_80
      · have h := lf_f h c_6
        refine lv_iload_n hx hb d_Mo_isBriefTaken_36 rfl (lv_at hl 3 rfl) ?_
        refine lv_if_eq (tgt := 67) hx hb d_Mo_isBriefTaken_37 (by decide) (fun c_9 => ?_) (fun c_9 => ?_)
        · have h := lf_t h c_9
          exact hB_67 _ hr_7 _ hr_29 y_1 y_2 y_4 S _ _ _ h hP hD hS (lv_sub hl [0, 1, 2, 4] rfl)
        · have h := lf_f h c_9
          refine lv_aload_n hx hb d_Mo_isBriefTaken_40 rfl (lv_at hl 0 rfl) ?_
          refine lv_aload_n hx hb d_Mo_isBriefTaken_41 rfl (lv_at hl 0 rfl) ?_
          refine va_get (D := (dC, dI)) (ci := 12) (v := .ref M.a_at) (C := R_Mo) (T := F_Mo) (N := 66) hx hb hts (fun w h => u_Mq_Mo w (i_Mo w h)) hown hK hP 0 rfl rfl 24 (by decide) (hts _ (u_Mq_Mo _ k_Mo_31)) (fun _ h9 => h9) rfl d_Mo_isBriefTaken_42 ?_
          refine lv_iload_n hx hb d_Mo_isBriefTaken_45 rfl (lv_at hl 2 rfl) ?_
          obtain ⟨g_10, h⟩ := lf_gE h
          refine va_iald hx hb hK hP 6 5 rfl rfl g_10 d_Mo_isBriefTaken_46 ?_
          refine lv_iload hx hb d_Mo_isBriefTaken_47 (lv_at hl 4 rfl) ?_
          refine lv_iadd hx hb d_Mo_isBriefTaken_49 ?_
          obtain ⟨r_11, S_11, hc_11, h⟩ := lf_cE h
          have hFc := lx_free hD hS hA
          refine va_calli (va_runV (As := [.int ((S.v_at y_2.toNatClampNeg) + y_4)]) (rest := []) ⟨hx, hb, hml, hown, hts⟩ (l_Mo_one l dC dI X _ hc_11) (cwV 1 hts (gwV good_Mq (u_Mq_Mo _ k_Mo_94) (u_Mq_Mo _ k_Mo_95) (u_Mq_Mo _ k_Mo_475) (u_Mq_Mo _ k_Mo_0) (wcs (u_Mq_Mo _ k_Mo_96) (fun _ h => h))) rfl rfl rfl (by decide +kernel) ⟨Nat.le_of_ble_eq_true rfl, Nat.le_of_ble_eq_true rfl⟩) (pv_ofE (X.same _) (fun U z1 z2 => X.mono _ _ U hFc (hEw _ _ hS U z1 z2)) hP hK hD (va_recv hK hP (ci := 12) (q0 := 0) rfl rfl)) rfl rfl hl.1 rfl (lv_room (Nat.le_of_ble_eq_true rfl)) d_Mo_isBriefTaken_50 ⟨by decide, by decide⟩) hS (fun q _ h => hFc q h) hFc (fun r_ u t H locs ht hvm hw hB hz1 hk1 hS => ?_)
          rw [hw]
          obtain ⟨hP, -, hD⟩ := hB
          rw [ht] at hP
          have hD := lx_dj hD hFc
          refine lv_aload_n hx hb d_Mo_isBriefTaken_53 rfl (lv_at hl 0 rfl) ?_
          refine va_get (D := (dC, dI)) (ci := 12) (v := .ref M.a_brief) (C := R_Mo) (T := F_Mo) (N := 66) hx hb hts (fun w h => u_Mq_Mo w (i_Mo w h)) hown hK hP 0 rfl rfl 43 (by decide) (hts _ (u_Mq_Mo _ k_Mo_50)) (fun _ h9 => h9) rfl d_Mo_isBriefTaken_54 ?_
          refine lv_iload hx hb d_Mo_isBriefTaken_57 (lv_at hl 4 rfl) ?_
          obtain ⟨g_12, h⟩ := lf_gE h
          refine va_iald hx hb hK hP 18 17 rfl rfl g_12 d_Mo_isBriefTaken_59 ?_
          refine lv_icmp_ne (tgt := 67) hx hb d_Mo_isBriefTaken_60 (by decide) (fun c_13 => ?_) (fun c_13 => ?_)
          · have h := lf_f h c_13
            exact hB_67 _ hr_7 _ hr_29 y_1 y_2 y_4 S_11 _ _ _ h hP hD hS (lv_sub hl [0, 1, 2, 4] rfl)
          · have h := lf_t h c_13
            refine lv_iconst (v := 1) hx hb d_Mo_isBriefTaken_63 (by decide) ?_
            refine lv_goto (tgt := 68) hx hb d_Mo_isBriefTaken_64 (by decide) ?_
            exact hB_68 _ hr_7 _ hr_29 y_1 y_2 y_4 1 S_11 _ _ _ h hP hD hS (lv_sub hl [0, 1, 2, 4] rfl)
  have hB_7 : ∀ (k : Nat), ∀ (y_1 : Int32) (y_2 : Int32) (S : MS) (H : Heap) (locs : List Loc) (ls : Array Slot), f_Mo_isBriefTaken_7 K k y_1 y_2 S = some (r, S') → va_P (dC, dI) classes (wM M S) H → va_D A (wM M S) → va_S A s.heap H locs → lv_has ls 5 [(0, .ref M.o), (1, .int y_1), (2, .int y_2)] → W p l e ({ frames := 1, cells := 0, slots := 0, locals := 21 }) s m ([.ref M.o, .int p0] : List Value).toArray below meth c H locs 0 0 Q (F0 m 7 ls []) := by
    intro k
    induction k with
    | zero => intro y_1 y_2 S H locs ls h; exact lf_no h
    | succ k hr_7 =>
      intro y_1 y_2 S H locs ls h hP hD hS hl
      rw [f_Mo_isBriefTaken_7] at h
      refine lv_iload_n hx hb d_Mo_isBriefTaken_7 rfl (lv_at hl 2 rfl) ?_
      refine lv_aload_n hx hb d_Mo_isBriefTaken_8 rfl (lv_at hl 0 rfl) ?_
      refine va_get (D := (dC, dI)) (ci := 12) (v := .ref M.a_firstKid) (C := R_Mo) (T := F_Mo) (N := 66) hx hb hts (fun w h => u_Mq_Mo w (i_Mo w h)) hown hK hP 0 rfl rfl 29 (by decide) (hts _ (u_Mq_Mo _ k_Mo_36)) (fun _ h9 => h9) rfl d_Mo_isBriefTaken_9 ?_
      refine lv_iload_n hx hb d_Mo_isBriefTaken_12 rfl (lv_at hl 1 rfl) ?_
      obtain ⟨g_3, h⟩ := lf_gE h
      refine va_iald hx hb hK hP 11 10 rfl rfl g_3 d_Mo_isBriefTaken_13 ?_
      refine lv_aload_n hx hb d_Mo_isBriefTaken_14 rfl (lv_at hl 0 rfl) ?_
      refine va_get (D := (dC, dI)) (ci := 12) (v := .ref M.a_kids) (C := R_Mo) (T := F_Mo) (N := 66) hx hb hts (fun w h => u_Mq_Mo w (i_Mo w h)) hown hK hP 0 rfl rfl 28 (by decide) (hts _ (u_Mq_Mo _ k_Mo_35)) (fun _ h9 => h9) rfl d_Mo_isBriefTaken_15 ?_
      refine lv_iload_n hx hb d_Mo_isBriefTaken_18 rfl (lv_at hl 1 rfl) ?_
      obtain ⟨g_4, h⟩ := lf_gE h
      refine va_iald hx hb hK hP 10 9 rfl rfl g_4 d_Mo_isBriefTaken_19 ?_
      refine lv_iadd hx hb d_Mo_isBriefTaken_20 ?_
      refine lv_icmp_ge (tgt := 87) hx hb d_Mo_isBriefTaken_21 (by decide) (fun c_5 => ?_) (fun c_5 => ?_)
      · have h := lf_t h c_5
        refine lv_iconst (v := 0) hx hb d_Mo_isBriefTaken_87 (by decide) ?_
        rw [hQ]
        have e1 : (0 : Int32) = r := congrArg Prod.fst (Option.some.inj h)
        have e2 : S = S' := congrArg Prod.snd (Option.some.inj h)
        have hP := lx_newP e2.symm hP
        have hD := lx_newD e2.symm hD
        exact W.zret (v := 0) hx hb hr rfl (fun t ht hW => ⟨⟨0, (), rfl, e1, by rw [ht]; exact hP, va_K.moved hW.alike hK, hD⟩, hS.F ht⟩) hS.2.2 d_Mo_isBriefTaken_88
      · have h := lf_f h c_5
        refine lv_iconst (v := 1) hx hb d_Mo_isBriefTaken_24 (by decide) ?_
        refine lv_istore_n (lv' := [(3, .int 1), (0, .ref M.o), (1, .int y_1), (2, .int y_2)]) hx hb d_Mo_isBriefTaken_25 rfl hl (by decide) rfl (fun ls hl => ?_)
        refine lv_iconst (v := 0) hx hb d_Mo_isBriefTaken_26 (by decide) ?_
        refine lv_istore (lv' := [(4, .int 0), (3, .int 1), (0, .ref M.o), (1, .int y_1), (2, .int y_2)]) hx hb d_Mo_isBriefTaken_27 hl (by decide) rfl (fun ls hl => ?_)
        exact hB_29 _ hr_7 K y_1 y_2 1 0 S _ _ _ h hP hD hS (lv_sub hl [2, 3, 4, 1, 0] rfl)
  rw [f_Mo_isBriefTaken] at h
  refine lv_aload_n hx hb d_Mo_isBriefTaken_0 rfl (lv_at hl 0 rfl) ?_
  refine va_get (D := (dC, dI)) (ci := 12) (v := .ref M.a_firstKid) (C := R_Mo) (T := F_Mo) (N := 66) hx hb hts (fun w h => u_Mq_Mo w (i_Mo w h)) hown hK hP 0 rfl rfl 29 (by decide) (hts _ (u_Mq_Mo _ k_Mo_36)) (fun _ h9 => h9) rfl d_Mo_isBriefTaken_1 ?_
  refine lv_iload_n hx hb d_Mo_isBriefTaken_4 rfl (lv_at hl 1 rfl) ?_
  obtain ⟨g_1, h⟩ := lf_gE h
  refine va_iald hx hb hK hP 11 10 rfl rfl g_1 d_Mo_isBriefTaken_5 ?_
  refine lv_topi (fun x_2 ex_2 => ?_)
  have h := lf_lE h ex_2
  refine lv_istore_n (lv' := [(2, .int x_2), (0, .ref M.o), (1, .int p0)]) hx hb d_Mo_isBriefTaken_6 rfl hl (by decide) rfl (fun ls hl => ?_)
  exact hB_7 K p0 x_2 S _ _ _ h hP hD hS (lv_sub hl [1, 2, 0] rfl)
set_option maxHeartbeats 4000000 in
set_option maxRecDepth 100000 in
theorem l_Mo_shorten (l : Launch) (dC : Nat → ClassId) (dI : Nat → Nat → Nat) {K : Nat} {M : MA} {E : (Nat → Prop) → State → Prop} (X : lx_X l dC dI K M E) (sz : Nat) {S S' : MS} {p0 : Int32} (h : f_Mo_shorten K S p0 = some S') : Met l y_Mo_shorten (.code y_Mo_shorten b_Mo_shorten 11 none :: V_Mq) ({ frames := 9, cells := 0, slots := 0, locals := 262 }) (va_Pc [.ref M.o, .int p0] (fun U => U.heap.size = sz ∧ at_ (dC, dI) (fun _ => True) (wM M S) (tM M) U ∧ E (va_A (wM M S) sz) U)) (va_Qv (fun (u : Unit) => True) (fun (u : Unit) t => at_ (dC, dI) (va_A (wM M S) sz) (wM M S') (tM M) t) (va_A (wM M S) sz)) 0 0 (va_A (wM M S) sz) := by
  refine Met.ofW (cc := b_Mo_shorten) (maxL := 11) (ret := none) (by decide) rfl ?_
  intro p e s m args below meth c s₁ B hml hv
  obtain ⟨rfl, hsz, ⟨hP, hK, hD0⟩, hE⟩ := hv
  have hx := B.exec
  have hb := B.bytes
  have hr := B.returns
  have hts0 := atoms_spec (ws := .code y_Mo_shorten b_Mo_shorten 11 none :: V_Mq) B.pre
  have hts : ∀ w ∈ V_Mq, w.before ([.ref M.o, .int p0] : List Value).toArray s = true := fun w h => hts0 w (List.mem_cons_of_mem _ h)
  have hown : s.vm.findClass R_Mo = some m.cls := findClass_of_methodNamed B.named
  subst hsz
  have hD := hD0.self (sz := s.heap.size)
  generalize hAe : va_A (wM M S) s.heap.size = A at hD hE ⊢
  have hA : ∀ q : Nat, s.heap.size ≤ q → A q := fun q h => by rw [← hAe]; exact Or.inr h
  have hS : va_S A s.heap s.heap [] := va_S.rf
  have hP : va_P (dC, dI) classes (wM M S) s.heap := hP
  have hK : va_K (dC, dI) classes (tM M) s := hK
  have hEw : ∀ (H : Heap) (locs : List Loc), va_S A s.heap H locs → ∀ U : State, U.heap = H → s.WarmedH U.vm → E A U := fun H locs hS U hU hW => X.kept A s U H locs hE hS hU hW
  have hl := lv_entry ([.ref M.o, .int p0]) (n := 11) (Nat.le_of_ble_eq_true rfl)
  rw [lg_entry_eq]
  generalize (lg_sl ([.ref M.o, .int p0]) ++ List.replicate (11 - (lg_sl ([.ref M.o, .int p0])).length) Slot.unset).toArray = ls at hl ⊢
  have hl : lv_has ls 11 [(0, .ref M.o), (1, .int p0)] := hl
  refine qabs (fun Q hQ => ?_)
  have hB_99 : ∀ (rec_36 : Int32 → Int32 → Int32 → Int32 → Int32 → MS → Option (MS)) (hr_36 : ∀ (y_1 : Int32) (y_2 : Int32) (y_3 : Int32) (y_4 : Int32) (y_5 : Int32) (S : MS) (H : Heap) (locs : List Loc) (ls : Array Slot), rec_36 y_1 y_2 y_3 y_4 y_5 S = some S' → va_P (dC, dI) classes (wM M S) H → va_D A (wM M S) → va_S A s.heap H locs → lv_has ls 11 [(0, .ref M.o), (1, .int y_1), (2, .int y_2), (3, .int y_3), (4, .int y_4), (5, .int y_5)] → W p l e ({ frames := 9, cells := 0, slots := 0, locals := 262 }) s m ([.ref M.o, .int p0] : List Value).toArray below meth c H locs 0 0 Q (F0 m 36 ls [])), ∀ (y_1 : Int32) (y_2 : Int32) (y_3 : Int32) (y_4 : Int32) (y_5 : Int32) (S : MS) (H : Heap) (locs : List Loc) (ls : Array Slot), f_Mo_shorten_99 K rec_36 y_1 y_2 y_3 y_4 y_5 S = some S' → va_P (dC, dI) classes (wM M S) H → va_D A (wM M S) → va_S A s.heap H locs → lv_has ls 11 [(0, .ref M.o), (1, .int y_1), (2, .int y_2), (3, .int y_3), (4, .int y_4), (5, .int y_5)] → W p l e ({ frames := 9, cells := 0, slots := 0, locals := 262 }) s m ([.ref M.o, .int p0] : List Value).toArray below meth c H locs 0 0 Q (F0 m 99 ls []) := by
    intro rec_36 hr_36 y_1 y_2 y_3 y_4 y_5 S H locs ls h hP hD hS hl
    rw [f_Mo_shorten_99] at h
    obtain ⟨x_28, ex_28, h⟩ := lf_lX h
    refine lv_iinc (v := x_28) (lv' := [(5, .int x_28), (0, .ref M.o), (1, .int y_1), (2, .int y_2), (3, .int y_3), (4, .int y_4)]) hx hb d_Mo_shorten_99 hl (k := 5) rfl (by rw [ex_28]; rfl) (by decide) rfl (fun ls hl => ?_)
    refine lv_goto (tgt := 36) hx hb d_Mo_shorten_102 (by decide) ?_
    exact hr_36 y_1 y_2 y_3 y_4 x_28 S _ _ _ h hP hD hS (lv_sub hl [1, 2, 3, 4, 5, 0] rfl)
  have hB_164 : ∀ (rec_110 : Int32 → Int32 → Int32 → Int32 → Int32 → MS → Option (MS)) (hr_110 : ∀ (y_1 : Int32) (y_2 : Int32) (y_3 : Int32) (y_4 : Int32) (y_5 : Int32) (S : MS) (H : Heap) (locs : List Loc) (ls : Array Slot), rec_110 y_1 y_2 y_3 y_4 y_5 S = some S' → va_P (dC, dI) classes (wM M S) H → va_D A (wM M S) → va_S A s.heap H locs → lv_has ls 11 [(0, .ref M.o), (1, .int y_1), (2, .int y_2), (3, .int y_3), (4, .int y_4), (5, .int y_5)] → W p l e ({ frames := 9, cells := 0, slots := 0, locals := 262 }) s m ([.ref M.o, .int p0] : List Value).toArray below meth c H locs 0 0 Q (F0 m 110 ls [])), ∀ (y_1 : Int32) (y_2 : Int32) (y_3 : Int32) (y_4 : Int32) (y_5 : Int32) (S : MS) (H : Heap) (locs : List Loc) (ls : Array Slot), f_Mo_shorten_164 K rec_110 y_1 y_2 y_3 y_4 y_5 S = some S' → va_P (dC, dI) classes (wM M S) H → va_D A (wM M S) → va_S A s.heap H locs → lv_has ls 11 [(0, .ref M.o), (1, .int y_1), (2, .int y_2), (3, .int y_3), (4, .int y_4), (5, .int y_5)] → W p l e ({ frames := 9, cells := 0, slots := 0, locals := 262 }) s m ([.ref M.o, .int p0] : List Value).toArray below meth c H locs 0 0 Q (F0 m 164 ls []) := by
    intro rec_110 hr_110 y_1 y_2 y_3 y_4 y_5 S H locs ls h hP hD hS hl
    rw [f_Mo_shorten_164] at h
    obtain ⟨x_29, ex_29, h⟩ := lf_lX h
    refine lv_iinc (v := x_29) (lv' := [(5, .int x_29), (0, .ref M.o), (1, .int y_1), (2, .int y_2), (3, .int y_3), (4, .int y_4)]) hx hb d_Mo_shorten_164 hl (k := 5) rfl (by rw [ex_29]; rfl) (by decide) rfl (fun ls hl => ?_)
    refine lv_goto (tgt := 110) hx hb d_Mo_shorten_167 (by decide) ?_
    exact hr_110 y_1 y_2 y_3 y_4 x_29 S _ _ _ h hP hD hS (lv_sub hl [1, 2, 3, 4, 5, 0] rfl)
  have hB_307 : ∀ (rec_176 : Int32 → Int32 → Int32 → Int32 → Int32 → MS → Option (MS)) (hr_176 : ∀ (y_1 : Int32) (y_3 : Int32) (y_4 : Int32) (y_5 : Int32) (y_6 : Int32) (S : MS) (H : Heap) (locs : List Loc) (ls : Array Slot), rec_176 y_1 y_3 y_4 y_5 y_6 S = some S' → va_P (dC, dI) classes (wM M S) H → va_D A (wM M S) → va_S A s.heap H locs → lv_has ls 11 [(0, .ref M.o), (1, .int y_1), (3, .int y_3), (4, .int y_4), (5, .int y_5), (6, .int y_6)] → W p l e ({ frames := 9, cells := 0, slots := 0, locals := 262 }) s m ([.ref M.o, .int p0] : List Value).toArray below meth c H locs 0 0 Q (F0 m 176 ls [])) (rec_233 : Int32 → Int32 → Int32 → Int32 → Int32 → Int32 → Int32 → Int32 → MS → Option (MS)) (hr_233 : ∀ (y_1 : Int32) (y_3 : Int32) (y_4 : Int32) (y_6 : Int32) (y_7 : Int32) (y_8 : Int32) (y_9 : Int32) (y_10 : Int32) (S : MS) (H : Heap) (locs : List Loc) (ls : Array Slot), rec_233 y_1 y_3 y_4 y_6 y_7 y_8 y_9 y_10 S = some S' → va_P (dC, dI) classes (wM M S) H → va_D A (wM M S) → va_S A s.heap H locs → lv_has ls 11 [(0, .ref M.o), (1, .int y_1), (3, .int y_3), (4, .int y_4), (6, .int y_6), (7, .int y_7), (8, .int y_8), (9, .int y_9), (10, .int y_10)] → W p l e ({ frames := 9, cells := 0, slots := 0, locals := 262 }) s m ([.ref M.o, .int p0] : List Value).toArray below meth c H locs 0 0 Q (F0 m 233 ls [])), ∀ (y_1 : Int32) (y_3 : Int32) (y_4 : Int32) (y_6 : Int32) (y_7 : Int32) (y_8 : Int32) (y_9 : Int32) (y_10 : Int32) (z_1 : Int32) (z_2 : Int32) (S : MS) (H : Heap) (locs : List Loc) (ls : Array Slot), f_Mo_shorten_307 K rec_176 rec_233 y_1 y_3 y_4 y_6 y_7 y_8 y_9 y_10 z_1 z_2 S = some S' → va_P (dC, dI) classes (wM M S) H → va_D A (wM M S) → va_S A s.heap H locs → lv_has ls 11 [(0, .ref M.o), (1, .int y_1), (3, .int y_3), (4, .int y_4), (6, .int y_6), (7, .int y_7), (8, .int y_8), (9, .int y_9), (10, .int y_10)] → W p l e ({ frames := 9, cells := 0, slots := 0, locals := 262 }) s m ([.ref M.o, .int p0] : List Value).toArray below meth c H locs 0 0 Q (F0 m 307 ls [.int z_2, .int z_1, .ref M.a_brief]) := by
    intro rec_176 hr_176 rec_233 hr_233 y_1 y_3 y_4 y_6 y_7 y_8 y_9 y_10 z_1 z_2 S H locs ls h hP hD hS hl
    rw [f_Mo_shorten_307] at h
    obtain ⟨g_51, h⟩ := lf_gE h
    refine va_iast hx hb hK hP hD hS 18 17 rfl rfl g_51 d_Mo_shorten_307 (fun H locs hP hD hS => ?_)
    obtain ⟨S_52, eS_52, h⟩ := lf_lX h
    have hP := lx_newP eS_52 hP
    have hD := lx_newD eS_52 hD
    obtain ⟨x_53, ex_53, h⟩ := lf_lX h
    refine lv_iinc (v := x_53) (lv' := [(10, .int x_53), (0, .ref M.o), (1, .int y_1), (3, .int y_3), (4, .int y_4), (6, .int y_6), (7, .int y_7), (8, .int y_8), (9, .int y_9)]) hx hb d_Mo_shorten_308 hl (k := 8) rfl (by rw [ex_53]; rfl) (by decide) rfl (fun ls hl => ?_)
    refine lv_goto (tgt := 233) hx hb d_Mo_shorten_311 (by decide) ?_
    exact hr_233 y_1 y_3 y_4 y_6 y_7 y_8 y_9 x_53 S_52 _ _ _ h hP hD hS (lv_sub hl [1, 2, 3, 4, 5, 6, 7, 8, 0] rfl)
  have hB_305 : ∀ (rec_176 : Int32 → Int32 → Int32 → Int32 → Int32 → MS → Option (MS)) (hr_176 : ∀ (y_1 : Int32) (y_3 : Int32) (y_4 : Int32) (y_5 : Int32) (y_6 : Int32) (S : MS) (H : Heap) (locs : List Loc) (ls : Array Slot), rec_176 y_1 y_3 y_4 y_5 y_6 S = some S' → va_P (dC, dI) classes (wM M S) H → va_D A (wM M S) → va_S A s.heap H locs → lv_has ls 11 [(0, .ref M.o), (1, .int y_1), (3, .int y_3), (4, .int y_4), (5, .int y_5), (6, .int y_6)] → W p l e ({ frames := 9, cells := 0, slots := 0, locals := 262 }) s m ([.ref M.o, .int p0] : List Value).toArray below meth c H locs 0 0 Q (F0 m 176 ls [])) (rec_233 : Int32 → Int32 → Int32 → Int32 → Int32 → Int32 → Int32 → Int32 → MS → Option (MS)) (hr_233 : ∀ (y_1 : Int32) (y_3 : Int32) (y_4 : Int32) (y_6 : Int32) (y_7 : Int32) (y_8 : Int32) (y_9 : Int32) (y_10 : Int32) (S : MS) (H : Heap) (locs : List Loc) (ls : Array Slot), rec_233 y_1 y_3 y_4 y_6 y_7 y_8 y_9 y_10 S = some S' → va_P (dC, dI) classes (wM M S) H → va_D A (wM M S) → va_S A s.heap H locs → lv_has ls 11 [(0, .ref M.o), (1, .int y_1), (3, .int y_3), (4, .int y_4), (6, .int y_6), (7, .int y_7), (8, .int y_8), (9, .int y_9), (10, .int y_10)] → W p l e ({ frames := 9, cells := 0, slots := 0, locals := 262 }) s m ([.ref M.o, .int p0] : List Value).toArray below meth c H locs 0 0 Q (F0 m 233 ls [])), ∀ (y_1 : Int32) (y_3 : Int32) (y_4 : Int32) (y_6 : Int32) (y_7 : Int32) (y_8 : Int32) (y_9 : Int32) (y_10 : Int32) (z_1 : Int32) (S : MS) (H : Heap) (locs : List Loc) (ls : Array Slot), f_Mo_shorten_305 K rec_176 rec_233 y_1 y_3 y_4 y_6 y_7 y_8 y_9 y_10 z_1 S = some S' → va_P (dC, dI) classes (wM M S) H → va_D A (wM M S) → va_S A s.heap H locs → lv_has ls 11 [(0, .ref M.o), (1, .int y_1), (3, .int y_3), (4, .int y_4), (6, .int y_6), (7, .int y_7), (8, .int y_8), (9, .int y_9), (10, .int y_10)] → W p l e ({ frames := 9, cells := 0, slots := 0, locals := 262 }) s m ([.ref M.o, .int p0] : List Value).toArray below meth c H locs 0 0 Q (F0 m 305 ls [.int z_1, .ref M.a_brief]) := by
    intro rec_176 hr_176 rec_233 hr_233 y_1 y_3 y_4 y_6 y_7 y_8 y_9 y_10 z_1 S H locs ls h hP hD hS hl
    rw [f_Mo_shorten_305] at h
    refine lv_bipush (v := 32) hx hb d_Mo_shorten_305 (by decide) ?_
    exact hB_307 _ hr_176 _ hr_233 y_1 y_3 y_4 y_6 y_7 y_8 y_9 y_10 z_1 32 S _ _ _ h hP hD hS (lv_sub hl [0, 1, 2, 3, 4, 5, 6, 7, 8] rfl)
  have hB_317 : ∀ (rec_176 : Int32 → Int32 → Int32 → Int32 → Int32 → MS → Option (MS)) (hr_176 : ∀ (y_1 : Int32) (y_3 : Int32) (y_4 : Int32) (y_5 : Int32) (y_6 : Int32) (S : MS) (H : Heap) (locs : List Loc) (ls : Array Slot), rec_176 y_1 y_3 y_4 y_5 y_6 S = some S' → va_P (dC, dI) classes (wM M S) H → va_D A (wM M S) → va_S A s.heap H locs → lv_has ls 11 [(0, .ref M.o), (1, .int y_1), (3, .int y_3), (4, .int y_4), (5, .int y_5), (6, .int y_6)] → W p l e ({ frames := 9, cells := 0, slots := 0, locals := 262 }) s m ([.ref M.o, .int p0] : List Value).toArray below meth c H locs 0 0 Q (F0 m 176 ls [])) (k : Nat), ∀ (y_1 : Int32) (y_3 : Int32) (y_4 : Int32) (y_6 : Int32) (y_7 : Int32) (y_8 : Int32) (y_9 : Int32) (y_10 : Int32) (S : MS) (H : Heap) (locs : List Loc) (ls : Array Slot), f_Mo_shorten_317 K rec_176 k y_1 y_3 y_4 y_6 y_7 y_8 y_9 y_10 S = some S' → va_P (dC, dI) classes (wM M S) H → va_D A (wM M S) → va_S A s.heap H locs → lv_has ls 11 [(0, .ref M.o), (1, .int y_1), (3, .int y_3), (4, .int y_4), (6, .int y_6), (7, .int y_7), (8, .int y_8), (9, .int y_9), (10, .int y_10)] → W p l e ({ frames := 9, cells := 0, slots := 0, locals := 262 }) s m ([.ref M.o, .int p0] : List Value).toArray below meth c H locs 0 0 Q (F0 m 317 ls []) := by
    intro rec_176 hr_176 k
    induction k with
    | zero => intro y_1 y_3 y_4 y_6 y_7 y_8 y_9 y_10 S H locs ls h; exact lf_no h
    | succ k hr_317 =>
      intro y_1 y_3 y_4 y_6 y_7 y_8 y_9 y_10 S H locs ls h hP hD hS hl
      rw [f_Mo_shorten_317] at h
      refine lv_iload hx hb d_Mo_shorten_317 (lv_at hl 8 rfl) ?_
      refine lv_iload hx hb d_Mo_shorten_319 (lv_at hl 5 rfl) ?_
      refine lv_icmp_ge (tgt := 360) hx hb d_Mo_shorten_321 (by decide) (fun c_43 => ?_) (fun c_43 => ?_)
      · have h := lf_t h c_43
        refine lv_aload_n hx hb d_Mo_shorten_360 rfl (lv_at hl 0 rfl) ?_
        refine lv_iload_n hx hb d_Mo_shorten_361 rfl (lv_at hl 1 rfl) ?_
        obtain ⟨r_44, S_44, hc_44, h⟩ := lf_cE h
        have hFc := lx_free hD hS hA
        refine va_calli (va_runV (As := [.int y_1]) (rest := []) ⟨hx, hb, hml, hown, hts⟩ (l_Mo_isBriefTaken l dC dI X _ hc_44) (cwV 1 hts (gwV good_Mq (u_Mq_Mo _ k_Mo_316) (u_Mq_Mo _ k_Mo_317) (u_Mq_Mo _ k_Mo_520) (u_Mq_Mo _ k_Mo_0) (wcs (u_Mq_Mo _ k_Mo_318) (fun _ h => h))) rfl rfl rfl (by decide +kernel) ⟨Nat.le_of_ble_eq_true rfl, Nat.le_of_ble_eq_true rfl⟩) (pv_ofE (X.same _) (fun U z1 z2 => X.mono _ _ U hFc (hEw _ _ hS U z1 z2)) hP hK hD (va_recv hK hP (ci := 12) (q0 := 0) rfl rfl)) rfl rfl hl.1 rfl (lv_room (Nat.le_of_ble_eq_true rfl)) d_Mo_shorten_362 ⟨by decide, by decide⟩) hS (fun q _ h => hFc q h) hFc (fun r_ u t H locs ht hvm hw hB hz1 hk1 hS => ?_)
        rw [hw]
        obtain ⟨hP, -, hD⟩ := hB
        rw [ht] at hP
        have hD := lx_dj hD hFc
        refine lv_istore (lv' := [(5, .int r_44), (0, .ref M.o), (1, .int y_1), (3, .int y_3), (4, .int y_4), (6, .int y_6), (7, .int y_7), (8, .int y_8), (9, .int y_9), (10, .int y_10)]) hx hb d_Mo_shorten_365 hl (by decide) rfl (fun ls hl => ?_)
        obtain ⟨x_45, ex_45, h⟩ := lf_lX h
        refine lv_iinc (v := x_45) (lv' := [(6, .int x_45), (5, .int r_44), (0, .ref M.o), (1, .int y_1), (3, .int y_3), (4, .int y_4), (7, .int y_7), (8, .int y_8), (9, .int y_9), (10, .int y_10)]) hx hb d_Mo_shorten_367 hl (k := 5) rfl (by rw [ex_45]; rfl) (by decide) rfl (fun ls hl => ?_)
        refine lv_goto (tgt := 176) hx hb d_Mo_shorten_370 (by decide) ?_
        exact hr_176 y_1 y_3 y_4 r_44 x_45 S_44 _ _ _ h hP hD hS (lv_sub hl [2, 3, 4, 5, 1, 0] rfl)
      · have h := lf_f h c_43
        refine lv_aload_n hx hb d_Mo_shorten_324 rfl (lv_at hl 0 rfl) ?_
        refine va_get (D := (dC, dI)) (ci := 12) (v := .ref M.a_brief) (C := R_Mo) (T := F_Mo) (N := 66) hx hb hts (fun w h => u_Mq_Mo w (i_Mo w h)) hown hK hP 0 rfl rfl 43 (by decide) (hts _ (u_Mq_Mo _ k_Mo_50)) (fun _ h9 => h9) rfl d_Mo_shorten_325 ?_
        refine lv_iload hx hb d_Mo_shorten_328 (lv_at hl 7 rfl) ?_
        refine lv_iconst (v := 1) hx hb d_Mo_shorten_330 (by decide) ?_
        refine lv_iadd hx hb d_Mo_shorten_331 ?_
        refine lv_iload hx hb d_Mo_shorten_332 (lv_at hl 8 rfl) ?_
        refine lv_iadd hx hb d_Mo_shorten_334 ?_
        refine lv_bipush (v := 48) hx hb d_Mo_shorten_335 (by decide) ?_
        refine lv_iload hx hb d_Mo_shorten_337 (lv_at hl 4 rfl) ?_
        refine lv_iload hx hb d_Mo_shorten_339 (lv_at hl 6 rfl) ?_
        obtain ⟨g_46, h⟩ := lf_gE h
        refine lv_idiv hx hb d_Mo_shorten_341 g_46 ?_
        refine lv_bipush (v := 10) hx hb d_Mo_shorten_342 (by decide) ?_
        refine lv_irem hx hb d_Mo_shorten_344 (by decide) ?_
        refine lv_iadd hx hb d_Mo_shorten_345 ?_
        obtain ⟨g_47, h⟩ := lf_gE h
        refine va_iast hx hb hK hP hD hS 18 17 rfl rfl g_47 d_Mo_shorten_346 (fun H locs hP hD hS => ?_)
        obtain ⟨S_48, eS_48, h⟩ := lf_lX h
        have hP := lx_newP eS_48 hP
        have hD := lx_newD eS_48 hD
        refine lv_iload hx hb d_Mo_shorten_347 (lv_at hl 6 rfl) ?_
        refine lv_bipush (v := 10) hx hb d_Mo_shorten_349 (by decide) ?_
        refine lv_idiv hx hb d_Mo_shorten_351 (by decide) ?_
        refine lv_topi (fun x_49 ex_49 => ?_)
        have h := lf_lE h ex_49
        refine lv_istore (lv' := [(8, .int x_49), (0, .ref M.o), (1, .int y_1), (3, .int y_3), (4, .int y_4), (6, .int y_6), (7, .int y_7), (9, .int y_9), (10, .int y_10)]) hx hb d_Mo_shorten_352 hl (by decide) rfl (fun ls hl => ?_)
        obtain ⟨x_50, ex_50, h⟩ := lf_lX h
        refine lv_iinc (v := x_50) (lv' := [(10, .int x_50), (8, .int x_49), (0, .ref M.o), (1, .int y_1), (3, .int y_3), (4, .int y_4), (6, .int y_6), (7, .int y_7), (9, .int y_9)]) hx hb d_Mo_shorten_354 hl (k := 8) rfl (by rw [ex_50]; rfl) (by decide) rfl (fun ls hl => ?_)
        refine lv_goto (tgt := 317) hx hb d_Mo_shorten_357 (by decide) ?_
        exact hr_317 y_1 y_3 y_4 y_6 y_7 x_49 y_9 x_50 S_48 _ _ _ h hP hD hS (lv_sub hl [2, 3, 4, 5, 6, 7, 1, 8, 0] rfl)
  have hB_233 : ∀ (rec_176 : Int32 → Int32 → Int32 → Int32 → Int32 → MS → Option (MS)) (hr_176 : ∀ (y_1 : Int32) (y_3 : Int32) (y_4 : Int32) (y_5 : Int32) (y_6 : Int32) (S : MS) (H : Heap) (locs : List Loc) (ls : Array Slot), rec_176 y_1 y_3 y_4 y_5 y_6 S = some S' → va_P (dC, dI) classes (wM M S) H → va_D A (wM M S) → va_S A s.heap H locs → lv_has ls 11 [(0, .ref M.o), (1, .int y_1), (3, .int y_3), (4, .int y_4), (5, .int y_5), (6, .int y_6)] → W p l e ({ frames := 9, cells := 0, slots := 0, locals := 262 }) s m ([.ref M.o, .int p0] : List Value).toArray below meth c H locs 0 0 Q (F0 m 176 ls [])) (k : Nat), ∀ (y_1 : Int32) (y_3 : Int32) (y_4 : Int32) (y_6 : Int32) (y_7 : Int32) (y_8 : Int32) (y_9 : Int32) (y_10 : Int32) (S : MS) (H : Heap) (locs : List Loc) (ls : Array Slot), f_Mo_shorten_233 K rec_176 k y_1 y_3 y_4 y_6 y_7 y_8 y_9 y_10 S = some S' → va_P (dC, dI) classes (wM M S) H → va_D A (wM M S) → va_S A s.heap H locs → lv_has ls 11 [(0, .ref M.o), (1, .int y_1), (3, .int y_3), (4, .int y_4), (6, .int y_6), (7, .int y_7), (8, .int y_8), (9, .int y_9), (10, .int y_10)] → W p l e ({ frames := 9, cells := 0, slots := 0, locals := 262 }) s m ([.ref M.o, .int p0] : List Value).toArray below meth c H locs 0 0 Q (F0 m 233 ls []) := by
    intro rec_176 hr_176 k
    induction k with
    | zero => intro y_1 y_3 y_4 y_6 y_7 y_8 y_9 y_10 S H locs ls h; exact lf_no h
    | succ k hr_233 =>
      intro y_1 y_3 y_4 y_6 y_7 y_8 y_9 y_10 S H locs ls h hP hD hS hl
      rw [f_Mo_shorten_233] at h
      refine lv_iload hx hb d_Mo_shorten_233 (lv_at hl 8 rfl) ?_
      refine lv_bipush (v := 11) hx hb d_Mo_shorten_235 (by decide) ?_
      refine lv_icmp_ge (tgt := 314) hx hb d_Mo_shorten_237 (by decide) (fun c_36 => ?_) (fun c_36 => ?_)
      · have h := lf_t h c_36
        refine lv_iconst (v := 0) hx hb d_Mo_shorten_314 (by decide) ?_
        refine lv_istore (lv' := [(10, .int 0), (0, .ref M.o), (1, .int y_1), (3, .int y_3), (4, .int y_4), (6, .int y_6), (7, .int y_7), (8, .int y_8), (9, .int y_9)]) hx hb d_Mo_shorten_315 hl (by decide) rfl (fun ls hl => ?_)
        exact hB_317 _ hr_176 K y_1 y_3 y_4 y_6 y_7 y_8 y_9 0 S _ _ _ h hP hD hS (lv_sub hl [1, 2, 3, 4, 5, 6, 7, 8, 0] rfl)
      · have h := lf_f h c_36
        refine lv_aload_n hx hb d_Mo_shorten_240 rfl (lv_at hl 0 rfl) ?_
        refine va_get (D := (dC, dI)) (ci := 12) (v := .ref M.a_brief) (C := R_Mo) (T := F_Mo) (N := 66) hx hb hts (fun w h => u_Mq_Mo w (i_Mo w h)) hown hK hP 0 rfl rfl 43 (by decide) (hts _ (u_Mq_Mo _ k_Mo_50)) (fun _ h9 => h9) rfl d_Mo_shorten_241 ?_
        refine lv_iload hx hb d_Mo_shorten_244 (lv_at hl 8 rfl) ?_
        refine lv_iload hx hb d_Mo_shorten_246 (lv_at hl 8 rfl) ?_
        refine lv_iload hx hb d_Mo_shorten_248 (lv_at hl 7 rfl) ?_
        refine lv_icmp_ge (tgt := 263) hx hb d_Mo_shorten_250 (by decide) (fun c_37 => ?_) (fun c_37 => ?_)
        · have h := lf_t h c_37
          refine lv_iload hx hb d_Mo_shorten_263 (lv_at hl 8 rfl) ?_
          refine lv_iload hx hb d_Mo_shorten_265 (lv_at hl 7 rfl) ?_
          refine lv_icmp_ne (tgt := 275) hx hb d_Mo_shorten_267 (by decide) (fun c_38 => ?_) (fun c_38 => ?_)
          · have h := lf_f h c_38
            refine lv_iload hx hb d_Mo_shorten_275 (lv_at hl 8 rfl) ?_
            refine lv_bipush (v := 7) hx hb d_Mo_shorten_277 (by decide) ?_
            refine lv_icmp_le (tgt := 305) hx hb d_Mo_shorten_279 (by decide) (fun c_39 => ?_) (fun c_39 => ?_)
            · have h := lf_t h c_39
              exact hB_305 _ hr_176 _ hr_233 y_1 y_3 y_4 y_6 y_7 y_8 y_9 y_10 y_10 S _ _ _ h hP hD hS (lv_sub hl [0, 1, 2, 3, 4, 5, 6, 7, 8] rfl)
            · have h := lf_f h c_39
              refine lv_iload hx hb d_Mo_shorten_282 (lv_at hl 8 rfl) ?_
              refine lv_bipush (v := 8) hx hb d_Mo_shorten_284 (by decide) ?_
              refine lv_isub hx hb d_Mo_shorten_286 ?_
              refine lv_iload hx hb d_Mo_shorten_287 (lv_at hl 3 rfl) ?_
              refine lv_icmp_ge (tgt := 305) hx hb d_Mo_shorten_289 (by decide) (fun c_40 => ?_) (fun c_40 => ?_)
              · have h := lf_t h c_40
                exact hB_305 _ hr_176 _ hr_233 y_1 y_3 y_4 y_6 y_7 y_8 y_9 y_10 y_10 S _ _ _ h hP hD hS (lv_sub hl [0, 1, 2, 3, 4, 5, 6, 7, 8] rfl)
              · have h := lf_f h c_40
                refine lv_aload_n hx hb d_Mo_shorten_292 rfl (lv_at hl 0 rfl) ?_
                refine va_get (D := (dC, dI)) (ci := 12) (v := .ref M.a_tail) (C := R_Mo) (T := F_Mo) (N := 66) hx hb hts (fun w h => u_Mq_Mo w (i_Mo w h)) hown hK hP 0 rfl rfl 45 (by decide) (hts _ (u_Mq_Mo _ k_Mo_52)) (fun _ h9 => h9) rfl d_Mo_shorten_293 ?_
                refine lv_iload hx hb d_Mo_shorten_296 (lv_at hl 8 rfl) ?_
                refine lv_bipush (v := 8) hx hb d_Mo_shorten_298 (by decide) ?_
                refine lv_isub hx hb d_Mo_shorten_300 ?_
                obtain ⟨g_41, h⟩ := lf_gE h
                refine va_iald hx hb hK hP 20 19 rfl rfl g_41 d_Mo_shorten_301 ?_
                refine lv_goto (tgt := 307) hx hb d_Mo_shorten_302 (by decide) ?_
                exact hB_307 _ hr_176 _ hr_233 y_1 y_3 y_4 y_6 y_7 y_8 y_9 y_10 y_10 (S.v_tail (y_10 - 8).toNatClampNeg) S _ _ _ h hP hD hS (lv_sub hl [0, 1, 2, 3, 4, 5, 6, 7, 8] rfl)
          · have h := lf_t h c_38
            refine lv_bipush (v := 126) hx hb d_Mo_shorten_270 (by decide) ?_
            refine lv_goto (tgt := 307) hx hb d_Mo_shorten_272 (by decide) ?_
            exact hB_307 _ hr_176 _ hr_233 y_1 y_3 y_4 y_6 y_7 y_8 y_9 y_10 y_10 126 S _ _ _ h hP hD hS (lv_sub hl [0, 1, 2, 3, 4, 5, 6, 7, 8] rfl)
        · have h := lf_f h c_37
          refine lv_aload_n hx hb d_Mo_shorten_253 rfl (lv_at hl 0 rfl) ?_
          refine va_get (D := (dC, dI)) (ci := 12) (v := .ref M.a_stem) (C := R_Mo) (T := F_Mo) (N := 66) hx hb hts (fun w h => u_Mq_Mo w (i_Mo w h)) hown hK hP 0 rfl rfl 44 (by decide) (hts _ (u_Mq_Mo _ k_Mo_51)) (fun _ h9 => h9) rfl d_Mo_shorten_254 ?_
          refine lv_iload hx hb d_Mo_shorten_257 (lv_at hl 8 rfl) ?_
          obtain ⟨g_42, h⟩ := lf_gE h
          refine va_iald hx hb hK hP 19 18 rfl rfl g_42 d_Mo_shorten_259 ?_
          refine lv_goto (tgt := 307) hx hb d_Mo_shorten_260 (by decide) ?_
          exact hB_307 _ hr_176 _ hr_233 y_1 y_3 y_4 y_6 y_7 y_8 y_9 y_10 y_10 (S.v_stem y_10.toNatClampNeg) S _ _ _ h hP hD hS (lv_sub hl [0, 1, 2, 3, 4, 5, 6, 7, 8] rfl)
  have hB_228 : ∀ (rec_176 : Int32 → Int32 → Int32 → Int32 → Int32 → MS → Option (MS)) (hr_176 : ∀ (y_1 : Int32) (y_3 : Int32) (y_4 : Int32) (y_5 : Int32) (y_6 : Int32) (S : MS) (H : Heap) (locs : List Loc) (ls : Array Slot), rec_176 y_1 y_3 y_4 y_5 y_6 S = some S' → va_P (dC, dI) classes (wM M S) H → va_D A (wM M S) → va_S A s.heap H locs → lv_has ls 11 [(0, .ref M.o), (1, .int y_1), (3, .int y_3), (4, .int y_4), (5, .int y_5), (6, .int y_6)] → W p l e ({ frames := 9, cells := 0, slots := 0, locals := 262 }) s m ([.ref M.o, .int p0] : List Value).toArray below meth c H locs 0 0 Q (F0 m 176 ls [])), ∀ (y_1 : Int32) (y_3 : Int32) (y_4 : Int32) (y_6 : Int32) (y_7 : Int32) (y_8 : Int32) (z_0 : Int32) (S : MS) (H : Heap) (locs : List Loc) (ls : Array Slot), f_Mo_shorten_228 K rec_176 y_1 y_3 y_4 y_6 y_7 y_8 z_0 S = some S' → va_P (dC, dI) classes (wM M S) H → va_D A (wM M S) → va_S A s.heap H locs → lv_has ls 11 [(0, .ref M.o), (1, .int y_1), (3, .int y_3), (4, .int y_4), (6, .int y_6), (7, .int y_7), (8, .int y_8)] → W p l e ({ frames := 9, cells := 0, slots := 0, locals := 262 }) s m ([.ref M.o, .int p0] : List Value).toArray below meth c H locs 0 0 Q (F0 m 228 ls [.int z_0]) := by
    intro rec_176 hr_176 y_1 y_3 y_4 y_6 y_7 y_8 z_0 S H locs ls h hP hD hS hl
    rw [f_Mo_shorten_228] at h
    refine lv_istore (lv' := [(9, .int z_0), (0, .ref M.o), (1, .int y_1), (3, .int y_3), (4, .int y_4), (6, .int y_6), (7, .int y_7), (8, .int y_8)]) hx hb d_Mo_shorten_228 hl (by decide) rfl (fun ls hl => ?_)
    refine lv_iconst (v := 0) hx hb d_Mo_shorten_230 (by decide) ?_
    refine lv_istore (lv' := [(10, .int 0), (9, .int z_0), (0, .ref M.o), (1, .int y_1), (3, .int y_3), (4, .int y_4), (6, .int y_6), (7, .int y_7), (8, .int y_8)]) hx hb d_Mo_shorten_231 hl (by decide) rfl (fun ls hl => ?_)
    exact hB_233 _ hr_176 K y_1 y_3 y_4 y_6 y_7 y_8 z_0 0 S _ _ _ h hP hD hS (lv_sub hl [2, 3, 4, 5, 6, 7, 8, 1, 0] rfl)
  have hB_187 : ∀ (rec_176 : Int32 → Int32 → Int32 → Int32 → Int32 → MS → Option (MS)) (hr_176 : ∀ (y_1 : Int32) (y_3 : Int32) (y_4 : Int32) (y_5 : Int32) (y_6 : Int32) (S : MS) (H : Heap) (locs : List Loc) (ls : Array Slot), rec_176 y_1 y_3 y_4 y_5 y_6 S = some S' → va_P (dC, dI) classes (wM M S) H → va_D A (wM M S) → va_S A s.heap H locs → lv_has ls 11 [(0, .ref M.o), (1, .int y_1), (3, .int y_3), (4, .int y_4), (5, .int y_5), (6, .int y_6)] → W p l e ({ frames := 9, cells := 0, slots := 0, locals := 262 }) s m ([.ref M.o, .int p0] : List Value).toArray below meth c H locs 0 0 Q (F0 m 176 ls [])) (k : Nat), ∀ (y_1 : Int32) (y_3 : Int32) (y_4 : Int32) (y_6 : Int32) (y_7 : Int32) (y_8 : Int32) (S : MS) (H : Heap) (locs : List Loc) (ls : Array Slot), f_Mo_shorten_187 K rec_176 k y_1 y_3 y_4 y_6 y_7 y_8 S = some S' → va_P (dC, dI) classes (wM M S) H → va_D A (wM M S) → va_S A s.heap H locs → lv_has ls 11 [(0, .ref M.o), (1, .int y_1), (3, .int y_3), (4, .int y_4), (6, .int y_6), (7, .int y_7), (8, .int y_8)] → W p l e ({ frames := 9, cells := 0, slots := 0, locals := 262 }) s m ([.ref M.o, .int p0] : List Value).toArray below meth c H locs 0 0 Q (F0 m 187 ls []) := by
    intro rec_176 hr_176 k
    induction k with
    | zero => intro y_1 y_3 y_4 y_6 y_7 y_8 S H locs ls h; exact lf_no h
    | succ k hr_187 =>
      intro y_1 y_3 y_4 y_6 y_7 y_8 S H locs ls h hP hD hS hl
      rw [f_Mo_shorten_187] at h
      refine lv_iload hx hb d_Mo_shorten_187 (lv_at hl 4 rfl) ?_
      refine lv_iload hx hb d_Mo_shorten_189 (lv_at hl 6 rfl) ?_
      obtain ⟨g_31, h⟩ := lf_gE h
      refine lv_idiv hx hb d_Mo_shorten_191 g_31 ?_
      refine lv_bipush (v := 9) hx hb d_Mo_shorten_192 (by decide) ?_
      refine lv_icmp_le (tgt := 210) hx hb d_Mo_shorten_194 (by decide) (fun c_32 => ?_) (fun c_32 => ?_)
      · have h := lf_t h c_32
        refine lv_iload_n hx hb d_Mo_shorten_210 rfl (lv_at hl 2 rfl) ?_
        refine lv_bipush (v := 7) hx hb d_Mo_shorten_211 (by decide) ?_
        refine lv_iload hx hb d_Mo_shorten_213 (lv_at hl 5 rfl) ?_
        refine lv_isub hx hb d_Mo_shorten_215 ?_
        refine lv_icmp_ge (tgt := 223) hx hb d_Mo_shorten_216 (by decide) (fun c_33 => ?_) (fun c_33 => ?_)
        · have h := lf_t h c_33
          refine lv_bipush (v := 7) hx hb d_Mo_shorten_223 (by decide) ?_
          refine lv_iload hx hb d_Mo_shorten_225 (lv_at hl 5 rfl) ?_
          refine lv_isub hx hb d_Mo_shorten_227 ?_
          exact hB_228 _ hr_176 y_1 y_3 y_4 y_6 y_7 y_8 (7 - y_7) S _ _ _ h hP hD hS (lv_sub hl [0, 1, 2, 3, 4, 5, 6] rfl)
        · have h := lf_f h c_33
          refine lv_iload_n hx hb d_Mo_shorten_219 rfl (lv_at hl 2 rfl) ?_
          refine lv_goto (tgt := 228) hx hb d_Mo_shorten_220 (by decide) ?_
          exact hB_228 _ hr_176 y_1 y_3 y_4 y_6 y_7 y_8 y_3 S _ _ _ h hP hD hS (lv_sub hl [0, 1, 2, 3, 4, 5, 6] rfl)
      · have h := lf_f h c_32
        refine lv_iload hx hb d_Mo_shorten_197 (lv_at hl 6 rfl) ?_
        refine lv_bipush (v := 10) hx hb d_Mo_shorten_199 (by decide) ?_
        refine lv_imul hx hb d_Mo_shorten_201 ?_
        refine lv_topi (fun x_34 ex_34 => ?_)
        have h := lf_lE h ex_34
        refine lv_istore (lv' := [(8, .int x_34), (0, .ref M.o), (1, .int y_1), (3, .int y_3), (4, .int y_4), (6, .int y_6), (7, .int y_7)]) hx hb d_Mo_shorten_202 hl (by decide) rfl (fun ls hl => ?_)
        obtain ⟨x_35, ex_35, h⟩ := lf_lX h
        refine lv_iinc (v := x_35) (lv' := [(7, .int x_35), (8, .int x_34), (0, .ref M.o), (1, .int y_1), (3, .int y_3), (4, .int y_4), (6, .int y_6)]) hx hb d_Mo_shorten_204 hl (k := 6) rfl (by rw [ex_35]; rfl) (by decide) rfl (fun ls hl => ?_)
        refine lv_goto (tgt := 187) hx hb d_Mo_shorten_207 (by decide) ?_
        exact hr_187 y_1 y_3 y_4 y_6 x_35 x_34 S _ _ _ h hP hD hS (lv_sub hl [2, 3, 4, 5, 6, 0, 1] rfl)
  have hB_176 : ∀ (k : Nat), ∀ (y_1 : Int32) (y_3 : Int32) (y_4 : Int32) (y_5 : Int32) (y_6 : Int32) (S : MS) (H : Heap) (locs : List Loc) (ls : Array Slot), f_Mo_shorten_176 K k y_1 y_3 y_4 y_5 y_6 S = some S' → va_P (dC, dI) classes (wM M S) H → va_D A (wM M S) → va_S A s.heap H locs → lv_has ls 11 [(0, .ref M.o), (1, .int y_1), (3, .int y_3), (4, .int y_4), (5, .int y_5), (6, .int y_6)] → W p l e ({ frames := 9, cells := 0, slots := 0, locals := 262 }) s m ([.ref M.o, .int p0] : List Value).toArray below meth c H locs 0 0 Q (F0 m 176 ls []) := by
    intro k
    induction k with
    | zero => intro y_1 y_3 y_4 y_5 y_6 S H locs ls h; exact lf_no h
    | succ k hr_176 =>
      intro y_1 y_3 y_4 y_5 y_6 S H locs ls h hP hD hS hl
      rw [f_Mo_shorten_176] at h
      refine lv_iload hx hb d_Mo_shorten_176 (lv_at hl 4 rfl) ?_
      refine lv_if_eq (tgt := 373) hx hb d_Mo_shorten_178 (by decide) (fun c_30 => ?_) (fun c_30 => ?_)
      · have h := lf_t h c_30
        rw [hQ]
        have e2 : S = S' := Option.some.inj h
        have hP := lx_newP e2.symm hP
        have hD := lx_newD e2.symm hD
        exact W.vret hx hb hr (fun t ht hW => ⟨⟨(), rfl, trivial, by rw [ht]; exact hP, va_K.moved hW.alike hK, hD⟩, hS.F ht⟩) hS.2.2 d_Mo_shorten_373
      · have h := lf_f h c_30
        refine lv_iconst (v := 1) hx hb d_Mo_shorten_181 (by decide) ?_
        refine lv_istore (lv' := [(7, .int 1), (0, .ref M.o), (1, .int y_1), (3, .int y_3), (4, .int y_4), (5, .int y_5), (6, .int y_6)]) hx hb d_Mo_shorten_182 hl (by decide) rfl (fun ls hl => ?_)
        refine lv_iconst (v := 1) hx hb d_Mo_shorten_184 (by decide) ?_
        refine lv_istore (lv' := [(8, .int 1), (7, .int 1), (0, .ref M.o), (1, .int y_1), (3, .int y_3), (4, .int y_4), (5, .int y_5), (6, .int y_6)]) hx hb d_Mo_shorten_185 hl (by decide) rfl (fun ls hl => ?_)
        exact hB_187 _ hr_176 K y_1 y_3 y_4 y_6 1 1 S _ _ _ h hP hD hS (lv_sub hl [2, 3, 4, 5, 7, 1, 0] rfl)
  have hB_170 : ∀ (y_1 : Int32) (y_3 : Int32) (y_4 : Int32) (S : MS) (H : Heap) (locs : List Loc) (ls : Array Slot), f_Mo_shorten_170 K y_1 y_3 y_4 S = some S' → va_P (dC, dI) classes (wM M S) H → va_D A (wM M S) → va_S A s.heap H locs → lv_has ls 11 [(0, .ref M.o), (1, .int y_1), (3, .int y_3), (4, .int y_4)] → W p l e ({ frames := 9, cells := 0, slots := 0, locals := 262 }) s m ([.ref M.o, .int p0] : List Value).toArray below meth c H locs 0 0 Q (F0 m 170 ls []) := by
    intro y_1 y_3 y_4 S H locs ls h hP hD hS hl
    rw [f_Mo_shorten_170] at h
    refine lv_iconst (v := 1) hx hb d_Mo_shorten_170 (by decide) ?_
    refine lv_istore (lv' := [(5, .int 1), (0, .ref M.o), (1, .int y_1), (3, .int y_3), (4, .int y_4)]) hx hb d_Mo_shorten_171 hl (by decide) rfl (fun ls hl => ?_)
    refine lv_iconst (v := 1) hx hb d_Mo_shorten_173 (by decide) ?_
    refine lv_istore (lv' := [(6, .int 1), (5, .int 1), (0, .ref M.o), (1, .int y_1), (3, .int y_3), (4, .int y_4)]) hx hb d_Mo_shorten_174 hl (by decide) rfl (fun ls hl => ?_)
    exact hB_176 K y_1 y_3 y_4 1 1 S _ _ _ h hP hD hS (lv_sub hl [2, 3, 4, 5, 1, 0] rfl)
  have hB_110 : ∀ (k : Nat), ∀ (y_1 : Int32) (y_2 : Int32) (y_3 : Int32) (y_4 : Int32) (y_5 : Int32) (S : MS) (H : Heap) (locs : List Loc) (ls : Array Slot), f_Mo_shorten_110 K k y_1 y_2 y_3 y_4 y_5 S = some S' → va_P (dC, dI) classes (wM M S) H → va_D A (wM M S) → va_S A s.heap H locs → lv_has ls 11 [(0, .ref M.o), (1, .int y_1), (2, .int y_2), (3, .int y_3), (4, .int y_4), (5, .int y_5)] → W p l e ({ frames := 9, cells := 0, slots := 0, locals := 262 }) s m ([.ref M.o, .int p0] : List Value).toArray below meth c H locs 0 0 Q (F0 m 110 ls []) := by
    intro k
    induction k with
    | zero => intro y_1 y_2 y_3 y_4 y_5 S H locs ls h; exact lf_no h
    | succ k hr_110 =>
      intro y_1 y_2 y_3 y_4 y_5 S H locs ls h hP hD hS hl
      rw [f_Mo_shorten_110] at h
      refine lv_iload_n hx hb d_Mo_shorten_110 rfl (lv_at hl 2 rfl) ?_
      refine lv_if_le (tgt := 170) hx hb d_Mo_shorten_111 (by decide) (fun c_18 => ?_) (fun c_18 => ?_)
      · have h := lf_t h c_18
        exact hB_170 y_1 y_3 y_4 S _ _ _ h hP hD hS (lv_sub hl [0, 1, 3, 4] rfl)
      · have h := lf_f h c_18
        refine lv_iload hx hb d_Mo_shorten_114 (lv_at hl 5 rfl) ?_
        refine lv_aload_n hx hb d_Mo_shorten_116 rfl (lv_at hl 0 rfl) ?_
        refine va_get (D := (dC, dI)) (ci := 12) (v := .int S.v_size) (C := R_Mo) (T := F_Mo) (N := 66) hx hb hts (fun w h => u_Mq_Mo w (i_Mo w h)) hown hK hP 0 rfl rfl 39 (by decide) (hts _ (u_Mq_Mo _ k_Mo_46)) (fun _ h9 => h9) rfl d_Mo_shorten_117 ?_
        refine lv_icmp_ge (tgt := 170) hx hb d_Mo_shorten_120 (by decide) (fun c_19 => ?_) (fun c_19 => ?_)
        · have h := lf_t h c_19
          exact hB_170 y_1 y_3 y_4 S _ _ _ h hP hD hS (lv_sub hl [0, 1, 3, 4] rfl)
        · have h := lf_f h c_19
          refine lv_iload hx hb d_Mo_shorten_123 (lv_at hl 4 rfl) ?_
          refine lv_iconst (v := 3) hx hb d_Mo_shorten_125 (by decide) ?_
          refine lv_icmp_ge (tgt := 170) hx hb d_Mo_shorten_126 (by decide) (fun c_20 => ?_) (fun c_20 => ?_)
          · have h := lf_t h c_20
            exact hB_170 y_1 y_3 y_4 S _ _ _ h hP hD hS (lv_sub hl [0, 1, 3, 4] rfl)
          · have h := lf_f h c_20
            refine lv_aload_n hx hb d_Mo_shorten_129 rfl (lv_at hl 0 rfl) ?_
            refine va_get (D := (dC, dI)) (ci := 12) (v := .ref M.a_name) (C := R_Mo) (T := F_Mo) (N := 66) hx hb hts (fun w h => u_Mq_Mo w (i_Mo w h)) hown hK hP 0 rfl rfl 38 (by decide) (hts _ (u_Mq_Mo _ k_Mo_45)) (fun _ h9 => h9) rfl d_Mo_shorten_130 ?_
            refine lv_iload hx hb d_Mo_shorten_133 (lv_at hl 5 rfl) ?_
            obtain ⟨g_21, h⟩ := lf_gE h
            refine va_cald hx hb hK hP 17 16 rfl rfl g_21 d_Mo_shorten_135 ?_
            refine lv_bipush (v := 32) hx hb d_Mo_shorten_136 (by decide) ?_
            refine lv_icmp_ne (tgt := 144) hx hb d_Mo_shorten_138 (by decide) (fun c_22 => ?_) (fun c_22 => ?_)
            · have h := lf_f h c_22
              refine lv_aload_n hx hb d_Mo_shorten_144 rfl (lv_at hl 0 rfl) ?_
              refine va_get (D := (dC, dI)) (ci := 12) (v := .ref M.a_tail) (C := R_Mo) (T := F_Mo) (N := 66) hx hb hts (fun w h => u_Mq_Mo w (i_Mo w h)) hown hK hP 0 rfl rfl 45 (by decide) (hts _ (u_Mq_Mo _ k_Mo_52)) (fun _ h9 => h9) rfl d_Mo_shorten_145 ?_
              refine lv_iload hx hb d_Mo_shorten_148 (lv_at hl 4 rfl) ?_
              refine lv_aload_n hx hb d_Mo_shorten_150 rfl (lv_at hl 0 rfl) ?_
              refine va_get (D := (dC, dI)) (ci := 12) (v := .ref M.a_name) (C := R_Mo) (T := F_Mo) (N := 66) hx hb hts (fun w h => u_Mq_Mo w (i_Mo w h)) hown hK hP 0 rfl rfl 38 (by decide) (hts _ (u_Mq_Mo _ k_Mo_45)) (fun _ h9 => h9) rfl d_Mo_shorten_151 ?_
              refine lv_iload hx hb d_Mo_shorten_154 (lv_at hl 5 rfl) ?_
              obtain ⟨g_23, h⟩ := lf_gE h
              refine va_cald hx hb hK hP 17 16 rfl rfl g_23 d_Mo_shorten_156 ?_
              obtain ⟨r_24, hc_24, h⟩ := lf_bE h
              have hFc := lx_free0 hS hA
              refine va_calli (va_runS (As := [.int (S.v_name y_5.toNatClampNeg)]) (rest := [.int y_4, .ref M.a_tail]) ⟨hx, hb, hml, hown, hts⟩ (l_Mo_plain l dC dI X _ hc_24) (va_cwS 1 hts (gwS good_Mq (u_Mq_Mo _ k_Mo_322) (u_Mq_Mo _ k_Mo_323) (u_Mq_Mo _ k_Mo_0) (wcs (u_Mq_Mo _ k_Mo_324) (fun _ h => h))) rfl rfl rfl (by decide +kernel) ⟨Nat.le_of_ble_eq_true rfl, Nat.le_of_ble_eq_true rfl⟩) (ps_ofE2 (W := []) (tys := []) (X.same _) (fun U z1 z2 => X.mono _ _ U hFc (hEw _ _ hS U z1 z2)) (hP.sub (ws' := []) [] rfl) (hK.sub [] rfl) (hD.sub (ws' := []) [] (by decide) rfl)) rfl rfl hl.1 rfl (lv_room (Nat.le_of_ble_eq_true rfl)) d_Mo_shorten_157 ⟨by decide, by decide⟩) hS (fun q _ h => hFc q h) hFc (fun r_ u t H locs ht hvm hw hB hz1 hk1 hS => ?_)
              rw [hw]
              have hP := lx_stat (A := A) hP hk1
              obtain ⟨g_25, h⟩ := lf_gE h
              refine va_iast hx hb hK hP hD hS 20 19 rfl rfl g_25 d_Mo_shorten_160 (fun H locs hP hD hS => ?_)
              obtain ⟨S_26, eS_26, h⟩ := lf_lX h
              have hP := lx_newP eS_26 hP
              have hD := lx_newD eS_26 hD
              obtain ⟨x_27, ex_27, h⟩ := lf_lX h
              refine lv_iinc (v := x_27) (lv' := [(4, .int x_27), (0, .ref M.o), (1, .int y_1), (2, .int y_2), (3, .int y_3), (5, .int y_5)]) hx hb d_Mo_shorten_161 hl (k := 4) rfl (by rw [ex_27]; rfl) (by decide) rfl (fun ls hl => ?_)
              exact hB_164 _ hr_110 y_1 y_2 y_3 x_27 y_5 S_26 _ _ _ h hP hD hS (lv_sub hl [1, 2, 3, 4, 0, 5] rfl)
            · have h := lf_t h c_22
              refine lv_goto (tgt := 164) hx hb d_Mo_shorten_141 (by decide) ?_
              exact hB_164 _ hr_110 y_1 y_2 y_3 y_4 y_5 S _ _ _ h hP hD hS (lv_sub hl [0, 1, 2, 3, 4, 5] rfl)
  have hB_50 : ∀ (rec_36 : Int32 → Int32 → Int32 → Int32 → Int32 → MS → Option (MS)) (hr_36 : ∀ (y_1 : Int32) (y_2 : Int32) (y_3 : Int32) (y_4 : Int32) (y_5 : Int32) (S : MS) (H : Heap) (locs : List Loc) (ls : Array Slot), rec_36 y_1 y_2 y_3 y_4 y_5 S = some S' → va_P (dC, dI) classes (wM M S) H → va_D A (wM M S) → va_S A s.heap H locs → lv_has ls 11 [(0, .ref M.o), (1, .int y_1), (2, .int y_2), (3, .int y_3), (4, .int y_4), (5, .int y_5)] → W p l e ({ frames := 9, cells := 0, slots := 0, locals := 262 }) s m ([.ref M.o, .int p0] : List Value).toArray below meth c H locs 0 0 Q (F0 m 36 ls [])), ∀ (y_1 : Int32) (y_2 : Int32) (y_3 : Int32) (y_4 : Int32) (y_5 : Int32) (z_0 : Int32) (z_1 : Int32) (S : MS) (H : Heap) (locs : List Loc) (ls : Array Slot), f_Mo_shorten_50 K rec_36 y_1 y_2 y_3 y_4 y_5 z_0 z_1 S = some S' → va_P (dC, dI) classes (wM M S) H → va_D A (wM M S) → va_S A s.heap H locs → lv_has ls 11 [(0, .ref M.o), (1, .int y_1), (2, .int y_2), (3, .int y_3), (4, .int y_4), (5, .int y_5)] → W p l e ({ frames := 9, cells := 0, slots := 0, locals := 262 }) s m ([.ref M.o, .int p0] : List Value).toArray below meth c H locs 0 0 Q (F0 m 50 ls [.int z_1, .int z_0]) := by
    intro rec_36 hr_36 y_1 y_2 y_3 y_4 y_5 z_0 z_1 S H locs ls h hP hD hS hl
    rw [f_Mo_shorten_50] at h
    refine lv_icmp_ge (tgt := 105) hx hb d_Mo_shorten_50 (by decide) (fun c_7 => ?_) (fun c_7 => ?_)
    · have h := lf_t h c_7
      refine lv_iload_n hx hb d_Mo_shorten_105 rfl (lv_at hl 2 rfl) ?_
      refine lv_iconst (v := 1) hx hb d_Mo_shorten_106 (by decide) ?_
      refine lv_iadd hx hb d_Mo_shorten_107 ?_
      refine lv_topi (fun x_8 ex_8 => ?_)
      have h := lf_lE h ex_8
      refine lv_istore (lv' := [(5, .int x_8), (0, .ref M.o), (1, .int y_1), (2, .int y_2), (3, .int y_3), (4, .int y_4)]) hx hb d_Mo_shorten_108 hl (by decide) rfl (fun ls hl => ?_)
      exact hB_110 K y_1 y_2 y_3 y_4 x_8 S _ _ _ h hP hD hS (lv_sub hl [1, 2, 3, 4, 5, 0] rfl)
    · have h := lf_f h c_7
      refine lv_aload_n hx hb d_Mo_shorten_53 rfl (lv_at hl 0 rfl) ?_
      refine va_get (D := (dC, dI)) (ci := 12) (v := .ref M.a_name) (C := R_Mo) (T := F_Mo) (N := 66) hx hb hts (fun w h => u_Mq_Mo w (i_Mo w h)) hown hK hP 0 rfl rfl 38 (by decide) (hts _ (u_Mq_Mo _ k_Mo_45)) (fun _ h9 => h9) rfl d_Mo_shorten_54 ?_
      refine lv_iload hx hb d_Mo_shorten_57 (lv_at hl 5 rfl) ?_
      obtain ⟨g_9, h⟩ := lf_gE h
      refine va_cald hx hb hK hP 17 16 rfl rfl g_9 d_Mo_shorten_59 ?_
      refine lv_bipush (v := 32) hx hb d_Mo_shorten_60 (by decide) ?_
      refine lv_icmp_eq (tgt := 99) hx hb d_Mo_shorten_62 (by decide) (fun c_10 => ?_) (fun c_10 => ?_)
      · have h := lf_t h c_10
        exact hB_99 _ hr_36 y_1 y_2 y_3 y_4 y_5 S _ _ _ h hP hD hS (lv_sub hl [0, 1, 2, 3, 4, 5] rfl)
      · have h := lf_f h c_10
        refine lv_aload_n hx hb d_Mo_shorten_65 rfl (lv_at hl 0 rfl) ?_
        refine va_get (D := (dC, dI)) (ci := 12) (v := .ref M.a_name) (C := R_Mo) (T := F_Mo) (N := 66) hx hb hts (fun w h => u_Mq_Mo w (i_Mo w h)) hown hK hP 0 rfl rfl 38 (by decide) (hts _ (u_Mq_Mo _ k_Mo_45)) (fun _ h9 => h9) rfl d_Mo_shorten_66 ?_
        refine lv_iload hx hb d_Mo_shorten_69 (lv_at hl 5 rfl) ?_
        obtain ⟨g_11, h⟩ := lf_gE h
        refine va_cald hx hb hK hP 17 16 rfl rfl g_11 d_Mo_shorten_71 ?_
        refine lv_bipush (v := 46) hx hb d_Mo_shorten_72 (by decide) ?_
        refine lv_icmp_ne (tgt := 80) hx hb d_Mo_shorten_74 (by decide) (fun c_12 => ?_) (fun c_12 => ?_)
        · have h := lf_f h c_12
          refine lv_aload_n hx hb d_Mo_shorten_80 rfl (lv_at hl 0 rfl) ?_
          refine va_get (D := (dC, dI)) (ci := 12) (v := .ref M.a_stem) (C := R_Mo) (T := F_Mo) (N := 66) hx hb hts (fun w h => u_Mq_Mo w (i_Mo w h)) hown hK hP 0 rfl rfl 44 (by decide) (hts _ (u_Mq_Mo _ k_Mo_51)) (fun _ h9 => h9) rfl d_Mo_shorten_81 ?_
          refine lv_iload_n hx hb d_Mo_shorten_84 rfl (lv_at hl 3 rfl) ?_
          refine lv_aload_n hx hb d_Mo_shorten_85 rfl (lv_at hl 0 rfl) ?_
          refine va_get (D := (dC, dI)) (ci := 12) (v := .ref M.a_name) (C := R_Mo) (T := F_Mo) (N := 66) hx hb hts (fun w h => u_Mq_Mo w (i_Mo w h)) hown hK hP 0 rfl rfl 38 (by decide) (hts _ (u_Mq_Mo _ k_Mo_45)) (fun _ h9 => h9) rfl d_Mo_shorten_86 ?_
          refine lv_iload hx hb d_Mo_shorten_89 (lv_at hl 5 rfl) ?_
          obtain ⟨g_13, h⟩ := lf_gE h
          refine va_cald hx hb hK hP 17 16 rfl rfl g_13 d_Mo_shorten_91 ?_
          obtain ⟨r_14, hc_14, h⟩ := lf_bE h
          have hFc := lx_free0 hS hA
          refine va_calli (va_runS (As := [.int (S.v_name y_5.toNatClampNeg)]) (rest := [.int y_3, .ref M.a_stem]) ⟨hx, hb, hml, hown, hts⟩ (l_Mo_plain l dC dI X _ hc_14) (va_cwS 1 hts (gwS good_Mq (u_Mq_Mo _ k_Mo_322) (u_Mq_Mo _ k_Mo_323) (u_Mq_Mo _ k_Mo_0) (wcs (u_Mq_Mo _ k_Mo_324) (fun _ h => h))) rfl rfl rfl (by decide +kernel) ⟨Nat.le_of_ble_eq_true rfl, Nat.le_of_ble_eq_true rfl⟩) (ps_ofE2 (W := []) (tys := []) (X.same _) (fun U z1 z2 => X.mono _ _ U hFc (hEw _ _ hS U z1 z2)) (hP.sub (ws' := []) [] rfl) (hK.sub [] rfl) (hD.sub (ws' := []) [] (by decide) rfl)) rfl rfl hl.1 rfl (lv_room (Nat.le_of_ble_eq_true rfl)) d_Mo_shorten_92 ⟨by decide, by decide⟩) hS (fun q _ h => hFc q h) hFc (fun r_ u t H locs ht hvm hw hB hz1 hk1 hS => ?_)
          rw [hw]
          have hP := lx_stat (A := A) hP hk1
          obtain ⟨g_15, h⟩ := lf_gE h
          refine va_iast hx hb hK hP hD hS 19 18 rfl rfl g_15 d_Mo_shorten_95 (fun H locs hP hD hS => ?_)
          obtain ⟨S_16, eS_16, h⟩ := lf_lX h
          have hP := lx_newP eS_16 hP
          have hD := lx_newD eS_16 hD
          obtain ⟨x_17, ex_17, h⟩ := lf_lX h
          refine lv_iinc (v := x_17) (lv' := [(3, .int x_17), (0, .ref M.o), (1, .int y_1), (2, .int y_2), (4, .int y_4), (5, .int y_5)]) hx hb d_Mo_shorten_96 hl (k := 3) rfl (by rw [ex_17]; rfl) (by decide) rfl (fun ls hl => ?_)
          exact hB_99 _ hr_36 y_1 y_2 x_17 y_4 y_5 S_16 _ _ _ h hP hD hS (lv_sub hl [1, 2, 3, 0, 4, 5] rfl)
        · have h := lf_t h c_12
          refine lv_goto (tgt := 99) hx hb d_Mo_shorten_77 (by decide) ?_
          exact hB_99 _ hr_36 y_1 y_2 y_3 y_4 y_5 S _ _ _ h hP hD hS (lv_sub hl [0, 1, 2, 3, 4, 5] rfl)
  have hB_36 : ∀ (k : Nat), ∀ (y_1 : Int32) (y_2 : Int32) (y_3 : Int32) (y_4 : Int32) (y_5 : Int32) (S : MS) (H : Heap) (locs : List Loc) (ls : Array Slot), f_Mo_shorten_36 K k y_1 y_2 y_3 y_4 y_5 S = some S' → va_P (dC, dI) classes (wM M S) H → va_D A (wM M S) → va_S A s.heap H locs → lv_has ls 11 [(0, .ref M.o), (1, .int y_1), (2, .int y_2), (3, .int y_3), (4, .int y_4), (5, .int y_5)] → W p l e ({ frames := 9, cells := 0, slots := 0, locals := 262 }) s m ([.ref M.o, .int p0] : List Value).toArray below meth c H locs 0 0 Q (F0 m 36 ls []) := by
    intro k
    induction k with
    | zero => intro y_1 y_2 y_3 y_4 y_5 S H locs ls h; exact lf_no h
    | succ k hr_36 =>
      intro y_1 y_2 y_3 y_4 y_5 S H locs ls h hP hD hS hl
      rw [f_Mo_shorten_36] at h
      refine lv_iload hx hb d_Mo_shorten_36 (lv_at hl 5 rfl) ?_
      refine lv_iload_n hx hb d_Mo_shorten_38 rfl (lv_at hl 2 rfl) ?_
      refine lv_if_le (tgt := 46) hx hb d_Mo_shorten_39 (by decide) (fun c_6 => ?_) (fun c_6 => ?_)
      · have h := lf_t h c_6
        refine lv_aload_n hx hb d_Mo_shorten_46 rfl (lv_at hl 0 rfl) ?_
        refine va_get (D := (dC, dI)) (ci := 12) (v := .int S.v_size) (C := R_Mo) (T := F_Mo) (N := 66) hx hb hts (fun w h => u_Mq_Mo w (i_Mo w h)) hown hK hP 0 rfl rfl 39 (by decide) (hts _ (u_Mq_Mo _ k_Mo_46)) (fun _ h9 => h9) rfl d_Mo_shorten_47 ?_
        exact hB_50 _ hr_36 y_1 y_2 y_3 y_4 y_5 y_5 S.v_size S _ _ _ h hP hD hS (lv_sub hl [0, 1, 2, 3, 4, 5] rfl)
      · have h := lf_f h c_6
        refine lv_iload_n hx hb d_Mo_shorten_42 rfl (lv_at hl 2 rfl) ?_
        refine lv_goto (tgt := 50) hx hb d_Mo_shorten_43 (by decide) ?_
        exact hB_50 _ hr_36 y_1 y_2 y_3 y_4 y_5 y_5 y_2 S _ _ _ h hP hD hS (lv_sub hl [0, 1, 2, 3, 4, 5] rfl)
  have hB_28 : ∀ (y_1 : Int32) (y_2 : Int32) (S : MS) (H : Heap) (locs : List Loc) (ls : Array Slot), f_Mo_shorten_28 K y_1 y_2 S = some S' → va_P (dC, dI) classes (wM M S) H → va_D A (wM M S) → va_S A s.heap H locs → lv_has ls 11 [(0, .ref M.o), (1, .int y_1), (2, .int y_2)] → W p l e ({ frames := 9, cells := 0, slots := 0, locals := 262 }) s m ([.ref M.o, .int p0] : List Value).toArray below meth c H locs 0 0 Q (F0 m 28 ls []) := by
    intro y_1 y_2 S H locs ls h hP hD hS hl
    rw [f_Mo_shorten_28] at h
    refine lv_iconst (v := 0) hx hb d_Mo_shorten_28 (by decide) ?_
    refine lv_istore_n (lv' := [(3, .int 0), (0, .ref M.o), (1, .int y_1), (2, .int y_2)]) hx hb d_Mo_shorten_29 rfl hl (by decide) rfl (fun ls hl => ?_)
    refine lv_iconst (v := 0) hx hb d_Mo_shorten_30 (by decide) ?_
    refine lv_istore (lv' := [(4, .int 0), (3, .int 0), (0, .ref M.o), (1, .int y_1), (2, .int y_2)]) hx hb d_Mo_shorten_31 hl (by decide) rfl (fun ls hl => ?_)
    refine lv_iconst (v := 0) hx hb d_Mo_shorten_33 (by decide) ?_
    refine lv_istore (lv' := [(5, .int 0), (4, .int 0), (3, .int 0), (0, .ref M.o), (1, .int y_1), (2, .int y_2)]) hx hb d_Mo_shorten_34 hl (by decide) rfl (fun ls hl => ?_)
    exact hB_36 K y_1 y_2 0 0 0 S _ _ _ h hP hD hS (lv_sub hl [3, 4, 5, 2, 1, 0] rfl)
  have hB_7 : ∀ (k : Nat), ∀ (y_1 : Int32) (y_2 : Int32) (S : MS) (H : Heap) (locs : List Loc) (ls : Array Slot), f_Mo_shorten_7 K k y_1 y_2 S = some S' → va_P (dC, dI) classes (wM M S) H → va_D A (wM M S) → va_S A s.heap H locs → lv_has ls 11 [(0, .ref M.o), (1, .int y_1), (2, .int y_2)] → W p l e ({ frames := 9, cells := 0, slots := 0, locals := 262 }) s m ([.ref M.o, .int p0] : List Value).toArray below meth c H locs 0 0 Q (F0 m 7 ls []) := by
    intro k
    induction k with
    | zero => intro y_1 y_2 S H locs ls h; exact lf_no h
    | succ k hr_7 =>
      intro y_1 y_2 S H locs ls h hP hD hS hl
      rw [f_Mo_shorten_7] at h
      refine lv_iload_n hx hb d_Mo_shorten_7 rfl (lv_at hl 2 rfl) ?_
      refine lv_if_le (tgt := 28) hx hb d_Mo_shorten_8 (by decide) (fun c_2 => ?_) (fun c_2 => ?_)
      · have h := lf_t h c_2
        exact hB_28 y_1 y_2 S _ _ _ h hP hD hS (lv_sub hl [0, 1, 2] rfl)
      · have h := lf_f h c_2
        refine lv_aload_n hx hb d_Mo_shorten_11 rfl (lv_at hl 0 rfl) ?_
        refine va_get (D := (dC, dI)) (ci := 12) (v := .ref M.a_name) (C := R_Mo) (T := F_Mo) (N := 66) hx hb hts (fun w h => u_Mq_Mo w (i_Mo w h)) hown hK hP 0 rfl rfl 38 (by decide) (hts _ (u_Mq_Mo _ k_Mo_45)) (fun _ h9 => h9) rfl d_Mo_shorten_12 ?_
        refine lv_iload_n hx hb d_Mo_shorten_15 rfl (lv_at hl 2 rfl) ?_
        obtain ⟨g_3, h⟩ := lf_gE h
        refine va_cald hx hb hK hP 17 16 rfl rfl g_3 d_Mo_shorten_16 ?_
        refine lv_bipush (v := 46) hx hb d_Mo_shorten_17 (by decide) ?_
        refine lv_icmp_eq (tgt := 28) hx hb d_Mo_shorten_19 (by decide) (fun c_4 => ?_) (fun c_4 => ?_)
        · have h := lf_t h c_4
          exact hB_28 y_1 y_2 S _ _ _ h hP hD hS (lv_sub hl [0, 1, 2] rfl)
        · have h := lf_f h c_4
          obtain ⟨x_5, ex_5, h⟩ := lf_lX h
          refine lv_iinc (v := x_5) (lv' := [(2, .int x_5), (0, .ref M.o), (1, .int y_1)]) hx hb d_Mo_shorten_22 hl (k := 2) rfl (by rw [ex_5]; rfl) (by decide) rfl (fun ls hl => ?_)
          refine lv_goto (tgt := 7) hx hb d_Mo_shorten_25 (by decide) ?_
          exact hr_7 y_1 x_5 S _ _ _ h hP hD hS (lv_sub hl [1, 2, 0] rfl)
  rw [f_Mo_shorten] at h
  refine lv_aload_n hx hb d_Mo_shorten_0 rfl (lv_at hl 0 rfl) ?_
  refine va_get (D := (dC, dI)) (ci := 12) (v := .int S.v_size) (C := R_Mo) (T := F_Mo) (N := 66) hx hb hts (fun w h => u_Mq_Mo w (i_Mo w h)) hown hK hP 0 rfl rfl 39 (by decide) (hts _ (u_Mq_Mo _ k_Mo_46)) (fun _ h9 => h9) rfl d_Mo_shorten_1 ?_
  refine lv_iconst (v := 1) hx hb d_Mo_shorten_4 (by decide) ?_
  refine lv_isub hx hb d_Mo_shorten_5 ?_
  refine lv_topi (fun x_1 ex_1 => ?_)
  have h := lf_lE h ex_1
  refine lv_istore_n (lv' := [(2, .int x_1), (0, .ref M.o), (1, .int p0)]) hx hb d_Mo_shorten_6 rfl hl (by decide) rfl (fun ls hl => ?_)
  exact hB_7 K p0 x_1 S _ _ _ h hP hD hS (lv_sub hl [1, 2, 0] rfl)
set_option maxHeartbeats 4000000 in
set_option maxRecDepth 100000 in
theorem l_Mo_layPart (l : Launch) (dC : Nat → ClassId) (dI : Nat → Nat → Nat) {K : Nat} {M : MA} {E : (Nat → Prop) → State → Prop} (X : lx_X l dC dI K M E) (sz : Nat) {S S' : MS} {p0 : Int32} {p1 : Int32} {p2 : Int32} {p3 : Int32} (h : f_Mo_layPart K S p0 p1 p2 p3 = some S') : Met l y_Mo_layPart (.code y_Mo_layPart b_Mo_layPart 7 none :: V_Mq) ({ frames := 1, cells := 0, slots := 0, locals := 25 }) (va_Pc [.ref M.o, .int p0, .int p1, .int p2, .int p3] (fun U => U.heap.size = sz ∧ at_ (dC, dI) (fun _ => True) (wM M S) (tM M) U ∧ E (va_A (wM M S) sz) U)) (va_Qv (fun (u : Unit) => True) (fun (u : Unit) t => at_ (dC, dI) (va_A (wM M S) sz) (wM M S') (tM M) t) (va_A (wM M S) sz)) 0 0 (va_A (wM M S) sz) := by
  refine Met.ofW (cc := b_Mo_layPart) (maxL := 7) (ret := none) (by decide) rfl ?_
  intro p e s m args below meth c s₁ B hml hv
  obtain ⟨rfl, hsz, ⟨hP, hK, hD0⟩, hE⟩ := hv
  have hx := B.exec
  have hb := B.bytes
  have hr := B.returns
  have hts0 := atoms_spec (ws := .code y_Mo_layPart b_Mo_layPart 7 none :: V_Mq) B.pre
  have hts : ∀ w ∈ V_Mq, w.before ([.ref M.o, .int p0, .int p1, .int p2, .int p3] : List Value).toArray s = true := fun w h => hts0 w (List.mem_cons_of_mem _ h)
  have hown : s.vm.findClass R_Mo = some m.cls := findClass_of_methodNamed B.named
  subst hsz
  have hD := hD0.self (sz := s.heap.size)
  generalize hAe : va_A (wM M S) s.heap.size = A at hD hE ⊢
  have hA : ∀ q : Nat, s.heap.size ≤ q → A q := fun q h => by rw [← hAe]; exact Or.inr h
  have hS : va_S A s.heap s.heap [] := va_S.rf
  have hP : va_P (dC, dI) classes (wM M S) s.heap := hP
  have hK : va_K (dC, dI) classes (tM M) s := hK
  have hEw : ∀ (H : Heap) (locs : List Loc), va_S A s.heap H locs → ∀ U : State, U.heap = H → s.WarmedH U.vm → E A U := fun H locs hS U hU hW => X.kept A s U H locs hE hS hU hW
  have hl := lv_entry ([.ref M.o, .int p0, .int p1, .int p2, .int p3]) (n := 7) (Nat.le_of_ble_eq_true rfl)
  rw [lg_entry_eq]
  generalize (lg_sl ([.ref M.o, .int p0, .int p1, .int p2, .int p3]) ++ List.replicate (7 - (lg_sl ([.ref M.o, .int p0, .int p1, .int p2, .int p3])).length) Slot.unset).toArray = ls at hl ⊢
  have hl : lv_has ls 7 [(0, .ref M.o), (1, .int p0), (2, .int p1), (3, .int p2), (4, .int p3)] := hl
  refine qabs (fun Q hQ => ?_)
  have hB_142 : ∀ (rec_46 : Int32 → Int32 → Int32 → MS → Option (MS)) (hr_46 : ∀ (y_1 : Int32) (y_2 : Int32) (y_5 : Int32) (S : MS) (H : Heap) (locs : List Loc) (ls : Array Slot), rec_46 y_1 y_2 y_5 S = some S' → va_P (dC, dI) classes (wM M S) H → va_D A (wM M S) → va_S A s.heap H locs → lv_has ls 7 [(0, .ref M.o), (1, .int y_1), (2, .int y_2), (5, .int y_5)] → W p l e ({ frames := 1, cells := 0, slots := 0, locals := 25 }) s m ([.ref M.o, .int p0, .int p1, .int p2, .int p3] : List Value).toArray below meth c H locs 0 0 Q (F0 m 46 ls [])), ∀ (y_1 : Int32) (y_2 : Int32) (y_5 : Int32) (z_1 : Int32) (z_2 : Int32) (z_3 : Int64) (S : MS) (H : Heap) (locs : List Loc) (ls : Array Slot), f_Mo_layPart_142 K rec_46 y_1 y_2 y_5 z_1 z_2 z_3 S = some S' → va_P (dC, dI) classes (wM M S) H → va_D A (wM M S) → va_S A s.heap H locs → lv_has ls 7 [(0, .ref M.o), (1, .int y_1), (2, .int y_2), (5, .int y_5)] → W p l e ({ frames := 1, cells := 0, slots := 0, locals := 25 }) s m ([.ref M.o, .int p0, .int p1, .int p2, .int p3] : List Value).toArray below meth c H locs 0 0 Q (F0 m 142 ls [.long z_3, .int z_2, .int z_1, .ref M.o]) := by
    intro rec_46 hr_46 y_1 y_2 y_5 z_1 z_2 z_3 S H locs ls h hP hD hS hl
    rw [f_Mo_layPart_142] at h
    obtain ⟨S_12, hc_12, h⟩ := lf_bE h
    have hFc := lx_free hD hS hA
    refine va_callv (va_runV (As := [.int z_1, .int z_2, .long z_3]) (rest := []) ⟨hx, hb, hml, hown, hts⟩ (l_Mo_set l dC dI X _ hc_12) (cwV 3 hts (gwV good_Mq (u_Mq_Mo _ k_Mo_221) (u_Mq_Mo _ k_Mo_222) (u_Mq_Mo _ k_Mo_478) (u_Mq_Mo _ k_Mo_0) (wcs (u_Mq_Mo _ k_Mo_223) (fun _ h => h))) rfl rfl rfl (by decide +kernel) ⟨Nat.le_of_ble_eq_true rfl, Nat.le_of_ble_eq_true rfl⟩) (pv_ofE (X.same _) (fun U z1 z2 => X.mono _ _ U hFc (hEw _ _ hS U z1 z2)) hP hK hD (va_recv hK hP (ci := 12) (q0 := 0) rfl rfl)) rfl rfl hl.1 rfl (lv_room (Nat.le_of_ble_eq_true rfl)) d_Mo_layPart_142 ⟨by decide, by decide⟩) hS (fun q _ h => hFc q h) hFc (fun u t H locs ht hvm hw hB hz1 hk1 hS => ?_)
    obtain ⟨hP, -, hD⟩ := hB
    rw [ht] at hP
    have hD := lx_dj hD hFc
    obtain ⟨x_13, ex_13, h⟩ := lf_lX h
    refine lv_iinc (v := x_13) (lv' := [(5, .int x_13), (0, .ref M.o), (1, .int y_1), (2, .int y_2)]) hx hb d_Mo_layPart_145 hl (k := 3) rfl (by rw [ex_13]; rfl) (by decide) rfl (fun ls hl => ?_)
    refine lv_goto (tgt := 46) hx hb d_Mo_layPart_148 (by decide) ?_
    exact hr_46 y_1 y_2 x_13 S_12 _ _ _ h hP hD hS (lv_sub hl [1, 2, 3, 0] rfl)
  have hB_104 : ∀ (rec_46 : Int32 → Int32 → Int32 → MS → Option (MS)) (hr_46 : ∀ (y_1 : Int32) (y_2 : Int32) (y_5 : Int32) (S : MS) (H : Heap) (locs : List Loc) (ls : Array Slot), rec_46 y_1 y_2 y_5 S = some S' → va_P (dC, dI) classes (wM M S) H → va_D A (wM M S) → va_S A s.heap H locs → lv_has ls 7 [(0, .ref M.o), (1, .int y_1), (2, .int y_2), (5, .int y_5)] → W p l e ({ frames := 1, cells := 0, slots := 0, locals := 25 }) s m ([.ref M.o, .int p0, .int p1, .int p2, .int p3] : List Value).toArray below meth c H locs 0 0 Q (F0 m 46 ls [])), ∀ (y_1 : Int32) (y_2 : Int32) (y_5 : Int32) (y_6 : Int32) (z_1 : Int32) (z_2 : Int32) (S : MS) (H : Heap) (locs : List Loc) (ls : Array Slot), f_Mo_layPart_104 K rec_46 y_1 y_2 y_5 y_6 z_1 z_2 S = some S' → va_P (dC, dI) classes (wM M S) H → va_D A (wM M S) → va_S A s.heap H locs → lv_has ls 7 [(0, .ref M.o), (1, .int y_1), (2, .int y_2), (5, .int y_5), (6, .int y_6)] → W p l e ({ frames := 1, cells := 0, slots := 0, locals := 25 }) s m ([.ref M.o, .int p0, .int p1, .int p2, .int p3] : List Value).toArray below meth c H locs 0 0 Q (F0 m 104 ls [.int z_2, .int z_1, .ref M.o]) := by
    intro rec_46 hr_46 y_1 y_2 y_5 y_6 z_1 z_2 S H locs ls h hP hD hS hl
    rw [f_Mo_layPart_104] at h
    refine lv_iadd hx hb d_Mo_layPart_104 ?_
    refine lv_iconst (v := 2) hx hb d_Mo_layPart_105 (by decide) ?_
    refine lv_iload hx hb d_Mo_layPart_106 (lv_at hl 4 rfl) ?_
    refine lv_aload_n hx hb d_Mo_layPart_108 rfl (lv_at hl 0 rfl) ?_
    refine va_get (D := (dC, dI)) (ci := 12) (v := .int S.v_size) (C := R_Mo) (T := F_Mo) (N := 66) hx hb hts (fun w h => u_Mq_Mo w (i_Mo w h)) hown hK hP 0 rfl rfl 39 (by decide) (hts _ (u_Mq_Mo _ k_Mo_46)) (fun _ h9 => h9) rfl d_Mo_layPart_109 ?_
    refine lv_icmp_ge (tgt := 126) hx hb d_Mo_layPart_112 (by decide) (fun c_9 => ?_) (fun c_9 => ?_)
    · have h := lf_t h c_9
      refine lv_iload hx hb d_Mo_layPart_126 (lv_at hl 4 rfl) ?_
      refine lv_aload_n hx hb d_Mo_layPart_128 rfl (lv_at hl 0 rfl) ?_
      refine va_get (D := (dC, dI)) (ci := 12) (v := .int S.v_size) (C := R_Mo) (T := F_Mo) (N := 66) hx hb hts (fun w h => u_Mq_Mo w (i_Mo w h)) hown hK hP 0 rfl rfl 39 (by decide) (hts _ (u_Mq_Mo _ k_Mo_46)) (fun _ h9 => h9) rfl d_Mo_layPart_129 ?_
      refine lv_icmp_ne (tgt := 139) hx hb d_Mo_layPart_132 (by decide) (fun c_10 => ?_) (fun c_10 => ?_)
      · have h := lf_f h c_10
        refine lv_ldc2 (v := 65535) hx hb hown (hts _ (u_Mq_Mo _ k_Mo_338)) d_Mo_layPart_139 ?_
        exact hB_142 _ hr_46 y_1 y_2 y_5 (z_1 + z_2) 2 65535 S _ _ _ h hP hD hS (lv_sub hl [0, 1, 2, 3] rfl)
      · have h := lf_t h c_10
        refine lv_lconst (v := 0) hx hb d_Mo_layPart_135 (by decide) ?_
        refine lv_goto (tgt := 142) hx hb d_Mo_layPart_136 (by decide) ?_
        exact hB_142 _ hr_46 y_1 y_2 y_5 (z_1 + z_2) 2 0 S _ _ _ h hP hD hS (lv_sub hl [0, 1, 2, 3] rfl)
    · have h := lf_f h c_9
      refine lv_aload_n hx hb d_Mo_layPart_115 rfl (lv_at hl 0 rfl) ?_
      refine va_get (D := (dC, dI)) (ci := 12) (v := .ref M.a_name) (C := R_Mo) (T := F_Mo) (N := 66) hx hb hts (fun w h => u_Mq_Mo w (i_Mo w h)) hown hK hP 0 rfl rfl 38 (by decide) (hts _ (u_Mq_Mo _ k_Mo_45)) (fun _ h9 => h9) rfl d_Mo_layPart_116 ?_
      refine lv_iload hx hb d_Mo_layPart_119 (lv_at hl 4 rfl) ?_
      obtain ⟨g_11, h⟩ := lf_gE h
      refine va_cald hx hb hK hP 17 16 rfl rfl g_11 d_Mo_layPart_121 ?_
      refine lv_i2l hx hb d_Mo_layPart_122 rfl ?_
      refine lv_goto (tgt := 142) hx hb d_Mo_layPart_123 (by decide) ?_
      exact hB_142 _ hr_46 y_1 y_2 y_5 (z_1 + z_2) 2 ((S.v_name y_6.toNatClampNeg).toInt64) S _ _ _ h hP hD hS (lv_sub hl [0, 1, 2, 3] rfl)
  have hB_46 : ∀ (k : Nat), ∀ (y_1 : Int32) (y_2 : Int32) (y_5 : Int32) (S : MS) (H : Heap) (locs : List Loc) (ls : Array Slot), f_Mo_layPart_46 K k y_1 y_2 y_5 S = some S' → va_P (dC, dI) classes (wM M S) H → va_D A (wM M S) → va_S A s.heap H locs → lv_has ls 7 [(0, .ref M.o), (1, .int y_1), (2, .int y_2), (5, .int y_5)] → W p l e ({ frames := 1, cells := 0, slots := 0, locals := 25 }) s m ([.ref M.o, .int p0, .int p1, .int p2, .int p3] : List Value).toArray below meth c H locs 0 0 Q (F0 m 46 ls []) := by
    intro k
    induction k with
    | zero => intro y_1 y_2 y_5 S H locs ls h; exact lf_no h
    | succ k hr_46 =>
      intro y_1 y_2 y_5 S H locs ls h hP hD hS hl
      rw [f_Mo_layPart_46] at h
      refine lv_iload hx hb d_Mo_layPart_46 (lv_at hl 3 rfl) ?_
      refine lv_bipush (v := 13) hx hb d_Mo_layPart_48 (by decide) ?_
      refine lv_icmp_ge (tgt := 151) hx hb d_Mo_layPart_50 (by decide) (fun c_5 => ?_) (fun c_5 => ?_)
      · have h := lf_t h c_5
        rw [hQ]
        have e2 : S = S' := Option.some.inj h
        have hP := lx_newP e2.symm hP
        have hD := lx_newD e2.symm hD
        exact W.vret hx hb hr (fun t ht hW => ⟨⟨(), rfl, trivial, by rw [ht]; exact hP, va_K.moved hW.alike hK, hD⟩, hS.F ht⟩) hS.2.2 d_Mo_layPart_151
      · have h := lf_f h c_5
        refine lv_bipush (v := 13) hx hb d_Mo_layPart_53 (by decide) ?_
        refine lv_iload_n hx hb d_Mo_layPart_55 rfl (lv_at hl 2 rfl) ?_
        refine lv_iconst (v := 1) hx hb d_Mo_layPart_56 (by decide) ?_
        refine lv_isub hx hb d_Mo_layPart_57 ?_
        refine lv_imul hx hb d_Mo_layPart_58 ?_
        refine lv_iload hx hb d_Mo_layPart_59 (lv_at hl 3 rfl) ?_
        refine lv_iadd hx hb d_Mo_layPart_61 ?_
        refine lv_topi (fun x_6 ex_6 => ?_)
        have h := lf_lE h ex_6
        refine lv_istore (lv' := [(6, .int x_6), (0, .ref M.o), (1, .int y_1), (2, .int y_2), (5, .int y_5)]) hx hb d_Mo_layPart_62 hl (by decide) rfl (fun ls hl => ?_)
        refine lv_aload_n hx hb d_Mo_layPart_64 rfl (lv_at hl 1 rfl) ?_
        refine lv_iload_n hx hb d_Mo_layPart_65 rfl (lv_at hl 2 rfl) ?_
        refine lv_iload hx hb d_Mo_layPart_66 (lv_at hl 4 rfl) ?_
        refine lv_iconst (v := 5) hx hb d_Mo_layPart_68 (by decide) ?_
        refine lv_icmp_ge (tgt := 81) hx hb d_Mo_layPart_69 (by decide) (fun c_7 => ?_) (fun c_7 => ?_)
        · have h := lf_t h c_7
          refine lv_iload hx hb d_Mo_layPart_81 (lv_at hl 4 rfl) ?_
          refine lv_bipush (v := 11) hx hb d_Mo_layPart_83 (by decide) ?_
          refine lv_icmp_ge (tgt := 97) hx hb d_Mo_layPart_85 (by decide) (fun c_8 => ?_) (fun c_8 => ?_)
          · have h := lf_t h c_8
            refine lv_bipush (v := 6) hx hb d_Mo_layPart_97 (by decide) ?_
            refine lv_iconst (v := 2) hx hb d_Mo_layPart_99 (by decide) ?_
            refine lv_iload hx hb d_Mo_layPart_100 (lv_at hl 4 rfl) ?_
            refine lv_imul hx hb d_Mo_layPart_102 ?_
            refine lv_iadd hx hb d_Mo_layPart_103 ?_
            exact hB_104 _ hr_46 y_1 y_2 y_5 x_6 y_1 (6 + (2 * y_5)) S _ _ _ h hP hD hS (lv_sub hl [1, 2, 3, 4, 0] rfl)
          · have h := lf_f h c_8
            refine lv_iconst (v := 4) hx hb d_Mo_layPart_88 (by decide) ?_
            refine lv_iconst (v := 2) hx hb d_Mo_layPart_89 (by decide) ?_
            refine lv_iload hx hb d_Mo_layPart_90 (lv_at hl 4 rfl) ?_
            refine lv_imul hx hb d_Mo_layPart_92 ?_
            refine lv_iadd hx hb d_Mo_layPart_93 ?_
            refine lv_goto (tgt := 104) hx hb d_Mo_layPart_94 (by decide) ?_
            exact hB_104 _ hr_46 y_1 y_2 y_5 x_6 y_1 (4 + (2 * y_5)) S _ _ _ h hP hD hS (lv_sub hl [1, 2, 3, 4, 0] rfl)
        · have h := lf_f h c_7
          refine lv_iconst (v := 1) hx hb d_Mo_layPart_72 (by decide) ?_
          refine lv_iconst (v := 2) hx hb d_Mo_layPart_73 (by decide) ?_
          refine lv_iload hx hb d_Mo_layPart_74 (lv_at hl 4 rfl) ?_
          refine lv_imul hx hb d_Mo_layPart_76 ?_
          refine lv_iadd hx hb d_Mo_layPart_77 ?_
          refine lv_goto (tgt := 104) hx hb d_Mo_layPart_78 (by decide) ?_
          exact hB_104 _ hr_46 y_1 y_2 y_5 x_6 y_1 (1 + (2 * y_5)) S _ _ _ h hP hD hS (lv_sub hl [1, 2, 3, 4, 0] rfl)
  have hB_14 : ∀ (y_1 : Int32) (y_2 : Int32) (y_4 : Int32) (z_1 : Int32) (z_2 : Int32) (z_3 : Int32) (z_4 : Int32) (S : MS) (H : Heap) (locs : List Loc) (ls : Array Slot), f_Mo_layPart_14 K y_1 y_2 y_4 z_1 z_2 z_3 z_4 S = some S' → va_P (dC, dI) classes (wM M S) H → va_D A (wM M S) → va_S A s.heap H locs → lv_has ls 7 [(0, .ref M.o), (1, .int y_1), (2, .int y_2), (4, .int y_4)] → W p l e ({ frames := 1, cells := 0, slots := 0, locals := 25 }) s m ([.ref M.o, .int p0, .int p1, .int p2, .int p3] : List Value).toArray below meth c H locs 0 0 Q (F0 m 14 ls [.int z_4, .int z_3, .int z_2, .int z_1, .ref M.o]) := by
    intro y_1 y_2 y_4 z_1 z_2 z_3 z_4 S H locs ls h hP hD hS hl
    rw [f_Mo_layPart_14] at h
    refine lv_iadd hx hb d_Mo_layPart_14 ?_
    refine lv_i2l hx hb d_Mo_layPart_15 rfl ?_
    obtain ⟨S_2, hc_2, h⟩ := lf_bE h
    have hFc := lx_free hD hS hA
    refine va_callv (va_runV (As := [.int z_1, .int z_2, .long ((z_3 + z_4).toInt64)]) (rest := []) ⟨hx, hb, hml, hown, hts⟩ (l_Mo_set l dC dI X _ hc_2) (cwV 3 hts (gwV good_Mq (u_Mq_Mo _ k_Mo_221) (u_Mq_Mo _ k_Mo_222) (u_Mq_Mo _ k_Mo_478) (u_Mq_Mo _ k_Mo_0) (wcs (u_Mq_Mo _ k_Mo_223) (fun _ h => h))) rfl rfl rfl (by decide +kernel) ⟨Nat.le_of_ble_eq_true rfl, Nat.le_of_ble_eq_true rfl⟩) (pv_ofE (X.same _) (fun U z1 z2 => X.mono _ _ U hFc (hEw _ _ hS U z1 z2)) hP hK hD (va_recv hK hP (ci := 12) (q0 := 0) rfl rfl)) rfl rfl hl.1 rfl (lv_room (Nat.le_of_ble_eq_true rfl)) d_Mo_layPart_16 ⟨by decide, by decide⟩) hS (fun q _ h => hFc q h) hFc (fun u t H locs ht hvm hw hB hz1 hk1 hS => ?_)
    obtain ⟨hP, -, hD⟩ := hB
    rw [ht] at hP
    have hD := lx_dj hD hFc
    refine lv_aload_n hx hb d_Mo_layPart_19 rfl (lv_at hl 0 rfl) ?_
    refine lv_iload_n hx hb d_Mo_layPart_20 rfl (lv_at hl 1 rfl) ?_
    refine lv_bipush (v := 11) hx hb d_Mo_layPart_21 (by decide) ?_
    refine lv_iadd hx hb d_Mo_layPart_23 ?_
    refine lv_iconst (v := 1) hx hb d_Mo_layPart_24 (by decide) ?_
    refine lv_ldc2 (v := 15) hx hb hown (hts _ (u_Mq_Mo _ k_Mo_337)) d_Mo_layPart_25 ?_
    obtain ⟨S_3, hc_3, h⟩ := lf_bE h
    have hFc := lx_free hD hS hA
    refine va_callv (va_runV (As := [.int (y_1 + 11), .int 1, .long 15]) (rest := []) ⟨hx, hb, hml, hown, hts⟩ (l_Mo_set l dC dI X _ hc_3) (cwV 3 hts (gwV good_Mq (u_Mq_Mo _ k_Mo_221) (u_Mq_Mo _ k_Mo_222) (u_Mq_Mo _ k_Mo_478) (u_Mq_Mo _ k_Mo_0) (wcs (u_Mq_Mo _ k_Mo_223) (fun _ h => h))) rfl rfl rfl (by decide +kernel) ⟨Nat.le_of_ble_eq_true rfl, Nat.le_of_ble_eq_true rfl⟩) (pv_ofE (X.same _) (fun U z1 z2 => X.mono _ _ U hFc (hEw _ _ hS U z1 z2)) hP hK hD (va_recv hK hP (ci := 12) (q0 := 0) rfl rfl)) rfl rfl hl.1 rfl (lv_room (Nat.le_of_ble_eq_true rfl)) d_Mo_layPart_28 ⟨by decide, by decide⟩) hS (fun q _ h => hFc q h) hFc (fun u t H locs ht hvm hw hB hz1 hk1 hS => ?_)
    obtain ⟨hP, -, hD⟩ := hB
    rw [ht] at hP
    have hD := lx_dj hD hFc
    refine lv_aload_n hx hb d_Mo_layPart_31 rfl (lv_at hl 0 rfl) ?_
    refine lv_iload_n hx hb d_Mo_layPart_32 rfl (lv_at hl 1 rfl) ?_
    refine lv_bipush (v := 13) hx hb d_Mo_layPart_33 (by decide) ?_
    refine lv_iadd hx hb d_Mo_layPart_35 ?_
    refine lv_iconst (v := 1) hx hb d_Mo_layPart_36 (by decide) ?_
    refine lv_iload hx hb d_Mo_layPart_37 (lv_at hl 3 rfl) ?_
    refine lv_i2l hx hb d_Mo_layPart_39 rfl ?_
    obtain ⟨S_4, hc_4, h⟩ := lf_bE h
    have hFc := lx_free hD hS hA
    refine va_callv (va_runV (As := [.int (y_1 + 13), .int 1, .long y_4.toInt64]) (rest := []) ⟨hx, hb, hml, hown, hts⟩ (l_Mo_set l dC dI X _ hc_4) (cwV 3 hts (gwV good_Mq (u_Mq_Mo _ k_Mo_221) (u_Mq_Mo _ k_Mo_222) (u_Mq_Mo _ k_Mo_478) (u_Mq_Mo _ k_Mo_0) (wcs (u_Mq_Mo _ k_Mo_223) (fun _ h => h))) rfl rfl rfl (by decide +kernel) ⟨Nat.le_of_ble_eq_true rfl, Nat.le_of_ble_eq_true rfl⟩) (pv_ofE (X.same _) (fun U z1 z2 => X.mono _ _ U hFc (hEw _ _ hS U z1 z2)) hP hK hD (va_recv hK hP (ci := 12) (q0 := 0) rfl rfl)) rfl rfl hl.1 rfl (lv_room (Nat.le_of_ble_eq_true rfl)) d_Mo_layPart_40 ⟨by decide, by decide⟩) hS (fun q _ h => hFc q h) hFc (fun u t H locs ht hvm hw hB hz1 hk1 hS => ?_)
    obtain ⟨hP, -, hD⟩ := hB
    rw [ht] at hP
    have hD := lx_dj hD hFc
    refine lv_iconst (v := 0) hx hb d_Mo_layPart_43 (by decide) ?_
    refine lv_istore (lv' := [(5, .int 0), (0, .ref M.o), (1, .int y_1), (2, .int y_2), (4, .int y_4)]) hx hb d_Mo_layPart_44 hl (by decide) rfl (fun ls hl => ?_)
    exact hB_46 K y_1 y_2 0 S_4 _ _ _ h hP hD hS (lv_sub hl [1, 2, 3, 0] rfl)
  rw [f_Mo_layPart] at h
  refine lv_aload_n hx hb d_Mo_layPart_0 rfl (lv_at hl 0 rfl) ?_
  refine lv_iload_n hx hb d_Mo_layPart_1 rfl (lv_at hl 1 rfl) ?_
  refine lv_iconst (v := 1) hx hb d_Mo_layPart_2 (by decide) ?_
  refine lv_iload_n hx hb d_Mo_layPart_3 rfl (lv_at hl 2 rfl) ?_
  refine lv_iload_n hx hb d_Mo_layPart_4 rfl (lv_at hl 3 rfl) ?_
  refine lv_if_eq (tgt := 13) hx hb d_Mo_layPart_5 (by decide) (fun c_1 => ?_) (fun c_1 => ?_)
  · have h := lf_t h c_1
    refine lv_iconst (v := 0) hx hb d_Mo_layPart_13 (by decide) ?_
    exact hB_14 p0 p1 p3 p0 1 p1 0 S _ _ _ h hP hD hS (lv_sub hl [0, 1, 2, 4] rfl)
  · have h := lf_f h c_1
    refine lv_bipush (v := 64) hx hb d_Mo_layPart_8 (by decide) ?_
    refine lv_goto (tgt := 14) hx hb d_Mo_layPart_10 (by decide) ?_
    exact hB_14 p0 p1 p3 p0 1 p1 64 S _ _ _ h hP hD hS (lv_sub hl [0, 1, 2, 4] rfl)
