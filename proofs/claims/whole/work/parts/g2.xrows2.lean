set_option maxHeartbeats 4000000 in
set_option maxRecDepth 100000 in
theorem l_Vt_remove (l : Launch) (dC : Nat → ClassId) (dI : Nat → Nat → Nat) {K : Nat} {M : CA} {E : (Nat → Prop) → State → Prop} (X : ly_X l dC dI K M E) (sz : Nat) {Y : CT} {G0 G' : CG} {S S' : CS} {p0 : Int32} (h : f_Vt_remove K G0 S p0 = some (.ok (), G', S')) : Met l y_Vt_remove (.code y_Vt_remove cb_Vt_remove 3 none :: V_Vq) ({ frames := 8, cells := G'.gc - G0.gc, slots := G'.gs - G0.gs, locals := 224 }) (va_Pc [.ref M.o_Vt, .int p0] (fun U => U.heap.size = sz ∧ at_ (dC, dI) (fun _ => True) (wV M Y G0 S) (tV M) U ∧ E (va_A (wV M Y G0 S) sz) U)) (va_Qv (fun (u : CT) => True) (fun (u : CT) t => at_ (dC, dI) (va_A (wV M Y G0 S) sz) (wV M u G' S') (tV M) t) (va_A (wV M Y G0 S) sz)) (G'.gc - G0.gc) (G'.gs - G0.gs) (va_A (wV M Y G0 S) sz) := by
  refine Met.ofW (cc := cb_Vt_remove) (maxL := 3) (ret := none) (by decide) rfl ?_
  intro p e s m args below meth c s₁ B hml hv
  obtain ⟨rfl, hsz, ⟨hP, hK, hD0⟩, hE⟩ := hv
  have hx := B.exec
  have hb := B.bytes
  have hr := B.returns
  have hts0 := atoms_spec (ws := .code y_Vt_remove cb_Vt_remove 3 none :: V_Vq) B.pre
  have hts : ∀ w ∈ V_Vq, w.before ([.ref M.o_Vt, .int p0] : List Value).toArray s = true := fun w h => hts0 w (List.mem_cons_of_mem _ h)
  have hown : s.vm.findClass R_Vt = some m.cls := findClass_of_methodNamed B.named
  subst hsz
  have hD := hD0.self (sz := s.heap.size)
  generalize hAe : va_A (wV M Y G0 S) s.heap.size = A at hD hE ⊢
  have hA : ∀ q : Nat, s.heap.size ≤ q → A q := fun q h => by rw [← hAe]; exact Or.inr h
  have hS : va_S A s.heap s.heap [] := va_S.rf
  have hP : va_P (dC, dI) classes (wV M Y G0 S) s.heap := hP
  have hK : va_K (dC, dI) classes (tV M) s := hK
  have hEw : ∀ (H : Heap) (locs : List Loc), va_S A s.heap H locs → ∀ U : State, U.heap = H → s.WarmedH U.vm → E A U := fun H locs hS U hU hW => X.kept A s U H locs hE hS hU hW
  have hl := lv_entry ([.ref M.o_Vt, .int p0]) (n := 3) (Nat.le_of_ble_eq_true rfl)
  rw [lg_entry_eq]
  generalize (lg_sl ([.ref M.o_Vt, .int p0]) ++ List.replicate (3 - (lg_sl ([.ref M.o_Vt, .int p0])).length) Slot.unset).toArray = ls at hl ⊢
  have hl : lv_has ls 3 [(0, .ref M.o_Vt), (1, .int p0)] := hl
  refine qabs (fun Q hQ => ?_)
  have hB_13 : ∀ (z_0 : Int32) (Y : CT) (G : CG) (S : CS) (H : Heap) (locs : List Loc) (ls : Array Slot), f_Vt_remove_13 K z_0 G S = some (.ok (), G', S') → CG.le G0 G → va_P (dC, dI) classes (wV M Y G S) H → va_D A (wV M Y G S) → va_S A s.heap H locs → lv_has ls 3 [(0, .ref M.o_Vt)] → W p l e ({ frames := 8, cells := G'.gc - G0.gc, slots := G'.gs - G0.gs, locals := 224 }) s m ([.ref M.o_Vt, .int p0] : List Value).toArray below meth c H locs (G.gc - G0.gc) (G.gs - G0.gs) Q (F0 m 13 ls [.int z_0]) := by
    intro z_0 Y G S H locs ls h m0 hP hD hS hl
    have mF := mo_Vt_remove_13 h
    rw [f_Vt_remove_13] at h
    refine lv_istore_n (lv' := [(2, .int z_0), (0, .ref M.o_Vt)]) hx hb d_Vt_remove_13 rfl hl (by decide) rfl (fun ls hl => ?_)
    refine lv_aload_n hx hb d_Vt_remove_14 rfl (lv_at hl 1 rfl) ?_
    refine va_get (D := (dC, dI)) (ci := 11) (v := .ref M.o_Tr) (C := R_Vt) (T := F_Vt) (N := 16) hx hb hts (fun w h => u_Vq_Vt w (i_Vt w h)) hown hK hP 0 rfl rfl 3 (by decide) (hts _ (u_Vq_Vt _ k_Vt_32)) (fun _ h9 => h9) rfl d_Vt_remove_15 ?_
    refine lv_iload_n hx hb d_Vt_remove_18 rfl (lv_at hl 0 rfl) ?_
    obtain ⟨r_4, S_4, hc_4, h⟩ := lf_cE h
    have hFc := lx_free hD hS hA
    refine va_calli (va_runV (As := [.int z_0]) (rest := []) ⟨hx, hb, hml, hown, hts⟩ (l_Tr_countIn l dC dI X _ hc_4) (cwV 1 hts (gwV good_Vq (u_Vq_Vt _ k_Vt_118) (u_Vq_Tr _ k_Tr_91) (u_Vq_Tr _ k_Tr_92) (u_Vq_Tr _ k_Tr_0) (wcs (u_Vq_Tr _ k_Tr_93) (fun _ h => h))) rfl rfl rfl (by decide +kernel) ⟨Nat.le_of_ble_eq_true rfl, Nat.le_of_ble_eq_true rfl⟩) (pv_ofE (X.same _) (fun U z1 z2 => X.mono _ _ U hFc (hEw _ _ hS U z1 z2)) hP hK hD (va_recv hK hP (ci := 5) (q0 := 4) rfl rfl)) rfl rfl hl.1 rfl (lv_room (Nat.le_of_ble_eq_true rfl)) d_Vt_remove_19 ⟨ly_c0 mF.1, ly_c0 mF.2⟩) hS (fun q _ h => hFc q h) hFc (fun r_ u t H locs ht hvm hw hB hz1 hk1 hS => ?_)
    rw [hw]
    obtain ⟨hP, -, hD⟩ := hB
    rw [ht] at hP
    have hD := lx_dj hD hFc
    refine lv_if_le (tgt := 36) hx hb d_Vt_remove_22 (by decide) (fun c_5 => ?_) (fun c_5 => ?_)
    · have h := lf_t h c_5
      refine lv_aload_n hx hb d_Vt_remove_36 rfl (lv_at hl 1 rfl) ?_
      obtain ⟨S_6, hc_6, h⟩ := lf_bE h
      have hFc := lx_free hD hS hA
      refine va_callv (va_runV (As := []) (rest := []) ⟨hx, hb, hml, hown, hts⟩ (l_Vt_changed l dC dI X _ hc_6) (cwV 0 hts (gwV good_Vq (u_Vq_Vt _ k_Vt_62) (u_Vq_Vt _ k_Vt_63) (u_Vq_Vt _ k_Vt_213) (u_Vq_Vt _ k_Vt_0) (wcs (u_Vq_Vt _ k_Vt_64) (fun _ h => h))) rfl rfl rfl (by decide +kernel) ⟨Nat.le_of_ble_eq_true rfl, Nat.le_of_ble_eq_true rfl⟩) (pv_ofE (X.same _) (fun U z1 z2 => X.mono _ _ U hFc (hEw _ _ hS U z1 z2)) hP hK hD (va_recv hK hP (ci := 11) (q0 := 0) rfl rfl)) rfl rfl hl.1 rfl (lv_room (Nat.le_of_ble_eq_true rfl)) d_Vt_remove_37 ⟨ly_c0 mF.1, ly_c0 mF.2⟩) hS (fun q _ h => hFc q h) hFc (fun u t H locs ht hvm hw hB hz1 hk1 hS => ?_)
      obtain ⟨hP, -, hD⟩ := hB
      rw [ht] at hP
      have hD := lx_dj hD hFc
      refine lv_aload_n hx hb d_Vt_remove_40 rfl (lv_at hl 1 rfl) ?_
      refine va_get (D := (dC, dI)) (ci := 11) (v := .ref M.o_Ed) (C := R_Vt) (T := F_Vt) (N := 16) hx hb hts (fun w h => u_Vq_Vt w (i_Vt w h)) hown hK hP 0 rfl rfl 5 (by decide) (hts _ (u_Vq_Vt _ k_Vt_34)) (fun _ h9 => h9) rfl d_Vt_remove_41 ?_
      refine lv_aload_n hx hb d_Vt_remove_44 rfl (lv_at hl 1 rfl) ?_
      refine va_get (D := (dC, dI)) (ci := 11) (v := .int S_6.v_Vt_here) (C := R_Vt) (T := F_Vt) (N := 16) hx hb hts (fun w h => u_Vq_Vt w (i_Vt w h)) hown hK hP 0 rfl rfl 12 (by decide) (hts _ (u_Vq_Vt _ k_Vt_41)) (fun _ h9 => h9) rfl d_Vt_remove_45 ?_
      refine lv_iload_n hx hb d_Vt_remove_48 rfl (lv_at hl 0 rfl) ?_
      obtain ⟨S_7, hc_7, h⟩ := lf_bE h
      have hFc := lx_free hD hS hA
      refine va_callv (va_runV (As := [.int S_6.v_Vt_here, .int z_0]) (rest := []) ⟨hx, hb, hml, hown, hts⟩ (l_Ed_dropItem l dC dI X _ hc_7) (cwV 2 hts (gwV good_Vq (u_Vq_Vt _ k_Vt_201) (u_Vq_Ed _ k_Ed_123) (u_Vq_Ed _ k_Ed_124) (u_Vq_Ed _ k_Ed_0) (wcs (u_Vq_Ed _ k_Ed_125) (fun _ h => h))) rfl rfl rfl (by decide +kernel) ⟨Nat.le_of_ble_eq_true rfl, Nat.le_of_ble_eq_true rfl⟩) (pv_ofE (X.same _) (fun U z1 z2 => X.mono _ _ U hFc (hEw _ _ hS U z1 z2)) hP hK hD (va_recv hK hP (ci := 8) (q0 := 6) rfl rfl)) rfl rfl hl.1 rfl (lv_room (Nat.le_of_ble_eq_true rfl)) d_Vt_remove_49 ⟨ly_c0 mF.1, ly_c0 mF.2⟩) hS (fun q _ h => hFc q h) hFc (fun u t H locs ht hvm hw hB hz1 hk1 hS => ?_)
      obtain ⟨hP, -, hD⟩ := hB
      rw [ht] at hP
      have hD := lx_dj hD hFc
      rw [hQ]
      have e2 : G = G' := congrArg (fun z => z.2.1) (Option.some.inj h)
      have e3 : S_7 = S' := congrArg (fun z => z.2.2) (Option.some.inj h)
      have hP := ly_newP3 e2.symm e3.symm hP
      have hD := ly_newD3 e2.symm e3.symm hD
      refine W.widen (k := G'.gc - G0.gc) (n := G'.gs - G0.gs) (ly_wc e2) (ly_ws e2) ?_
      exact W.vret hx hb hr (fun t ht hW => ⟨⟨Y, rfl, trivial, by rw [ht]; exact hP, va_K.moved hW.alike hK, hD⟩, hS.F ht⟩) hS.2.2 d_Vt_remove_52
    · have h := lf_f h c_5
      exact lf_xe h
  have hB_8 : ∀ (y_1 : Int32) (Y : CT) (G : CG) (S : CS) (H : Heap) (locs : List Loc) (ls : Array Slot), f_Vt_remove_8 K y_1 G S = some (.ok (), G', S') → CG.le G0 G → va_P (dC, dI) classes (wV M Y G S) H → va_D A (wV M Y G S) → va_S A s.heap H locs → lv_has ls 3 [(0, .ref M.o_Vt), (1, .int y_1)] → W p l e ({ frames := 8, cells := G'.gc - G0.gc, slots := G'.gs - G0.gs, locals := 224 }) s m ([.ref M.o_Vt, .int p0] : List Value).toArray below meth c H locs (G.gc - G0.gc) (G.gs - G0.gs) Q (F0 m 8 ls []) := by
    intro y_1 Y G S H locs ls h m0 hP hD hS hl
    have mF := mo_Vt_remove_8 h
    rw [f_Vt_remove_8] at h
    refine lv_aload_n hx hb d_Vt_remove_8 rfl (lv_at hl 0 rfl) ?_
    refine lv_iload_n hx hb d_Vt_remove_9 rfl (lv_at hl 1 rfl) ?_
    obtain ⟨r_3, G_3, S_3, hc_3, h⟩ := lf_aO h
    have mc := mo_Vt_itemHere hc_3
    have ml_3 := mo_Vt_itemHere hc_3
    have mF1 := mo_Vt_remove_13 h
    have hFc := lx_free hD hS hA
    refine va_calli (va_runV (As := [.int y_1]) (rest := []) ⟨hx, hb, hml, hown, hts⟩ (l_Vt_itemHere l dC dI X _ hc_3) (cwV 1 hts (gwV good_Vq (u_Vq_Vt _ k_Vt_130) (u_Vq_Vt _ k_Vt_131) (u_Vq_Vt _ k_Vt_217) (u_Vq_Vt _ k_Vt_0) (wcs (u_Vq_Vt _ k_Vt_132) (fun _ h => h))) rfl rfl rfl (by decide +kernel) ⟨Nat.le_of_ble_eq_true rfl, Nat.le_of_ble_eq_true rfl⟩) (pv_ofE (X.same _) (fun U z1 z2 => X.mono _ _ U hFc (hEw _ _ hS U z1 z2)) hP hK hD (va_recv hK hP (ci := 11) (q0 := 0) rfl rfl)) rfl rfl hl.1 rfl (lv_room (Nat.le_of_ble_eq_true rfl)) d_Vt_remove_10 ⟨ly_c1 m0.1 mc.1 mF1.1, ly_c1 m0.2 mc.2 mF1.2⟩) hS (fun q _ h => hFc q h) hFc (fun r_ Y_3 t H locs ht hvm hw hB hz1 hk1 hS => ?_)
    rw [hw]
    obtain ⟨hP, -, hD⟩ := hB
    rw [ht] at hP
    have hD := lx_dj hD hFc
    refine W.widen (k := G_3.gc - G0.gc) (n := G_3.gs - G0.gs) (ly_c2 m0.1 mc.1) (ly_c2 m0.2 mc.2) ?_
    have m0 := CG.le_tr m0 mc
    exact hB_13 r_3 Y_3 G_3 S_3 _ _ _ h m0 hP hD hS (lv_sub hl [0] rfl)
  have hB_5 : ∀ (y_1 : Int32) (z_1 : Int32) (Y : CT) (G : CG) (S : CS) (H : Heap) (locs : List Loc) (ls : Array Slot), f_Vt_remove_5 K y_1 z_1 G S = some (.ok (), G', S') → CG.le G0 G → va_P (dC, dI) classes (wV M Y G S) H → va_D A (wV M Y G S) → va_S A s.heap H locs → lv_has ls 3 [(0, .ref M.o_Vt), (1, .int y_1)] → W p l e ({ frames := 8, cells := G'.gc - G0.gc, slots := G'.gs - G0.gs, locals := 224 }) s m ([.ref M.o_Vt, .int p0] : List Value).toArray below meth c H locs (G.gc - G0.gc) (G.gs - G0.gs) Q (F0 m 5 ls [.int z_1, .ref M.o_Vt]) := by
    intro y_1 z_1 Y G S H locs ls h m0 hP hD hS hl
    have mF := mo_Vt_remove_5 h
    rw [f_Vt_remove_5] at h
    obtain ⟨r_2, G_2, S_2, hc_2, h⟩ := lf_aO h
    have mc := mo_Vt_wantSoundTable hc_2
    have ml_2 := mo_Vt_wantSoundTable hc_2
    have mF1 := mo_Vt_remove_8 h
    have hFc := lx_free hD hS hA
    refine va_callv (va_runV (As := [.int z_1]) (rest := []) ⟨hx, hb, hml, hown, hts⟩ (l_Vt_wantSoundTable l dC dI X _ hc_2) (cwV 1 hts (gwV good_Vq (u_Vq_Vt _ k_Vt_166) (u_Vq_Vt _ k_Vt_167) (u_Vq_Vt _ k_Vt_216) (u_Vq_Vt _ k_Vt_0) (wcs (u_Vq_Vt _ k_Vt_168) (fun _ h => h))) rfl rfl rfl (by decide +kernel) ⟨Nat.le_of_ble_eq_true rfl, Nat.le_of_ble_eq_true rfl⟩) (pv_ofE (X.same _) (fun U z1 z2 => X.mono _ _ U hFc (hEw _ _ hS U z1 z2)) hP hK hD (va_recv hK hP (ci := 11) (q0 := 0) rfl rfl)) rfl rfl hl.1 rfl (lv_room (Nat.le_of_ble_eq_true rfl)) d_Vt_remove_5 ⟨ly_c1 m0.1 mc.1 mF1.1, ly_c1 m0.2 mc.2 mF1.2⟩) hS (fun q _ h => hFc q h) hFc (fun Y_2 t H locs ht hvm hw hB hz1 hk1 hS => ?_)
    obtain ⟨hP, -, hD⟩ := hB
    rw [ht] at hP
    have hD := lx_dj hD hFc
    refine W.widen (k := G_2.gc - G0.gc) (n := G_2.gs - G0.gs) (ly_c2 m0.1 mc.1) (ly_c2 m0.2 mc.2) ?_
    have m0 := CG.le_tr m0 mc
    exact hB_8 y_1 Y_2 G_2 S_2 _ _ _ h m0 hP hD hS (lv_sub hl [0, 1] rfl)
  have m0 : CG.le G0 G0 := ⟨Nat.le_refl _, Nat.le_refl _⟩
  have mF := mo_Vt_remove h
  refine W.widen (k := G0.gc - G0.gc) (n := G0.gs - G0.gs) (Nat.zero_le _) (Nat.zero_le _) ?_
  rw [f_Vt_remove] at h
  refine lv_aload_n hx hb d_Vt_remove_0 rfl (lv_at hl 0 rfl) ?_
  refine lv_aload_n hx hb d_Vt_remove_1 rfl (lv_at hl 0 rfl) ?_
  obtain ⟨r_1, G_1, S_1, hc_1, h⟩ := lf_nE h
  have mc := mo_Vt_look hc_1
  have ml_1 := mo_Vt_look hc_1
  have mF1 := mo_Vt_remove_5 h
  have hFc := lx_free hD hS hA
  refine va_calli (va_runV (As := []) (rest := [.ref M.o_Vt]) ⟨hx, hb, hml, hown, hts⟩ (l_Vt_look l dC dI X _ hc_1) (cwV 0 hts (gwV good_Vq (u_Vq_Vt _ k_Vt_68) (u_Vq_Vt _ k_Vt_69) (u_Vq_Vt _ k_Vt_214) (u_Vq_Vt _ k_Vt_0) (wcs (u_Vq_Vt _ k_Vt_70) (fun _ h => h))) rfl rfl rfl (by decide +kernel) ⟨Nat.le_of_ble_eq_true rfl, Nat.le_of_ble_eq_true rfl⟩) (pv_ofE (X.same _) (fun U z1 z2 => X.mono _ _ U hFc (hEw _ _ hS U z1 z2)) hP hK hD (va_recv hK hP (ci := 11) (q0 := 0) rfl rfl)) rfl rfl hl.1 rfl (lv_room (Nat.le_of_ble_eq_true rfl)) d_Vt_remove_2 ⟨ly_c1 m0.1 mc.1 mF1.1, ly_c1 m0.2 mc.2 mF1.2⟩) hS (fun q _ h => hFc q h) hFc (fun r_ Y_1 t H locs ht hvm hw hB hz1 hk1 hS => ?_)
  rw [hw]
  obtain ⟨hP, -, hD⟩ := hB
  rw [ht] at hP
  have hD := lx_dj hD hFc
  refine W.widen (k := G_1.gc - G0.gc) (n := G_1.gs - G0.gs) (ly_c2 m0.1 mc.1) (ly_c2 m0.2 mc.2) ?_
  have m0 := CG.le_tr m0 mc
  exact hB_5 p0 r_1 Y_1 G_1 S_1 _ _ _ h m0 hP hD hS (lv_sub hl [0, 1] rfl)
set_option maxHeartbeats 4000000 in
set_option maxRecDepth 100000 in
theorem lt_Vt_remove_0 (l : Launch) (hfl : l.flags = pinnedFlags ++ [noTraceFlag]) (dC : Nat → ClassId) (dI : Nat → Nat → Nat) {K : Nat} {M : CA} {E : (Nat → Prop) → State → Prop} (X : ly_X l dC dI K M E) (sz : Nat) {Y : CT} {G0 G' : CG} {S S' : CS} {p0 : Int32} (h : f_Vt_remove K G0 S p0 = some (.error 0, G', S')) : MetX l y_Vt_remove (.code y_Vt_remove cb_Vt_remove 3 none :: V_Vq) ({ frames := 8, cells := G'.gc - G0.gc, slots := G'.gs - G0.gs, locals := 224 }) (va_Pc [.ref M.o_Vt, .int p0] (fun U => U.heap.size = sz ∧ at_ (dC, dI) (fun _ => True) (wV M Y G0 S) (tV M) U ∧ E (va_A (wV M Y G0 S) sz) U)) (fun _ _ _ _ => False) (x_Q "java/lang/IllegalArgumentException" (va_A (wV M Y G0 S) sz) (fun t => ∃ u : CT, at_ (dC, dI) (va_A (wV M Y G0 S) sz) (wV M u G' S') (tV M) t)) (G'.gc - G0.gc) (G'.gs - G0.gs) (va_A (wV M Y G0 S) sz) := by
  refine MetX.ofW (cc := cb_Vt_remove) (maxL := 3) (ret := none) (by decide) rfl ?_
  intro p e s m args below meth c s₁ B hml hv
  obtain ⟨rfl, hsz, ⟨hP, hK, hD0⟩, hE⟩ := hv
  have hx := B.exec
  have hb := B.bytes
  have hr := B.returns
  have hts0 := atoms_spec (ws := .code y_Vt_remove cb_Vt_remove 3 none :: V_Vq) B.pre
  have hts : ∀ w ∈ V_Vq, w.before ([.ref M.o_Vt, .int p0] : List Value).toArray s = true := fun w h => hts0 w (List.mem_cons_of_mem _ h)
  have hown : s.vm.findClass R_Vt = some m.cls := findClass_of_methodNamed B.named
  have hlocks := B.notSynchronized
  have hout := x_table B (hts0 _ List.mem_cons_self)
  subst hsz
  have hD := hD0.self (sz := s.heap.size)
  generalize hAe : va_A (wV M Y G0 S) s.heap.size = A at hD hE ⊢
  have hA : ∀ q : Nat, s.heap.size ≤ q → A q := fun q h => by rw [← hAe]; exact Or.inr h
  have hS : va_S A s.heap s.heap [] := va_S.rf
  have hP : va_P (dC, dI) classes (wV M Y G0 S) s.heap := hP
  have hK : va_K (dC, dI) classes (tV M) s := hK
  have hEw : ∀ (H : Heap) (locs : List Loc), va_S A s.heap H locs → ∀ U : State, U.heap = H → s.WarmedH U.vm → E A U := fun H locs hS U hU hW => X.kept A s U H locs hE hS hU hW
  have hl := lv_entry ([.ref M.o_Vt, .int p0]) (n := 3) (Nat.le_of_ble_eq_true rfl)
  rw [lg_entry_eq]
  generalize (lg_sl ([.ref M.o_Vt, .int p0]) ++ List.replicate (3 - (lg_sl ([.ref M.o_Vt, .int p0])).length) Slot.unset).toArray = ls at hl ⊢
  have hl : lv_has ls 3 [(0, .ref M.o_Vt), (1, .int p0)] := hl
  refine qabs (fun Q hQ => ?_)
  have hB_13 : ∀ (z_0 : Int32) (Y : CT) (G : CG) (S : CS) (H : Heap) (locs : List Loc) (ls : Array Slot), f_Vt_remove_13 K z_0 G S = some (.error 0, G', S') → CG.le G0 G → va_P (dC, dI) classes (wV M Y G S) H → va_D A (wV M Y G S) → va_S A s.heap H locs → lv_has ls 3 [(0, .ref M.o_Vt)] → W p l e ({ frames := 8, cells := G'.gc - G0.gc, slots := G'.gs - G0.gs, locals := 224 }) s m ([.ref M.o_Vt, .int p0] : List Value).toArray below meth c H locs (G.gc - G0.gc) (G.gs - G0.gs) Q (F0 m 13 ls [.int z_0]) := by
    intro z_0 Y G S H locs ls h m0 hP hD hS hl
    have mF := mo_Vt_remove_13 h
    rw [f_Vt_remove_13] at h
    refine lv_istore_n (lv' := [(2, .int z_0), (0, .ref M.o_Vt)]) hx hb d_Vt_remove_13 rfl hl (by decide) rfl (fun ls hl => ?_)
    refine lv_aload_n hx hb d_Vt_remove_14 rfl (lv_at hl 1 rfl) ?_
    refine va_get (D := (dC, dI)) (ci := 11) (v := .ref M.o_Tr) (C := R_Vt) (T := F_Vt) (N := 16) hx hb hts (fun w h => u_Vq_Vt w (i_Vt w h)) hown hK hP 0 rfl rfl 3 (by decide) (hts _ (u_Vq_Vt _ k_Vt_32)) (fun _ h9 => h9) rfl d_Vt_remove_15 ?_
    refine lv_iload_n hx hb d_Vt_remove_18 rfl (lv_at hl 0 rfl) ?_
    obtain ⟨r_4, S_4, hc_4, h⟩ := lf_cE h
    have hFc := lx_free hD hS hA
    refine va_calli (va_runV (As := [.int z_0]) (rest := []) ⟨hx, hb, hml, hown, hts⟩ (l_Tr_countIn l dC dI X _ hc_4) (cwV 1 hts (gwV good_Vq (u_Vq_Vt _ k_Vt_118) (u_Vq_Tr _ k_Tr_91) (u_Vq_Tr _ k_Tr_92) (u_Vq_Tr _ k_Tr_0) (wcs (u_Vq_Tr _ k_Tr_93) (fun _ h => h))) rfl rfl rfl (by decide +kernel) ⟨Nat.le_of_ble_eq_true rfl, Nat.le_of_ble_eq_true rfl⟩) (pv_ofE (X.same _) (fun U z1 z2 => X.mono _ _ U hFc (hEw _ _ hS U z1 z2)) hP hK hD (va_recv hK hP (ci := 5) (q0 := 4) rfl rfl)) rfl rfl hl.1 rfl (lv_room (Nat.le_of_ble_eq_true rfl)) d_Vt_remove_19 ⟨ly_c0 mF.1, ly_c0 mF.2⟩) hS (fun q _ h => hFc q h) hFc (fun r_ u t H locs ht hvm hw hB hz1 hk1 hS => ?_)
    rw [hw]
    obtain ⟨hP, -, hD⟩ := hB
    rw [ht] at hP
    have hD := lx_dj hD hFc
    refine lv_if_le (tgt := 36) hx hb d_Vt_remove_22 (by decide) (fun c_5 => ?_) (fun c_5 => ?_)
    · have h := lf_t h c_5
      refine lv_aload_n hx hb d_Vt_remove_36 rfl (lv_at hl 1 rfl) ?_
      obtain ⟨S_6, hc_6, h⟩ := lf_bE h
      have hFc := lx_free hD hS hA
      refine va_callv (va_runV (As := []) (rest := []) ⟨hx, hb, hml, hown, hts⟩ (l_Vt_changed l dC dI X _ hc_6) (cwV 0 hts (gwV good_Vq (u_Vq_Vt _ k_Vt_62) (u_Vq_Vt _ k_Vt_63) (u_Vq_Vt _ k_Vt_213) (u_Vq_Vt _ k_Vt_0) (wcs (u_Vq_Vt _ k_Vt_64) (fun _ h => h))) rfl rfl rfl (by decide +kernel) ⟨Nat.le_of_ble_eq_true rfl, Nat.le_of_ble_eq_true rfl⟩) (pv_ofE (X.same _) (fun U z1 z2 => X.mono _ _ U hFc (hEw _ _ hS U z1 z2)) hP hK hD (va_recv hK hP (ci := 11) (q0 := 0) rfl rfl)) rfl rfl hl.1 rfl (lv_room (Nat.le_of_ble_eq_true rfl)) d_Vt_remove_37 ⟨ly_c0 mF.1, ly_c0 mF.2⟩) hS (fun q _ h => hFc q h) hFc (fun u t H locs ht hvm hw hB hz1 hk1 hS => ?_)
      obtain ⟨hP, -, hD⟩ := hB
      rw [ht] at hP
      have hD := lx_dj hD hFc
      refine lv_aload_n hx hb d_Vt_remove_40 rfl (lv_at hl 1 rfl) ?_
      refine va_get (D := (dC, dI)) (ci := 11) (v := .ref M.o_Ed) (C := R_Vt) (T := F_Vt) (N := 16) hx hb hts (fun w h => u_Vq_Vt w (i_Vt w h)) hown hK hP 0 rfl rfl 5 (by decide) (hts _ (u_Vq_Vt _ k_Vt_34)) (fun _ h9 => h9) rfl d_Vt_remove_41 ?_
      refine lv_aload_n hx hb d_Vt_remove_44 rfl (lv_at hl 1 rfl) ?_
      refine va_get (D := (dC, dI)) (ci := 11) (v := .int S_6.v_Vt_here) (C := R_Vt) (T := F_Vt) (N := 16) hx hb hts (fun w h => u_Vq_Vt w (i_Vt w h)) hown hK hP 0 rfl rfl 12 (by decide) (hts _ (u_Vq_Vt _ k_Vt_41)) (fun _ h9 => h9) rfl d_Vt_remove_45 ?_
      refine lv_iload_n hx hb d_Vt_remove_48 rfl (lv_at hl 0 rfl) ?_
      obtain ⟨S_7, hc_7, h⟩ := lf_bE h
      have hFc := lx_free hD hS hA
      refine va_callv (va_runV (As := [.int S_6.v_Vt_here, .int z_0]) (rest := []) ⟨hx, hb, hml, hown, hts⟩ (l_Ed_dropItem l dC dI X _ hc_7) (cwV 2 hts (gwV good_Vq (u_Vq_Vt _ k_Vt_201) (u_Vq_Ed _ k_Ed_123) (u_Vq_Ed _ k_Ed_124) (u_Vq_Ed _ k_Ed_0) (wcs (u_Vq_Ed _ k_Ed_125) (fun _ h => h))) rfl rfl rfl (by decide +kernel) ⟨Nat.le_of_ble_eq_true rfl, Nat.le_of_ble_eq_true rfl⟩) (pv_ofE (X.same _) (fun U z1 z2 => X.mono _ _ U hFc (hEw _ _ hS U z1 z2)) hP hK hD (va_recv hK hP (ci := 8) (q0 := 6) rfl rfl)) rfl rfl hl.1 rfl (lv_room (Nat.le_of_ble_eq_true rfl)) d_Vt_remove_49 ⟨ly_c0 mF.1, ly_c0 mF.2⟩) hS (fun q _ h => hFc q h) hFc (fun u t H locs ht hvm hw hB hz1 hk1 hS => ?_)
      obtain ⟨hP, -, hD⟩ := hB
      rw [ht] at hP
      have hD := lx_dj hD hFc
      exact lf_xo h
    · have h := lf_f h c_5
      rw [hQ]
      have e2 : G.made 1 6 = G' := congrArg (fun z => z.2.1) (Option.some.inj h)
      have e3 : S_4 = S' := congrArg (fun z => z.2.2) (Option.some.inj h)
      have hP := ly_newP3 e2.symm e3.symm (ly_madeP (c := 1) (n := 6) hP)
      have hD := ly_newD3 e2.symm e3.symm (ly_madeD (c := 1) (n := 6) hD)
      refine W.mono (ly_mqx (fun t z => ⟨Y, z⟩)) ?_
      exact x_thrG (own := R_Vt) (cls := "java/lang/IllegalArgumentException") (ik := 133) (is := 278) (ic := 137) (k := 3) hx hb (Launch.traces_off hfl (Stand.of_body B).admits) hlocks hown (by decide) (fun T hT => (X.xt_278 _ _ (hEw _ _ hS (xs s T) hT (State.WarmedH.refl s))).1) (hts _ (u_Vq_Vt _ k_Vt_100)) (hts _ (u_Vq_Vt _ k_Vt_101)) (hts _ (u_Vq_Vt _ k_Vt_1)) (X.xt_278 _ _ hE).2 (hl.1.trans hml.symm) d_Vt_remove_25 d_Vt_remove_28 (Or.inr ⟨d_Vt_remove_29, rfl⟩) d_Vt_remove_32 d_Vt_remove_35 hout (Nat.le_of_ble_eq_true rfl) (Nat.le_of_ble_eq_true rfl) (ly_t1 e2 m0) (Nat.le_refl _) (ly_t2 e2 m0) (Nat.le_refl _) hP hK hD hS
  have hB_8 : ∀ (y_1 : Int32) (Y : CT) (G : CG) (S : CS) (H : Heap) (locs : List Loc) (ls : Array Slot), f_Vt_remove_8 K y_1 G S = some (.error 0, G', S') → CG.le G0 G → va_P (dC, dI) classes (wV M Y G S) H → va_D A (wV M Y G S) → va_S A s.heap H locs → lv_has ls 3 [(0, .ref M.o_Vt), (1, .int y_1)] → W p l e ({ frames := 8, cells := G'.gc - G0.gc, slots := G'.gs - G0.gs, locals := 224 }) s m ([.ref M.o_Vt, .int p0] : List Value).toArray below meth c H locs (G.gc - G0.gc) (G.gs - G0.gs) Q (F0 m 8 ls []) := by
    intro y_1 Y G S H locs ls h m0 hP hD hS hl
    have mF := mo_Vt_remove_8 h
    rw [f_Vt_remove_8] at h
    refine lv_aload_n hx hb d_Vt_remove_8 rfl (lv_at hl 0 rfl) ?_
    refine lv_iload_n hx hb d_Vt_remove_9 rfl (lv_at hl 1 rfl) ?_
    rcases lf_aT h with ⟨r_3, G_3, S_3, hc_3, h⟩ | h9
    · have mc := mo_Vt_itemHere hc_3
      have ml_3 := mo_Vt_itemHere hc_3
      have mF1 := mo_Vt_remove_13 h
      have hFc := lx_free hD hS hA
      refine va_calli (va_runV (As := [.int y_1]) (rest := []) ⟨hx, hb, hml, hown, hts⟩ (l_Vt_itemHere l dC dI X _ hc_3) (cwV 1 hts (gwV good_Vq (u_Vq_Vt _ k_Vt_130) (u_Vq_Vt _ k_Vt_131) (u_Vq_Vt _ k_Vt_217) (u_Vq_Vt _ k_Vt_0) (wcs (u_Vq_Vt _ k_Vt_132) (fun _ h => h))) rfl rfl rfl (by decide +kernel) ⟨Nat.le_of_ble_eq_true rfl, Nat.le_of_ble_eq_true rfl⟩) (pv_ofE (X.same _) (fun U z1 z2 => X.mono _ _ U hFc (hEw _ _ hS U z1 z2)) hP hK hD (va_recv hK hP (ci := 11) (q0 := 0) rfl rfl)) rfl rfl hl.1 rfl (lv_room (Nat.le_of_ble_eq_true rfl)) d_Vt_remove_10 ⟨ly_c1 m0.1 mc.1 mF1.1, ly_c1 m0.2 mc.2 mF1.2⟩) hS (fun q _ h => hFc q h) hFc (fun r_ Y_3 t H locs ht hvm hw hB hz1 hk1 hS => ?_)
      rw [hw]
      obtain ⟨hP, -, hD⟩ := hB
      rw [ht] at hP
      have hD := lx_dj hD hFc
      refine W.widen (k := G_3.gc - G0.gc) (n := G_3.gs - G0.gs) (ly_c2 m0.1 mc.1) (ly_c2 m0.2 mc.2) ?_
      have m0 := CG.le_tr m0 mc
      exact hB_13 r_3 Y_3 G_3 S_3 _ _ _ h m0 hP hD hS (lv_sub hl [0] rfl)
    · exact absurd (th_Vt_itemHere h9) (by decide)
  have hB_5 : ∀ (y_1 : Int32) (z_1 : Int32) (Y : CT) (G : CG) (S : CS) (H : Heap) (locs : List Loc) (ls : Array Slot), f_Vt_remove_5 K y_1 z_1 G S = some (.error 0, G', S') → CG.le G0 G → va_P (dC, dI) classes (wV M Y G S) H → va_D A (wV M Y G S) → va_S A s.heap H locs → lv_has ls 3 [(0, .ref M.o_Vt), (1, .int y_1)] → W p l e ({ frames := 8, cells := G'.gc - G0.gc, slots := G'.gs - G0.gs, locals := 224 }) s m ([.ref M.o_Vt, .int p0] : List Value).toArray below meth c H locs (G.gc - G0.gc) (G.gs - G0.gs) Q (F0 m 5 ls [.int z_1, .ref M.o_Vt]) := by
    intro y_1 z_1 Y G S H locs ls h m0 hP hD hS hl
    have mF := mo_Vt_remove_5 h
    rw [f_Vt_remove_5] at h
    rcases lf_aT h with ⟨r_2, G_2, S_2, hc_2, h⟩ | h9
    · have mc := mo_Vt_wantSoundTable hc_2
      have ml_2 := mo_Vt_wantSoundTable hc_2
      have mF1 := mo_Vt_remove_8 h
      have hFc := lx_free hD hS hA
      refine va_callv (va_runV (As := [.int z_1]) (rest := []) ⟨hx, hb, hml, hown, hts⟩ (l_Vt_wantSoundTable l dC dI X _ hc_2) (cwV 1 hts (gwV good_Vq (u_Vq_Vt _ k_Vt_166) (u_Vq_Vt _ k_Vt_167) (u_Vq_Vt _ k_Vt_216) (u_Vq_Vt _ k_Vt_0) (wcs (u_Vq_Vt _ k_Vt_168) (fun _ h => h))) rfl rfl rfl (by decide +kernel) ⟨Nat.le_of_ble_eq_true rfl, Nat.le_of_ble_eq_true rfl⟩) (pv_ofE (X.same _) (fun U z1 z2 => X.mono _ _ U hFc (hEw _ _ hS U z1 z2)) hP hK hD (va_recv hK hP (ci := 11) (q0 := 0) rfl rfl)) rfl rfl hl.1 rfl (lv_room (Nat.le_of_ble_eq_true rfl)) d_Vt_remove_5 ⟨ly_c1 m0.1 mc.1 mF1.1, ly_c1 m0.2 mc.2 mF1.2⟩) hS (fun q _ h => hFc q h) hFc (fun Y_2 t H locs ht hvm hw hB hz1 hk1 hS => ?_)
      obtain ⟨hP, -, hD⟩ := hB
      rw [ht] at hP
      have hD := lx_dj hD hFc
      refine W.widen (k := G_2.gc - G0.gc) (n := G_2.gs - G0.gs) (ly_c2 m0.1 mc.1) (ly_c2 m0.2 mc.2) ?_
      have m0 := CG.le_tr m0 mc
      exact hB_8 y_1 Y_2 G_2 S_2 _ _ _ h m0 hP hD hS (lv_sub hl [0, 1] rfl)
    · exact absurd (th_Vt_wantSoundTable h9) (by decide)
  have m0 : CG.le G0 G0 := ⟨Nat.le_refl _, Nat.le_refl _⟩
  have mF := mo_Vt_remove h
  refine W.widen (k := G0.gc - G0.gc) (n := G0.gs - G0.gs) (Nat.zero_le _) (Nat.zero_le _) ?_
  rw [f_Vt_remove] at h
  refine lv_aload_n hx hb d_Vt_remove_0 rfl (lv_at hl 0 rfl) ?_
  refine lv_aload_n hx hb d_Vt_remove_1 rfl (lv_at hl 0 rfl) ?_
  obtain ⟨r_1, G_1, S_1, hc_1, h⟩ := lf_nE h
  have mc := mo_Vt_look hc_1
  have ml_1 := mo_Vt_look hc_1
  have mF1 := mo_Vt_remove_5 h
  have hFc := lx_free hD hS hA
  refine va_calli (va_runV (As := []) (rest := [.ref M.o_Vt]) ⟨hx, hb, hml, hown, hts⟩ (l_Vt_look l dC dI X _ hc_1) (cwV 0 hts (gwV good_Vq (u_Vq_Vt _ k_Vt_68) (u_Vq_Vt _ k_Vt_69) (u_Vq_Vt _ k_Vt_214) (u_Vq_Vt _ k_Vt_0) (wcs (u_Vq_Vt _ k_Vt_70) (fun _ h => h))) rfl rfl rfl (by decide +kernel) ⟨Nat.le_of_ble_eq_true rfl, Nat.le_of_ble_eq_true rfl⟩) (pv_ofE (X.same _) (fun U z1 z2 => X.mono _ _ U hFc (hEw _ _ hS U z1 z2)) hP hK hD (va_recv hK hP (ci := 11) (q0 := 0) rfl rfl)) rfl rfl hl.1 rfl (lv_room (Nat.le_of_ble_eq_true rfl)) d_Vt_remove_2 ⟨ly_c1 m0.1 mc.1 mF1.1, ly_c1 m0.2 mc.2 mF1.2⟩) hS (fun q _ h => hFc q h) hFc (fun r_ Y_1 t H locs ht hvm hw hB hz1 hk1 hS => ?_)
  rw [hw]
  obtain ⟨hP, -, hD⟩ := hB
  rw [ht] at hP
  have hD := lx_dj hD hFc
  refine W.widen (k := G_1.gc - G0.gc) (n := G_1.gs - G0.gs) (ly_c2 m0.1 mc.1) (ly_c2 m0.2 mc.2) ?_
  have m0 := CG.le_tr m0 mc
  exact hB_5 p0 r_1 Y_1 G_1 S_1 _ _ _ h m0 hP hD hS (lv_sub hl [0, 1] rfl)
set_option maxHeartbeats 4000000 in
set_option maxRecDepth 100000 in
theorem lt_Vt_remove_1 (l : Launch) (hfl : l.flags = pinnedFlags ++ [noTraceFlag]) (dC : Nat → ClassId) (dI : Nat → Nat → Nat) {K : Nat} {M : CA} {E : (Nat → Prop) → State → Prop} (X : ly_X l dC dI K M E) (sz : Nat) {Y : CT} {G0 G' : CG} {S S' : CS} {p0 : Int32} (h : f_Vt_remove K G0 S p0 = some (.error 1, G', S')) : MetX l y_Vt_remove (.code y_Vt_remove cb_Vt_remove 3 none :: V_Vq) ({ frames := 8, cells := G'.gc - G0.gc, slots := G'.gs - G0.gs, locals := 224 }) (va_Pc [.ref M.o_Vt, .int p0] (fun U => U.heap.size = sz ∧ at_ (dC, dI) (fun _ => True) (wV M Y G0 S) (tV M) U ∧ E (va_A (wV M Y G0 S) sz) U)) (fun _ _ _ _ => False) (x_Q "java/lang/IllegalStateException" (va_A (wV M Y G0 S) sz) (fun t => ∃ u : CT, at_ (dC, dI) (va_A (wV M Y G0 S) sz) (wV M u G' S') (tV M) t)) (G'.gc - G0.gc) (G'.gs - G0.gs) (va_A (wV M Y G0 S) sz) := by
  refine MetX.ofW (cc := cb_Vt_remove) (maxL := 3) (ret := none) (by decide) rfl ?_
  intro p e s m args below meth c s₁ B hml hv
  obtain ⟨rfl, hsz, ⟨hP, hK, hD0⟩, hE⟩ := hv
  have hx := B.exec
  have hb := B.bytes
  have hr := B.returns
  have hts0 := atoms_spec (ws := .code y_Vt_remove cb_Vt_remove 3 none :: V_Vq) B.pre
  have hts : ∀ w ∈ V_Vq, w.before ([.ref M.o_Vt, .int p0] : List Value).toArray s = true := fun w h => hts0 w (List.mem_cons_of_mem _ h)
  have hown : s.vm.findClass R_Vt = some m.cls := findClass_of_methodNamed B.named
  have hlocks := B.notSynchronized
  have hout := x_table B (hts0 _ List.mem_cons_self)
  subst hsz
  have hD := hD0.self (sz := s.heap.size)
  generalize hAe : va_A (wV M Y G0 S) s.heap.size = A at hD hE ⊢
  have hA : ∀ q : Nat, s.heap.size ≤ q → A q := fun q h => by rw [← hAe]; exact Or.inr h
  have hS : va_S A s.heap s.heap [] := va_S.rf
  have hP : va_P (dC, dI) classes (wV M Y G0 S) s.heap := hP
  have hK : va_K (dC, dI) classes (tV M) s := hK
  have hEw : ∀ (H : Heap) (locs : List Loc), va_S A s.heap H locs → ∀ U : State, U.heap = H → s.WarmedH U.vm → E A U := fun H locs hS U hU hW => X.kept A s U H locs hE hS hU hW
  have hl := lv_entry ([.ref M.o_Vt, .int p0]) (n := 3) (Nat.le_of_ble_eq_true rfl)
  rw [lg_entry_eq]
  generalize (lg_sl ([.ref M.o_Vt, .int p0]) ++ List.replicate (3 - (lg_sl ([.ref M.o_Vt, .int p0])).length) Slot.unset).toArray = ls at hl ⊢
  have hl : lv_has ls 3 [(0, .ref M.o_Vt), (1, .int p0)] := hl
  refine qabs (fun Q hQ => ?_)
  have hB_13 : ∀ (z_0 : Int32) (Y : CT) (G : CG) (S : CS) (H : Heap) (locs : List Loc) (ls : Array Slot), f_Vt_remove_13 K z_0 G S = some (.error 1, G', S') → CG.le G0 G → va_P (dC, dI) classes (wV M Y G S) H → va_D A (wV M Y G S) → va_S A s.heap H locs → lv_has ls 3 [(0, .ref M.o_Vt)] → W p l e ({ frames := 8, cells := G'.gc - G0.gc, slots := G'.gs - G0.gs, locals := 224 }) s m ([.ref M.o_Vt, .int p0] : List Value).toArray below meth c H locs (G.gc - G0.gc) (G.gs - G0.gs) Q (F0 m 13 ls [.int z_0]) := by
    intro z_0 Y G S H locs ls h m0 hP hD hS hl
    have mF := mo_Vt_remove_13 h
    rw [f_Vt_remove_13] at h
    refine lv_istore_n (lv' := [(2, .int z_0), (0, .ref M.o_Vt)]) hx hb d_Vt_remove_13 rfl hl (by decide) rfl (fun ls hl => ?_)
    refine lv_aload_n hx hb d_Vt_remove_14 rfl (lv_at hl 1 rfl) ?_
    refine va_get (D := (dC, dI)) (ci := 11) (v := .ref M.o_Tr) (C := R_Vt) (T := F_Vt) (N := 16) hx hb hts (fun w h => u_Vq_Vt w (i_Vt w h)) hown hK hP 0 rfl rfl 3 (by decide) (hts _ (u_Vq_Vt _ k_Vt_32)) (fun _ h9 => h9) rfl d_Vt_remove_15 ?_
    refine lv_iload_n hx hb d_Vt_remove_18 rfl (lv_at hl 0 rfl) ?_
    obtain ⟨r_4, S_4, hc_4, h⟩ := lf_cE h
    have hFc := lx_free hD hS hA
    refine va_calli (va_runV (As := [.int z_0]) (rest := []) ⟨hx, hb, hml, hown, hts⟩ (l_Tr_countIn l dC dI X _ hc_4) (cwV 1 hts (gwV good_Vq (u_Vq_Vt _ k_Vt_118) (u_Vq_Tr _ k_Tr_91) (u_Vq_Tr _ k_Tr_92) (u_Vq_Tr _ k_Tr_0) (wcs (u_Vq_Tr _ k_Tr_93) (fun _ h => h))) rfl rfl rfl (by decide +kernel) ⟨Nat.le_of_ble_eq_true rfl, Nat.le_of_ble_eq_true rfl⟩) (pv_ofE (X.same _) (fun U z1 z2 => X.mono _ _ U hFc (hEw _ _ hS U z1 z2)) hP hK hD (va_recv hK hP (ci := 5) (q0 := 4) rfl rfl)) rfl rfl hl.1 rfl (lv_room (Nat.le_of_ble_eq_true rfl)) d_Vt_remove_19 ⟨ly_c0 mF.1, ly_c0 mF.2⟩) hS (fun q _ h => hFc q h) hFc (fun r_ u t H locs ht hvm hw hB hz1 hk1 hS => ?_)
    rw [hw]
    obtain ⟨hP, -, hD⟩ := hB
    rw [ht] at hP
    have hD := lx_dj hD hFc
    refine lv_if_le (tgt := 36) hx hb d_Vt_remove_22 (by decide) (fun c_5 => ?_) (fun c_5 => ?_)
    · have h := lf_t h c_5
      refine lv_aload_n hx hb d_Vt_remove_36 rfl (lv_at hl 1 rfl) ?_
      obtain ⟨S_6, hc_6, h⟩ := lf_bE h
      have hFc := lx_free hD hS hA
      refine va_callv (va_runV (As := []) (rest := []) ⟨hx, hb, hml, hown, hts⟩ (l_Vt_changed l dC dI X _ hc_6) (cwV 0 hts (gwV good_Vq (u_Vq_Vt _ k_Vt_62) (u_Vq_Vt _ k_Vt_63) (u_Vq_Vt _ k_Vt_213) (u_Vq_Vt _ k_Vt_0) (wcs (u_Vq_Vt _ k_Vt_64) (fun _ h => h))) rfl rfl rfl (by decide +kernel) ⟨Nat.le_of_ble_eq_true rfl, Nat.le_of_ble_eq_true rfl⟩) (pv_ofE (X.same _) (fun U z1 z2 => X.mono _ _ U hFc (hEw _ _ hS U z1 z2)) hP hK hD (va_recv hK hP (ci := 11) (q0 := 0) rfl rfl)) rfl rfl hl.1 rfl (lv_room (Nat.le_of_ble_eq_true rfl)) d_Vt_remove_37 ⟨ly_c0 mF.1, ly_c0 mF.2⟩) hS (fun q _ h => hFc q h) hFc (fun u t H locs ht hvm hw hB hz1 hk1 hS => ?_)
      obtain ⟨hP, -, hD⟩ := hB
      rw [ht] at hP
      have hD := lx_dj hD hFc
      refine lv_aload_n hx hb d_Vt_remove_40 rfl (lv_at hl 1 rfl) ?_
      refine va_get (D := (dC, dI)) (ci := 11) (v := .ref M.o_Ed) (C := R_Vt) (T := F_Vt) (N := 16) hx hb hts (fun w h => u_Vq_Vt w (i_Vt w h)) hown hK hP 0 rfl rfl 5 (by decide) (hts _ (u_Vq_Vt _ k_Vt_34)) (fun _ h9 => h9) rfl d_Vt_remove_41 ?_
      refine lv_aload_n hx hb d_Vt_remove_44 rfl (lv_at hl 1 rfl) ?_
      refine va_get (D := (dC, dI)) (ci := 11) (v := .int S_6.v_Vt_here) (C := R_Vt) (T := F_Vt) (N := 16) hx hb hts (fun w h => u_Vq_Vt w (i_Vt w h)) hown hK hP 0 rfl rfl 12 (by decide) (hts _ (u_Vq_Vt _ k_Vt_41)) (fun _ h9 => h9) rfl d_Vt_remove_45 ?_
      refine lv_iload_n hx hb d_Vt_remove_48 rfl (lv_at hl 0 rfl) ?_
      obtain ⟨S_7, hc_7, h⟩ := lf_bE h
      have hFc := lx_free hD hS hA
      refine va_callv (va_runV (As := [.int S_6.v_Vt_here, .int z_0]) (rest := []) ⟨hx, hb, hml, hown, hts⟩ (l_Ed_dropItem l dC dI X _ hc_7) (cwV 2 hts (gwV good_Vq (u_Vq_Vt _ k_Vt_201) (u_Vq_Ed _ k_Ed_123) (u_Vq_Ed _ k_Ed_124) (u_Vq_Ed _ k_Ed_0) (wcs (u_Vq_Ed _ k_Ed_125) (fun _ h => h))) rfl rfl rfl (by decide +kernel) ⟨Nat.le_of_ble_eq_true rfl, Nat.le_of_ble_eq_true rfl⟩) (pv_ofE (X.same _) (fun U z1 z2 => X.mono _ _ U hFc (hEw _ _ hS U z1 z2)) hP hK hD (va_recv hK hP (ci := 8) (q0 := 6) rfl rfl)) rfl rfl hl.1 rfl (lv_room (Nat.le_of_ble_eq_true rfl)) d_Vt_remove_49 ⟨ly_c0 mF.1, ly_c0 mF.2⟩) hS (fun q _ h => hFc q h) hFc (fun u t H locs ht hvm hw hB hz1 hk1 hS => ?_)
      obtain ⟨hP, -, hD⟩ := hB
      rw [ht] at hP
      have hD := lx_dj hD hFc
      exact lf_xo h
    · have h := lf_f h c_5
      exact lf_xk h (by decide)
  have hB_8 : ∀ (y_1 : Int32) (Y : CT) (G : CG) (S : CS) (H : Heap) (locs : List Loc) (ls : Array Slot), f_Vt_remove_8 K y_1 G S = some (.error 1, G', S') → CG.le G0 G → va_P (dC, dI) classes (wV M Y G S) H → va_D A (wV M Y G S) → va_S A s.heap H locs → lv_has ls 3 [(0, .ref M.o_Vt), (1, .int y_1)] → W p l e ({ frames := 8, cells := G'.gc - G0.gc, slots := G'.gs - G0.gs, locals := 224 }) s m ([.ref M.o_Vt, .int p0] : List Value).toArray below meth c H locs (G.gc - G0.gc) (G.gs - G0.gs) Q (F0 m 8 ls []) := by
    intro y_1 Y G S H locs ls h m0 hP hD hS hl
    have mF := mo_Vt_remove_8 h
    rw [f_Vt_remove_8] at h
    refine lv_aload_n hx hb d_Vt_remove_8 rfl (lv_at hl 0 rfl) ?_
    refine lv_iload_n hx hb d_Vt_remove_9 rfl (lv_at hl 1 rfl) ?_
    rcases lf_aT h with ⟨r_3, G_3, S_3, hc_3, h⟩ | h9
    · have mc := mo_Vt_itemHere hc_3
      have ml_3 := mo_Vt_itemHere hc_3
      have mF1 := mo_Vt_remove_13 h
      have hFc := lx_free hD hS hA
      refine va_calli (va_runV (As := [.int y_1]) (rest := []) ⟨hx, hb, hml, hown, hts⟩ (l_Vt_itemHere l dC dI X _ hc_3) (cwV 1 hts (gwV good_Vq (u_Vq_Vt _ k_Vt_130) (u_Vq_Vt _ k_Vt_131) (u_Vq_Vt _ k_Vt_217) (u_Vq_Vt _ k_Vt_0) (wcs (u_Vq_Vt _ k_Vt_132) (fun _ h => h))) rfl rfl rfl (by decide +kernel) ⟨Nat.le_of_ble_eq_true rfl, Nat.le_of_ble_eq_true rfl⟩) (pv_ofE (X.same _) (fun U z1 z2 => X.mono _ _ U hFc (hEw _ _ hS U z1 z2)) hP hK hD (va_recv hK hP (ci := 11) (q0 := 0) rfl rfl)) rfl rfl hl.1 rfl (lv_room (Nat.le_of_ble_eq_true rfl)) d_Vt_remove_10 ⟨ly_c1 m0.1 mc.1 mF1.1, ly_c1 m0.2 mc.2 mF1.2⟩) hS (fun q _ h => hFc q h) hFc (fun r_ Y_3 t H locs ht hvm hw hB hz1 hk1 hS => ?_)
      rw [hw]
      obtain ⟨hP, -, hD⟩ := hB
      rw [ht] at hP
      have hD := lx_dj hD hFc
      refine W.widen (k := G_3.gc - G0.gc) (n := G_3.gs - G0.gs) (ly_c2 m0.1 mc.1) (ly_c2 m0.2 mc.2) ?_
      have m0 := CG.le_tr m0 mc
      exact hB_13 r_3 Y_3 G_3 S_3 _ _ _ h m0 hP hD hS (lv_sub hl [0] rfl)
    · exact absurd (th_Vt_itemHere h9) (by decide)
  have hB_5 : ∀ (y_1 : Int32) (z_1 : Int32) (Y : CT) (G : CG) (S : CS) (H : Heap) (locs : List Loc) (ls : Array Slot), f_Vt_remove_5 K y_1 z_1 G S = some (.error 1, G', S') → CG.le G0 G → va_P (dC, dI) classes (wV M Y G S) H → va_D A (wV M Y G S) → va_S A s.heap H locs → lv_has ls 3 [(0, .ref M.o_Vt), (1, .int y_1)] → W p l e ({ frames := 8, cells := G'.gc - G0.gc, slots := G'.gs - G0.gs, locals := 224 }) s m ([.ref M.o_Vt, .int p0] : List Value).toArray below meth c H locs (G.gc - G0.gc) (G.gs - G0.gs) Q (F0 m 5 ls [.int z_1, .ref M.o_Vt]) := by
    intro y_1 z_1 Y G S H locs ls h m0 hP hD hS hl
    have mF := mo_Vt_remove_5 h
    rw [f_Vt_remove_5] at h
    rcases lf_aT h with ⟨r_2, G_2, S_2, hc_2, h⟩ | h9
    · have mc := mo_Vt_wantSoundTable hc_2
      have ml_2 := mo_Vt_wantSoundTable hc_2
      have mF1 := mo_Vt_remove_8 h
      have hFc := lx_free hD hS hA
      refine va_callv (va_runV (As := [.int z_1]) (rest := []) ⟨hx, hb, hml, hown, hts⟩ (l_Vt_wantSoundTable l dC dI X _ hc_2) (cwV 1 hts (gwV good_Vq (u_Vq_Vt _ k_Vt_166) (u_Vq_Vt _ k_Vt_167) (u_Vq_Vt _ k_Vt_216) (u_Vq_Vt _ k_Vt_0) (wcs (u_Vq_Vt _ k_Vt_168) (fun _ h => h))) rfl rfl rfl (by decide +kernel) ⟨Nat.le_of_ble_eq_true rfl, Nat.le_of_ble_eq_true rfl⟩) (pv_ofE (X.same _) (fun U z1 z2 => X.mono _ _ U hFc (hEw _ _ hS U z1 z2)) hP hK hD (va_recv hK hP (ci := 11) (q0 := 0) rfl rfl)) rfl rfl hl.1 rfl (lv_room (Nat.le_of_ble_eq_true rfl)) d_Vt_remove_5 ⟨ly_c1 m0.1 mc.1 mF1.1, ly_c1 m0.2 mc.2 mF1.2⟩) hS (fun q _ h => hFc q h) hFc (fun Y_2 t H locs ht hvm hw hB hz1 hk1 hS => ?_)
      obtain ⟨hP, -, hD⟩ := hB
      rw [ht] at hP
      have hD := lx_dj hD hFc
      refine W.widen (k := G_2.gc - G0.gc) (n := G_2.gs - G0.gs) (ly_c2 m0.1 mc.1) (ly_c2 m0.2 mc.2) ?_
      have m0 := CG.le_tr m0 mc
      exact hB_8 y_1 Y_2 G_2 S_2 _ _ _ h m0 hP hD hS (lv_sub hl [0, 1] rfl)
    · have mc := mo_Vt_wantSoundTable h9
      have hFc := lx_free hD hS hA
      rw [hQ]
      exact x_outV (n := 1) (As := [.int z_1]) (rest := []) (b := M.o_Vt) (st0 := [.int z_1, .ref M.o_Vt]) ⟨hx, hb, hml, hown, hts⟩ (lt_Vt_wantSoundTable_1 l hfl dC dI X _ h9) (cwV 1 hts (gwV good_Vq (u_Vq_Vt _ k_Vt_166) (u_Vq_Vt _ k_Vt_167) (u_Vq_Vt _ k_Vt_216) (u_Vq_Vt _ k_Vt_0) (wcs (u_Vq_Vt _ k_Vt_168) (fun _ h => h))) rfl rfl rfl (by decide +kernel) ⟨Nat.le_of_ble_eq_true rfl, Nat.le_of_ble_eq_true rfl⟩) (pv_ofE (X.same _) (fun U z1 z2 => X.mono _ _ U hFc (hEw _ _ hS U z1 z2)) hP hK hD (va_recv hK hP (ci := 11) (q0 := 0) rfl rfl)) rfl hl.1 rfl (Nat.le_of_ble_eq_true rfl) d_Vt_remove_5 ⟨ly_c2 m0.1 mc.1, ly_c2 m0.2 mc.2⟩ hlocks hout ⟨ly_c2 m0.1 mc.1, ly_c2 m0.2 mc.2⟩ (fun E st t U z1 z2 z3 z4 z5 => ly_outQ hS hK hFc z1 z3 z4 z5) ⟨hS.2.2, fun z h => hFc z h⟩
  have m0 : CG.le G0 G0 := ⟨Nat.le_refl _, Nat.le_refl _⟩
  have mF := mo_Vt_remove h
  refine W.widen (k := G0.gc - G0.gc) (n := G0.gs - G0.gs) (Nat.zero_le _) (Nat.zero_le _) ?_
  rw [f_Vt_remove] at h
  refine lv_aload_n hx hb d_Vt_remove_0 rfl (lv_at hl 0 rfl) ?_
  refine lv_aload_n hx hb d_Vt_remove_1 rfl (lv_at hl 0 rfl) ?_
  obtain ⟨r_1, G_1, S_1, hc_1, h⟩ := lf_nE h
  have mc := mo_Vt_look hc_1
  have ml_1 := mo_Vt_look hc_1
  have mF1 := mo_Vt_remove_5 h
  have hFc := lx_free hD hS hA
  refine va_calli (va_runV (As := []) (rest := [.ref M.o_Vt]) ⟨hx, hb, hml, hown, hts⟩ (l_Vt_look l dC dI X _ hc_1) (cwV 0 hts (gwV good_Vq (u_Vq_Vt _ k_Vt_68) (u_Vq_Vt _ k_Vt_69) (u_Vq_Vt _ k_Vt_214) (u_Vq_Vt _ k_Vt_0) (wcs (u_Vq_Vt _ k_Vt_70) (fun _ h => h))) rfl rfl rfl (by decide +kernel) ⟨Nat.le_of_ble_eq_true rfl, Nat.le_of_ble_eq_true rfl⟩) (pv_ofE (X.same _) (fun U z1 z2 => X.mono _ _ U hFc (hEw _ _ hS U z1 z2)) hP hK hD (va_recv hK hP (ci := 11) (q0 := 0) rfl rfl)) rfl rfl hl.1 rfl (lv_room (Nat.le_of_ble_eq_true rfl)) d_Vt_remove_2 ⟨ly_c1 m0.1 mc.1 mF1.1, ly_c1 m0.2 mc.2 mF1.2⟩) hS (fun q _ h => hFc q h) hFc (fun r_ Y_1 t H locs ht hvm hw hB hz1 hk1 hS => ?_)
  rw [hw]
  obtain ⟨hP, -, hD⟩ := hB
  rw [ht] at hP
  have hD := lx_dj hD hFc
  refine W.widen (k := G_1.gc - G0.gc) (n := G_1.gs - G0.gs) (ly_c2 m0.1 mc.1) (ly_c2 m0.2 mc.2) ?_
  have m0 := CG.le_tr m0 mc
  exact hB_5 p0 r_1 Y_1 G_1 S_1 _ _ _ h m0 hP hD hS (lv_sub hl [0, 1] rfl)
set_option maxHeartbeats 4000000 in
set_option maxRecDepth 100000 in
theorem lt_Vt_remove_2 (l : Launch) (hfl : l.flags = pinnedFlags ++ [noTraceFlag]) (dC : Nat → ClassId) (dI : Nat → Nat → Nat) {K : Nat} {M : CA} {E : (Nat → Prop) → State → Prop} (X : ly_X l dC dI K M E) (sz : Nat) {Y : CT} {G0 G' : CG} {S S' : CS} {p0 : Int32} (h : f_Vt_remove K G0 S p0 = some (.error 2, G', S')) : MetX l y_Vt_remove (.code y_Vt_remove cb_Vt_remove 3 none :: V_Vq) ({ frames := 8, cells := G'.gc - G0.gc, slots := G'.gs - G0.gs, locals := 224 }) (va_Pc [.ref M.o_Vt, .int p0] (fun U => U.heap.size = sz ∧ at_ (dC, dI) (fun _ => True) (wV M Y G0 S) (tV M) U ∧ E (va_A (wV M Y G0 S) sz) U)) (fun _ _ _ _ => False) (x_Q "java/lang/IndexOutOfBoundsException" (va_A (wV M Y G0 S) sz) (fun t => ∃ u : CT, at_ (dC, dI) (va_A (wV M Y G0 S) sz) (wV M u G' S') (tV M) t)) (G'.gc - G0.gc) (G'.gs - G0.gs) (va_A (wV M Y G0 S) sz) := by
  refine MetX.ofW (cc := cb_Vt_remove) (maxL := 3) (ret := none) (by decide) rfl ?_
  intro p e s m args below meth c s₁ B hml hv
  obtain ⟨rfl, hsz, ⟨hP, hK, hD0⟩, hE⟩ := hv
  have hx := B.exec
  have hb := B.bytes
  have hr := B.returns
  have hts0 := atoms_spec (ws := .code y_Vt_remove cb_Vt_remove 3 none :: V_Vq) B.pre
  have hts : ∀ w ∈ V_Vq, w.before ([.ref M.o_Vt, .int p0] : List Value).toArray s = true := fun w h => hts0 w (List.mem_cons_of_mem _ h)
  have hown : s.vm.findClass R_Vt = some m.cls := findClass_of_methodNamed B.named
  have hlocks := B.notSynchronized
  have hout := x_table B (hts0 _ List.mem_cons_self)
  subst hsz
  have hD := hD0.self (sz := s.heap.size)
  generalize hAe : va_A (wV M Y G0 S) s.heap.size = A at hD hE ⊢
  have hA : ∀ q : Nat, s.heap.size ≤ q → A q := fun q h => by rw [← hAe]; exact Or.inr h
  have hS : va_S A s.heap s.heap [] := va_S.rf
  have hP : va_P (dC, dI) classes (wV M Y G0 S) s.heap := hP
  have hK : va_K (dC, dI) classes (tV M) s := hK
  have hEw : ∀ (H : Heap) (locs : List Loc), va_S A s.heap H locs → ∀ U : State, U.heap = H → s.WarmedH U.vm → E A U := fun H locs hS U hU hW => X.kept A s U H locs hE hS hU hW
  have hl := lv_entry ([.ref M.o_Vt, .int p0]) (n := 3) (Nat.le_of_ble_eq_true rfl)
  rw [lg_entry_eq]
  generalize (lg_sl ([.ref M.o_Vt, .int p0]) ++ List.replicate (3 - (lg_sl ([.ref M.o_Vt, .int p0])).length) Slot.unset).toArray = ls at hl ⊢
  have hl : lv_has ls 3 [(0, .ref M.o_Vt), (1, .int p0)] := hl
  refine qabs (fun Q hQ => ?_)
  have hB_13 : ∀ (z_0 : Int32) (Y : CT) (G : CG) (S : CS) (H : Heap) (locs : List Loc) (ls : Array Slot), f_Vt_remove_13 K z_0 G S = some (.error 2, G', S') → CG.le G0 G → va_P (dC, dI) classes (wV M Y G S) H → va_D A (wV M Y G S) → va_S A s.heap H locs → lv_has ls 3 [(0, .ref M.o_Vt)] → W p l e ({ frames := 8, cells := G'.gc - G0.gc, slots := G'.gs - G0.gs, locals := 224 }) s m ([.ref M.o_Vt, .int p0] : List Value).toArray below meth c H locs (G.gc - G0.gc) (G.gs - G0.gs) Q (F0 m 13 ls [.int z_0]) := by
    intro z_0 Y G S H locs ls h m0 hP hD hS hl
    have mF := mo_Vt_remove_13 h
    rw [f_Vt_remove_13] at h
    refine lv_istore_n (lv' := [(2, .int z_0), (0, .ref M.o_Vt)]) hx hb d_Vt_remove_13 rfl hl (by decide) rfl (fun ls hl => ?_)
    refine lv_aload_n hx hb d_Vt_remove_14 rfl (lv_at hl 1 rfl) ?_
    refine va_get (D := (dC, dI)) (ci := 11) (v := .ref M.o_Tr) (C := R_Vt) (T := F_Vt) (N := 16) hx hb hts (fun w h => u_Vq_Vt w (i_Vt w h)) hown hK hP 0 rfl rfl 3 (by decide) (hts _ (u_Vq_Vt _ k_Vt_32)) (fun _ h9 => h9) rfl d_Vt_remove_15 ?_
    refine lv_iload_n hx hb d_Vt_remove_18 rfl (lv_at hl 0 rfl) ?_
    obtain ⟨r_4, S_4, hc_4, h⟩ := lf_cE h
    have hFc := lx_free hD hS hA
    refine va_calli (va_runV (As := [.int z_0]) (rest := []) ⟨hx, hb, hml, hown, hts⟩ (l_Tr_countIn l dC dI X _ hc_4) (cwV 1 hts (gwV good_Vq (u_Vq_Vt _ k_Vt_118) (u_Vq_Tr _ k_Tr_91) (u_Vq_Tr _ k_Tr_92) (u_Vq_Tr _ k_Tr_0) (wcs (u_Vq_Tr _ k_Tr_93) (fun _ h => h))) rfl rfl rfl (by decide +kernel) ⟨Nat.le_of_ble_eq_true rfl, Nat.le_of_ble_eq_true rfl⟩) (pv_ofE (X.same _) (fun U z1 z2 => X.mono _ _ U hFc (hEw _ _ hS U z1 z2)) hP hK hD (va_recv hK hP (ci := 5) (q0 := 4) rfl rfl)) rfl rfl hl.1 rfl (lv_room (Nat.le_of_ble_eq_true rfl)) d_Vt_remove_19 ⟨ly_c0 mF.1, ly_c0 mF.2⟩) hS (fun q _ h => hFc q h) hFc (fun r_ u t H locs ht hvm hw hB hz1 hk1 hS => ?_)
    rw [hw]
    obtain ⟨hP, -, hD⟩ := hB
    rw [ht] at hP
    have hD := lx_dj hD hFc
    refine lv_if_le (tgt := 36) hx hb d_Vt_remove_22 (by decide) (fun c_5 => ?_) (fun c_5 => ?_)
    · have h := lf_t h c_5
      refine lv_aload_n hx hb d_Vt_remove_36 rfl (lv_at hl 1 rfl) ?_
      obtain ⟨S_6, hc_6, h⟩ := lf_bE h
      have hFc := lx_free hD hS hA
      refine va_callv (va_runV (As := []) (rest := []) ⟨hx, hb, hml, hown, hts⟩ (l_Vt_changed l dC dI X _ hc_6) (cwV 0 hts (gwV good_Vq (u_Vq_Vt _ k_Vt_62) (u_Vq_Vt _ k_Vt_63) (u_Vq_Vt _ k_Vt_213) (u_Vq_Vt _ k_Vt_0) (wcs (u_Vq_Vt _ k_Vt_64) (fun _ h => h))) rfl rfl rfl (by decide +kernel) ⟨Nat.le_of_ble_eq_true rfl, Nat.le_of_ble_eq_true rfl⟩) (pv_ofE (X.same _) (fun U z1 z2 => X.mono _ _ U hFc (hEw _ _ hS U z1 z2)) hP hK hD (va_recv hK hP (ci := 11) (q0 := 0) rfl rfl)) rfl rfl hl.1 rfl (lv_room (Nat.le_of_ble_eq_true rfl)) d_Vt_remove_37 ⟨ly_c0 mF.1, ly_c0 mF.2⟩) hS (fun q _ h => hFc q h) hFc (fun u t H locs ht hvm hw hB hz1 hk1 hS => ?_)
      obtain ⟨hP, -, hD⟩ := hB
      rw [ht] at hP
      have hD := lx_dj hD hFc
      refine lv_aload_n hx hb d_Vt_remove_40 rfl (lv_at hl 1 rfl) ?_
      refine va_get (D := (dC, dI)) (ci := 11) (v := .ref M.o_Ed) (C := R_Vt) (T := F_Vt) (N := 16) hx hb hts (fun w h => u_Vq_Vt w (i_Vt w h)) hown hK hP 0 rfl rfl 5 (by decide) (hts _ (u_Vq_Vt _ k_Vt_34)) (fun _ h9 => h9) rfl d_Vt_remove_41 ?_
      refine lv_aload_n hx hb d_Vt_remove_44 rfl (lv_at hl 1 rfl) ?_
      refine va_get (D := (dC, dI)) (ci := 11) (v := .int S_6.v_Vt_here) (C := R_Vt) (T := F_Vt) (N := 16) hx hb hts (fun w h => u_Vq_Vt w (i_Vt w h)) hown hK hP 0 rfl rfl 12 (by decide) (hts _ (u_Vq_Vt _ k_Vt_41)) (fun _ h9 => h9) rfl d_Vt_remove_45 ?_
      refine lv_iload_n hx hb d_Vt_remove_48 rfl (lv_at hl 0 rfl) ?_
      obtain ⟨S_7, hc_7, h⟩ := lf_bE h
      have hFc := lx_free hD hS hA
      refine va_callv (va_runV (As := [.int S_6.v_Vt_here, .int z_0]) (rest := []) ⟨hx, hb, hml, hown, hts⟩ (l_Ed_dropItem l dC dI X _ hc_7) (cwV 2 hts (gwV good_Vq (u_Vq_Vt _ k_Vt_201) (u_Vq_Ed _ k_Ed_123) (u_Vq_Ed _ k_Ed_124) (u_Vq_Ed _ k_Ed_0) (wcs (u_Vq_Ed _ k_Ed_125) (fun _ h => h))) rfl rfl rfl (by decide +kernel) ⟨Nat.le_of_ble_eq_true rfl, Nat.le_of_ble_eq_true rfl⟩) (pv_ofE (X.same _) (fun U z1 z2 => X.mono _ _ U hFc (hEw _ _ hS U z1 z2)) hP hK hD (va_recv hK hP (ci := 8) (q0 := 6) rfl rfl)) rfl rfl hl.1 rfl (lv_room (Nat.le_of_ble_eq_true rfl)) d_Vt_remove_49 ⟨ly_c0 mF.1, ly_c0 mF.2⟩) hS (fun q _ h => hFc q h) hFc (fun u t H locs ht hvm hw hB hz1 hk1 hS => ?_)
      obtain ⟨hP, -, hD⟩ := hB
      rw [ht] at hP
      have hD := lx_dj hD hFc
      exact lf_xo h
    · have h := lf_f h c_5
      exact lf_xk h (by decide)
  have hB_8 : ∀ (y_1 : Int32) (Y : CT) (G : CG) (S : CS) (H : Heap) (locs : List Loc) (ls : Array Slot), f_Vt_remove_8 K y_1 G S = some (.error 2, G', S') → CG.le G0 G → va_P (dC, dI) classes (wV M Y G S) H → va_D A (wV M Y G S) → va_S A s.heap H locs → lv_has ls 3 [(0, .ref M.o_Vt), (1, .int y_1)] → W p l e ({ frames := 8, cells := G'.gc - G0.gc, slots := G'.gs - G0.gs, locals := 224 }) s m ([.ref M.o_Vt, .int p0] : List Value).toArray below meth c H locs (G.gc - G0.gc) (G.gs - G0.gs) Q (F0 m 8 ls []) := by
    intro y_1 Y G S H locs ls h m0 hP hD hS hl
    have mF := mo_Vt_remove_8 h
    rw [f_Vt_remove_8] at h
    refine lv_aload_n hx hb d_Vt_remove_8 rfl (lv_at hl 0 rfl) ?_
    refine lv_iload_n hx hb d_Vt_remove_9 rfl (lv_at hl 1 rfl) ?_
    rcases lf_aT h with ⟨r_3, G_3, S_3, hc_3, h⟩ | h9
    · have mc := mo_Vt_itemHere hc_3
      have ml_3 := mo_Vt_itemHere hc_3
      have mF1 := mo_Vt_remove_13 h
      have hFc := lx_free hD hS hA
      refine va_calli (va_runV (As := [.int y_1]) (rest := []) ⟨hx, hb, hml, hown, hts⟩ (l_Vt_itemHere l dC dI X _ hc_3) (cwV 1 hts (gwV good_Vq (u_Vq_Vt _ k_Vt_130) (u_Vq_Vt _ k_Vt_131) (u_Vq_Vt _ k_Vt_217) (u_Vq_Vt _ k_Vt_0) (wcs (u_Vq_Vt _ k_Vt_132) (fun _ h => h))) rfl rfl rfl (by decide +kernel) ⟨Nat.le_of_ble_eq_true rfl, Nat.le_of_ble_eq_true rfl⟩) (pv_ofE (X.same _) (fun U z1 z2 => X.mono _ _ U hFc (hEw _ _ hS U z1 z2)) hP hK hD (va_recv hK hP (ci := 11) (q0 := 0) rfl rfl)) rfl rfl hl.1 rfl (lv_room (Nat.le_of_ble_eq_true rfl)) d_Vt_remove_10 ⟨ly_c1 m0.1 mc.1 mF1.1, ly_c1 m0.2 mc.2 mF1.2⟩) hS (fun q _ h => hFc q h) hFc (fun r_ Y_3 t H locs ht hvm hw hB hz1 hk1 hS => ?_)
      rw [hw]
      obtain ⟨hP, -, hD⟩ := hB
      rw [ht] at hP
      have hD := lx_dj hD hFc
      refine W.widen (k := G_3.gc - G0.gc) (n := G_3.gs - G0.gs) (ly_c2 m0.1 mc.1) (ly_c2 m0.2 mc.2) ?_
      have m0 := CG.le_tr m0 mc
      exact hB_13 r_3 Y_3 G_3 S_3 _ _ _ h m0 hP hD hS (lv_sub hl [0] rfl)
    · have mc := mo_Vt_itemHere h9
      have hFc := lx_free hD hS hA
      rw [hQ]
      exact x_outV (n := 1) (As := [.int y_1]) (rest := []) (b := M.o_Vt) (st0 := [.int y_1, .ref M.o_Vt]) ⟨hx, hb, hml, hown, hts⟩ (lt_Vt_itemHere_2 l hfl dC dI X _ h9) (cwV 1 hts (gwV good_Vq (u_Vq_Vt _ k_Vt_130) (u_Vq_Vt _ k_Vt_131) (u_Vq_Vt _ k_Vt_217) (u_Vq_Vt _ k_Vt_0) (wcs (u_Vq_Vt _ k_Vt_132) (fun _ h => h))) rfl rfl rfl (by decide +kernel) ⟨Nat.le_of_ble_eq_true rfl, Nat.le_of_ble_eq_true rfl⟩) (pv_ofE (X.same _) (fun U z1 z2 => X.mono _ _ U hFc (hEw _ _ hS U z1 z2)) hP hK hD (va_recv hK hP (ci := 11) (q0 := 0) rfl rfl)) rfl hl.1 rfl (Nat.le_of_ble_eq_true rfl) d_Vt_remove_10 ⟨ly_c2 m0.1 mc.1, ly_c2 m0.2 mc.2⟩ hlocks hout ⟨ly_c2 m0.1 mc.1, ly_c2 m0.2 mc.2⟩ (fun E st t U z1 z2 z3 z4 z5 => ly_outQ hS hK hFc z1 z3 z4 z5) ⟨hS.2.2, fun z h => hFc z h⟩
  have hB_5 : ∀ (y_1 : Int32) (z_1 : Int32) (Y : CT) (G : CG) (S : CS) (H : Heap) (locs : List Loc) (ls : Array Slot), f_Vt_remove_5 K y_1 z_1 G S = some (.error 2, G', S') → CG.le G0 G → va_P (dC, dI) classes (wV M Y G S) H → va_D A (wV M Y G S) → va_S A s.heap H locs → lv_has ls 3 [(0, .ref M.o_Vt), (1, .int y_1)] → W p l e ({ frames := 8, cells := G'.gc - G0.gc, slots := G'.gs - G0.gs, locals := 224 }) s m ([.ref M.o_Vt, .int p0] : List Value).toArray below meth c H locs (G.gc - G0.gc) (G.gs - G0.gs) Q (F0 m 5 ls [.int z_1, .ref M.o_Vt]) := by
    intro y_1 z_1 Y G S H locs ls h m0 hP hD hS hl
    have mF := mo_Vt_remove_5 h
    rw [f_Vt_remove_5] at h
    rcases lf_aT h with ⟨r_2, G_2, S_2, hc_2, h⟩ | h9
    · have mc := mo_Vt_wantSoundTable hc_2
      have ml_2 := mo_Vt_wantSoundTable hc_2
      have mF1 := mo_Vt_remove_8 h
      have hFc := lx_free hD hS hA
      refine va_callv (va_runV (As := [.int z_1]) (rest := []) ⟨hx, hb, hml, hown, hts⟩ (l_Vt_wantSoundTable l dC dI X _ hc_2) (cwV 1 hts (gwV good_Vq (u_Vq_Vt _ k_Vt_166) (u_Vq_Vt _ k_Vt_167) (u_Vq_Vt _ k_Vt_216) (u_Vq_Vt _ k_Vt_0) (wcs (u_Vq_Vt _ k_Vt_168) (fun _ h => h))) rfl rfl rfl (by decide +kernel) ⟨Nat.le_of_ble_eq_true rfl, Nat.le_of_ble_eq_true rfl⟩) (pv_ofE (X.same _) (fun U z1 z2 => X.mono _ _ U hFc (hEw _ _ hS U z1 z2)) hP hK hD (va_recv hK hP (ci := 11) (q0 := 0) rfl rfl)) rfl rfl hl.1 rfl (lv_room (Nat.le_of_ble_eq_true rfl)) d_Vt_remove_5 ⟨ly_c1 m0.1 mc.1 mF1.1, ly_c1 m0.2 mc.2 mF1.2⟩) hS (fun q _ h => hFc q h) hFc (fun Y_2 t H locs ht hvm hw hB hz1 hk1 hS => ?_)
      obtain ⟨hP, -, hD⟩ := hB
      rw [ht] at hP
      have hD := lx_dj hD hFc
      refine W.widen (k := G_2.gc - G0.gc) (n := G_2.gs - G0.gs) (ly_c2 m0.1 mc.1) (ly_c2 m0.2 mc.2) ?_
      have m0 := CG.le_tr m0 mc
      exact hB_8 y_1 Y_2 G_2 S_2 _ _ _ h m0 hP hD hS (lv_sub hl [0, 1] rfl)
    · exact absurd (th_Vt_wantSoundTable h9) (by decide)
  have m0 : CG.le G0 G0 := ⟨Nat.le_refl _, Nat.le_refl _⟩
  have mF := mo_Vt_remove h
  refine W.widen (k := G0.gc - G0.gc) (n := G0.gs - G0.gs) (Nat.zero_le _) (Nat.zero_le _) ?_
  rw [f_Vt_remove] at h
  refine lv_aload_n hx hb d_Vt_remove_0 rfl (lv_at hl 0 rfl) ?_
  refine lv_aload_n hx hb d_Vt_remove_1 rfl (lv_at hl 0 rfl) ?_
  obtain ⟨r_1, G_1, S_1, hc_1, h⟩ := lf_nE h
  have mc := mo_Vt_look hc_1
  have ml_1 := mo_Vt_look hc_1
  have mF1 := mo_Vt_remove_5 h
  have hFc := lx_free hD hS hA
  refine va_calli (va_runV (As := []) (rest := [.ref M.o_Vt]) ⟨hx, hb, hml, hown, hts⟩ (l_Vt_look l dC dI X _ hc_1) (cwV 0 hts (gwV good_Vq (u_Vq_Vt _ k_Vt_68) (u_Vq_Vt _ k_Vt_69) (u_Vq_Vt _ k_Vt_214) (u_Vq_Vt _ k_Vt_0) (wcs (u_Vq_Vt _ k_Vt_70) (fun _ h => h))) rfl rfl rfl (by decide +kernel) ⟨Nat.le_of_ble_eq_true rfl, Nat.le_of_ble_eq_true rfl⟩) (pv_ofE (X.same _) (fun U z1 z2 => X.mono _ _ U hFc (hEw _ _ hS U z1 z2)) hP hK hD (va_recv hK hP (ci := 11) (q0 := 0) rfl rfl)) rfl rfl hl.1 rfl (lv_room (Nat.le_of_ble_eq_true rfl)) d_Vt_remove_2 ⟨ly_c1 m0.1 mc.1 mF1.1, ly_c1 m0.2 mc.2 mF1.2⟩) hS (fun q _ h => hFc q h) hFc (fun r_ Y_1 t H locs ht hvm hw hB hz1 hk1 hS => ?_)
  rw [hw]
  obtain ⟨hP, -, hD⟩ := hB
  rw [ht] at hP
  have hD := lx_dj hD hFc
  refine W.widen (k := G_1.gc - G0.gc) (n := G_1.gs - G0.gs) (ly_c2 m0.1 mc.1) (ly_c2 m0.2 mc.2) ?_
  have m0 := CG.le_tr m0 mc
  exact hB_5 p0 r_1 Y_1 G_1 S_1 _ _ _ h m0 hP hD hS (lv_sub hl [0, 1] rfl)
set_option maxHeartbeats 4000000 in
set_option maxRecDepth 100000 in
theorem l_Vt_run (l : Launch) (dC : Nat → ClassId) (dI : Nat → Nat → Nat) {K : Nat} {M : CA} {E : (Nat → Prop) → State → Prop} (X : ly_X l dC dI K M E) (sz : Nat) {Y : CT} {G0 G' : CG} {S S' : CS} {p0 : Int32} {p1 : Int32} {r : Int32} (h : f_Vt_run K G0 S p0 p1 = some (.ok r, G', S')) : Met l y_Vt_run (.code y_Vt_run cb_Vt_run 7 (some .int) :: V_Vq) ({ frames := 12, cells := G'.gc - G0.gc, slots := G'.gs - G0.gs, locals := 340 }) (va_Pc [.ref M.o_Vt, .int p0, .int p1] (fun U => U.heap.size = sz ∧ at_ (dC, dI) (fun _ => True) (wV M Y G0 S) (tV M) U ∧ E (va_A (wV M Y G0 S) sz) U)) (va_Qi (fun (r_ : Int32) (u : CT) => r_ = r) (fun (u : CT) t => at_ (dC, dI) (va_A (wV M Y G0 S) sz) (wV M u G' S') (tV M) t) (va_A (wV M Y G0 S) sz)) (G'.gc - G0.gc) (G'.gs - G0.gs) (va_A (wV M Y G0 S) sz) := by
  refine Met.ofW (cc := cb_Vt_run) (maxL := 7) (ret := (some .int)) (by decide) rfl ?_
  intro p e s m args below meth c s₁ B hml hv
  obtain ⟨rfl, hsz, ⟨hP, hK, hD0⟩, hE⟩ := hv
  have hx := B.exec
  have hb := B.bytes
  have hr := B.returns
  have hts0 := atoms_spec (ws := .code y_Vt_run cb_Vt_run 7 (some .int) :: V_Vq) B.pre
  have hts : ∀ w ∈ V_Vq, w.before ([.ref M.o_Vt, .int p0, .int p1] : List Value).toArray s = true := fun w h => hts0 w (List.mem_cons_of_mem _ h)
  have hown : s.vm.findClass R_Vt = some m.cls := findClass_of_methodNamed B.named
  subst hsz
  have hD := hD0.self (sz := s.heap.size)
  generalize hAe : va_A (wV M Y G0 S) s.heap.size = A at hD hE ⊢
  have hA : ∀ q : Nat, s.heap.size ≤ q → A q := fun q h => by rw [← hAe]; exact Or.inr h
  have hS : va_S A s.heap s.heap [] := va_S.rf
  have hP : va_P (dC, dI) classes (wV M Y G0 S) s.heap := hP
  have hK : va_K (dC, dI) classes (tV M) s := hK
  have hEw : ∀ (H : Heap) (locs : List Loc), va_S A s.heap H locs → ∀ U : State, U.heap = H → s.WarmedH U.vm → E A U := fun H locs hS U hU hW => X.kept A s U H locs hE hS hU hW
  have hl := lv_entry ([.ref M.o_Vt, .int p0, .int p1]) (n := 7) (Nat.le_of_ble_eq_true rfl)
  rw [lg_entry_eq]
  generalize (lg_sl ([.ref M.o_Vt, .int p0, .int p1]) ++ List.replicate (7 - (lg_sl ([.ref M.o_Vt, .int p0, .int p1])).length) Slot.unset).toArray = ls at hl ⊢
  have hl : lv_has ls 7 [(0, .ref M.o_Vt), (1, .int p0), (2, .int p1)] := hl
  refine qabs (fun Q hQ => ?_)
  have hB_117 : ∀ (rec_74 : Int32 → Int32 → Int32 → Int32 → CG → CS → Option (Except Nat Int32 × CG × CS)) (hr_74 : ∀ (y_1 : Int32) (y_3 : Int32) (y_5 : Int32) (y_6 : Int32) (Y : CT) (G : CG) (S : CS) (H : Heap) (locs : List Loc) (ls : Array Slot), rec_74 y_1 y_3 y_5 y_6 G S = some (.ok r, G', S') → CG.le G0 G → va_P (dC, dI) classes (wV M Y G S) H → va_D A (wV M Y G S) → va_S A s.heap H locs → lv_has ls 7 [(0, .ref M.o_Vt), (1, .int y_1), (3, .int y_3), (5, .int y_5), (6, .int y_6)] → W p l e ({ frames := 12, cells := G'.gc - G0.gc, slots := G'.gs - G0.gs, locals := 340 }) s m ([.ref M.o_Vt, .int p0, .int p1] : List Value).toArray below meth c H locs (G.gc - G0.gc) (G.gs - G0.gs) Q (F0 m 74 ls [])) (hm_74 : ∀ (y_1 : Int32) (y_3 : Int32) (y_5 : Int32) (y_6 : Int32) (G : CG) (S : CS) {x : Except Nat Int32} {G1 : CG} {S1 : CS}, rec_74 y_1 y_3 y_5 y_6 G S = some (x, G1, S1) → CG.le G G1), ∀ (y_1 : Int32) (y_3 : Int32) (y_5 : Int32) (y_6 : Int32) (z_0 : Int32) (Y : CT) (G : CG) (S : CS) (H : Heap) (locs : List Loc) (ls : Array Slot), f_Vt_run_117 K rec_74 y_1 y_3 y_5 y_6 z_0 G S = some (.ok r, G', S') → CG.le G0 G → va_P (dC, dI) classes (wV M Y G S) H → va_D A (wV M Y G S) → va_S A s.heap H locs → lv_has ls 7 [(0, .ref M.o_Vt), (1, .int y_1), (3, .int y_3), (5, .int y_5), (6, .int y_6)] → W p l e ({ frames := 12, cells := G'.gc - G0.gc, slots := G'.gs - G0.gs, locals := 340 }) s m ([.ref M.o_Vt, .int p0, .int p1] : List Value).toArray below meth c H locs (G.gc - G0.gc) (G.gs - G0.gs) Q (F0 m 117 ls [.int z_0]) := by
    intro rec_74 hr_74 hm_74 y_1 y_3 y_5 y_6 z_0 Y G S H locs ls h m0 hP hD hS hl
    have mF := mo_Vt_run_117 hm_74 h
    rw [f_Vt_run_117] at h
    refine lv_pop hx hb d_Vt_run_117 rfl ?_
    obtain ⟨x_17, ex_17, h⟩ := lf_lX h
    refine lv_iinc (v := x_17) (lv' := [(6, .int x_17), (0, .ref M.o_Vt), (1, .int y_1), (3, .int y_3), (5, .int y_5)]) hx hb d_Vt_run_118 hl (k := 4) rfl (by rw [ex_17]; rfl) (by decide) rfl (fun ls hl => ?_)
    refine lv_goto (tgt := 74) hx hb d_Vt_run_121 (by decide) ?_
    exact hr_74 y_1 y_3 y_5 x_17 Y G S _ _ _ h m0 hP hD hS (lv_sub hl [1, 2, 3, 4, 0] rfl)
  have hB_142 : ∀ (z_0 : Int32) (Y : CT) (G : CG) (S : CS) (H : Heap) (locs : List Loc) (ls : Array Slot), f_Vt_run_142 K z_0 G S = some (.ok r, G', S') → CG.le G0 G → va_P (dC, dI) classes (wV M Y G S) H → va_D A (wV M Y G S) → va_S A s.heap H locs → lv_has ls 7 [(0, .ref M.o_Vt)] → W p l e ({ frames := 12, cells := G'.gc - G0.gc, slots := G'.gs - G0.gs, locals := 340 }) s m ([.ref M.o_Vt, .int p0, .int p1] : List Value).toArray below meth c H locs (G.gc - G0.gc) (G.gs - G0.gs) Q (F0 m 142 ls [.int z_0]) := by
    intro z_0 Y G S H locs ls h m0 hP hD hS hl
    have mF := mo_Vt_run_142 h
    rw [f_Vt_run_142] at h
    refine lv_istore (lv' := [(6, .int z_0), (0, .ref M.o_Vt)]) hx hb d_Vt_run_142 hl (by decide) rfl (fun ls hl => ?_)
    refine lv_aload_n hx hb d_Vt_run_144 rfl (lv_at hl 1 rfl) ?_
    refine lv_iconst (v := 1) hx hb d_Vt_run_145 (by decide) ?_
    refine va_put (D := (dC, dI)) (ci := 11) (v := .int 1) (ty := .boolean) (C := R_Vt) (T := F_Vt) (N := 16) hx hb hts (fun w h => u_Vq_Vt w (i_Vt w h)) t_Vt t_Vt_ok n_Vt hown hK hP hD hS 0 rfl rfl 15 (by decide) (hts _ (u_Vq_Vt _ k_Vt_44)) (fun _ h9 => h9) rfl (by decide +kernel) rfl rfl (Nat.le_of_ble_eq_true rfl) d_Vt_run_146 (fun H locs hP hD hS => ?_)
    obtain ⟨S_18, eS_18, h⟩ := lf_lX h
    have hP := ly_newP eS_18 hP
    have hD := ly_newD eS_18 hD
    refine lv_aload_n hx hb d_Vt_run_149 rfl (lv_at hl 1 rfl) ?_
    obtain ⟨S_19, hc_19, h⟩ := lf_bE h
    have hFc := lx_free hD hS hA
    refine va_callv (va_runV (As := []) (rest := []) ⟨hx, hb, hml, hown, hts⟩ (l_Vt_changed l dC dI X _ hc_19) (cwV 0 hts (gwV good_Vq (u_Vq_Vt _ k_Vt_62) (u_Vq_Vt _ k_Vt_63) (u_Vq_Vt _ k_Vt_213) (u_Vq_Vt _ k_Vt_0) (wcs (u_Vq_Vt _ k_Vt_64) (fun _ h => h))) rfl rfl rfl (by decide +kernel) ⟨Nat.le_of_ble_eq_true rfl, Nat.le_of_ble_eq_true rfl⟩) (pv_ofE (X.same _) (fun U z1 z2 => X.mono _ _ U hFc (hEw _ _ hS U z1 z2)) hP hK hD (va_recv hK hP (ci := 11) (q0 := 0) rfl rfl)) rfl rfl hl.1 rfl (lv_room (Nat.le_of_ble_eq_true rfl)) d_Vt_run_150 ⟨ly_c0 mF.1, ly_c0 mF.2⟩) hS (fun q _ h => hFc q h) hFc (fun u t H locs ht hvm hw hB hz1 hk1 hS => ?_)
    obtain ⟨hP, -, hD⟩ := hB
    rw [ht] at hP
    have hD := lx_dj hD hFc
    refine lv_aload_n hx hb d_Vt_run_153 rfl (lv_at hl 1 rfl) ?_
    refine lv_iconst (v := 0) hx hb d_Vt_run_154 (by decide) ?_
    refine va_put (D := (dC, dI)) (ci := 11) (v := .int 0) (ty := .int) (C := R_Vt) (T := F_Vt) (N := 16) hx hb hts (fun w h => u_Vq_Vt w (i_Vt w h)) t_Vt t_Vt_ok n_Vt hown hK hP hD hS 0 rfl rfl 12 (by decide) (hts _ (u_Vq_Vt _ k_Vt_41)) (fun _ h9 => h9) rfl (by decide +kernel) rfl rfl (Nat.le_of_ble_eq_true rfl) d_Vt_run_155 (fun H locs hP hD hS => ?_)
    obtain ⟨S_20, eS_20, h⟩ := lf_lX h
    have hP := ly_newP eS_20 hP
    have hD := ly_newD eS_20 hD
    refine lv_iload hx hb d_Vt_run_158 (lv_at hl 0 rfl) ?_
    rw [hQ]
    have e1 : z_0 = r := Except.ok.inj (congrArg (fun z => z.1) (Option.some.inj h))
    have e2 : G = G' := congrArg (fun z => z.2.1) (Option.some.inj h)
    have e3 : S_20 = S' := congrArg (fun z => z.2.2) (Option.some.inj h)
    have hP := ly_newP3 e2.symm e3.symm hP
    have hD := ly_newD3 e2.symm e3.symm hD
    refine W.widen (k := G'.gc - G0.gc) (n := G'.gs - G0.gs) (ly_wc e2) (ly_ws e2) ?_
    exact W.iret (v := z_0) hx hb hr (fun t ht hW => ⟨⟨z_0, Y, rfl, e1, by rw [ht]; exact hP, va_K.moved hW.alike hK, hD⟩, hS.F ht⟩) hS.2.2 d_Vt_run_160
  have hB_124 : ∀ (y_1 : Int32) (y_5 : Int32) (Y : CT) (G : CG) (S : CS) (H : Heap) (locs : List Loc) (ls : Array Slot), f_Vt_run_124 K y_1 y_5 G S = some (.ok r, G', S') → CG.le G0 G → va_P (dC, dI) classes (wV M Y G S) H → va_D A (wV M Y G S) → va_S A s.heap H locs → lv_has ls 7 [(0, .ref M.o_Vt), (1, .int y_1), (5, .int y_5)] → W p l e ({ frames := 12, cells := G'.gc - G0.gc, slots := G'.gs - G0.gs, locals := 340 }) s m ([.ref M.o_Vt, .int p0, .int p1] : List Value).toArray below meth c H locs (G.gc - G0.gc) (G.gs - G0.gs) Q (F0 m 124 ls []) := by
    intro y_1 y_5 Y G S H locs ls h m0 hP hD hS hl
    have mF := mo_Vt_run_124 h
    rw [f_Vt_run_124] at h
    refine lv_aload_n hx hb d_Vt_run_124 rfl (lv_at hl 0 rfl) ?_
    refine va_get (D := (dC, dI)) (ci := 11) (v := .ref M.o_Dk) (C := R_Vt) (T := F_Vt) (N := 16) hx hb hts (fun w h => u_Vq_Vt w (i_Vt w h)) hown hK hP 0 rfl rfl 0 (by decide) (hts _ (u_Vq_Vt _ k_Vt_29)) (fun _ h9 => h9) rfl d_Vt_run_125 ?_
    refine lv_iconst (v := (-1)) hx hb d_Vt_run_128 (by decide) ?_
    obtain ⟨S_15, hc_15, h⟩ := lf_bE h
    have hFc := lx_free hD hS hA
    refine va_callv (va_runV (As := [.int ((-1))]) (rest := []) ⟨hx, hb, hml, hown, hts⟩ (l_Dk_supply l dC dI X _ hc_15) (cwV 1 hts (gwV good_Vq (u_Vq_Vt _ k_Vt_211) (u_Vq_Dk _ k_Dk_33) (u_Vq_Dk _ k_Dk_34) (u_Vq_Dk _ k_Dk_0) (wcs (u_Vq_Dk _ k_Dk_35) (fun _ h => h))) rfl rfl rfl (by decide +kernel) ⟨Nat.le_of_ble_eq_true rfl, Nat.le_of_ble_eq_true rfl⟩) (pv_ofE (X.same _) (fun U z1 z2 => X.mono _ _ U hFc (hEw _ _ hS U z1 z2)) hP hK hD (va_recv hK hP (ci := 0) (q0 := 1) rfl rfl)) rfl rfl hl.1 rfl (lv_room (Nat.le_of_ble_eq_true rfl)) d_Vt_run_129 ⟨ly_c0 mF.1, ly_c0 mF.2⟩) hS (fun q _ h => hFc q h) hFc (fun u t H locs ht hvm hw hB hz1 hk1 hS => ?_)
    obtain ⟨hP, -, hD⟩ := hB
    rw [ht] at hP
    have hD := lx_dj hD hFc
    refine lv_aload_n hx hb d_Vt_run_132 rfl (lv_at hl 0 rfl) ?_
    refine va_get (D := (dC, dI)) (ci := 11) (v := .ref M.o_Tu) (C := R_Vt) (T := F_Vt) (N := 16) hx hb hts (fun w h => u_Vq_Vt w (i_Vt w h)) hown hK hP 0 rfl rfl 7 (by decide) (hts _ (u_Vq_Vt _ k_Vt_36)) (fun _ h9 => h9) rfl d_Vt_run_133 ?_
    refine lv_iload_n hx hb d_Vt_run_136 rfl (lv_at hl 1 rfl) ?_
    refine lv_iload hx hb d_Vt_run_137 (lv_at hl 2 rfl) ?_
    obtain ⟨r_16, G_16, S_16, hc_16, h⟩ := lf_nE h
    have mc := mo_Tu_turn hc_16
    have ml_16 := mo_Tu_turn hc_16
    have mF1 := mo_Vt_run_142 h
    have hFc := lx_free hD hS hA
    refine va_calli (va_runV (As := [.int y_1, .int y_5]) (rest := []) ⟨hx, hb, hml, hown, hts⟩ (l_Tu_turn l dC dI X _ hc_16) (cwV 2 hts (gwV good_Vq (u_Vq_Vt _ k_Vt_212) (u_Vq_Tu _ k_Tu_24) (u_Vq_Tu _ k_Tu_25) (u_Vq_Tu _ k_Tu_0) (wcs (u_Vq_Tu _ k_Tu_26) (fun _ h => h))) rfl rfl rfl (by decide +kernel) ⟨Nat.le_of_ble_eq_true rfl, Nat.le_of_ble_eq_true rfl⟩) (pv_ofE (X.same _) (fun U z1 z2 => X.mono _ _ U hFc (hEw _ _ hS U z1 z2)) hP hK hD (va_recv hK hP (ci := 10) (q0 := 8) rfl rfl)) rfl rfl hl.1 rfl (lv_room (Nat.le_of_ble_eq_true rfl)) d_Vt_run_139 ⟨ly_c1 m0.1 mc.1 mF1.1, ly_c1 m0.2 mc.2 mF1.2⟩) hS (fun q _ h => hFc q h) hFc (fun r_ Y_16 t H locs ht hvm hw hB hz1 hk1 hS => ?_)
    rw [hw]
    obtain ⟨hP, -, hD⟩ := hB
    rw [ht] at hP
    have hD := lx_dj hD hFc
    refine W.widen (k := G_16.gc - G0.gc) (n := G_16.gs - G0.gs) (ly_c2 m0.1 mc.1) (ly_c2 m0.2 mc.2) ?_
    have m0 := CG.le_tr m0 mc
    exact hB_142 r_16 Y_16 G_16 S_16 _ _ _ h m0 hP hD hS (lv_sub hl [0] rfl)
  have hB_74 : ∀ (k : Nat), ∀ (y_1 : Int32) (y_3 : Int32) (y_5 : Int32) (y_6 : Int32) (Y : CT) (G : CG) (S : CS) (H : Heap) (locs : List Loc) (ls : Array Slot), f_Vt_run_74 K k y_1 y_3 y_5 y_6 G S = some (.ok r, G', S') → CG.le G0 G → va_P (dC, dI) classes (wV M Y G S) H → va_D A (wV M Y G S) → va_S A s.heap H locs → lv_has ls 7 [(0, .ref M.o_Vt), (1, .int y_1), (3, .int y_3), (5, .int y_5), (6, .int y_6)] → W p l e ({ frames := 12, cells := G'.gc - G0.gc, slots := G'.gs - G0.gs, locals := 340 }) s m ([.ref M.o_Vt, .int p0, .int p1] : List Value).toArray below meth c H locs (G.gc - G0.gc) (G.gs - G0.gs) Q (F0 m 74 ls []) := by
    intro k
    induction k with
    | zero => intro y_1 y_3 y_5 y_6 Y G S H locs ls h; exact lf_no h
    | succ k hr_74 =>
      intro y_1 y_3 y_5 y_6 Y G S H locs ls h m0 hP hD hS hl
      have mF := mo_Vt_run_74 (k + 1) y_1 y_3 y_5 y_6 G S h
      have hm_74 : ∀ (y_1 : Int32) (y_3 : Int32) (y_5 : Int32) (y_6 : Int32) (G : CG) (S : CS) {x : Except Nat Int32} {G1 : CG} {S1 : CS}, f_Vt_run_74 K k y_1 y_3 y_5 y_6 G S = some (x, G1, S1) → CG.le G G1 := fun y_1 y_3 y_5 y_6 G S => mo_Vt_run_74 k y_1 y_3 y_5 y_6 G S
      rw [f_Vt_run_74] at h
      refine lv_iload hx hb d_Vt_run_74 (lv_at hl 4 rfl) ?_
      refine lv_iload_n hx hb d_Vt_run_76 rfl (lv_at hl 2 rfl) ?_
      refine lv_icmp_ge (tgt := 124) hx hb d_Vt_run_77 (by decide) (fun c_9 => ?_) (fun c_9 => ?_)
      · have h := lf_t h c_9
        exact hB_124 y_1 y_5 Y G S _ _ _ h m0 hP hD hS (lv_sub hl [0, 1, 3] rfl)
      · have h := lf_f h c_9
        refine lv_iload hx hb d_Vt_run_80 (lv_at hl 4 rfl) ?_
        refine lv_bipush (v := 16) hx hb d_Vt_run_82 (by decide) ?_
        refine lv_icmp_ge (tgt := 124) hx hb d_Vt_run_84 (by decide) (fun c_10 => ?_) (fun c_10 => ?_)
        · have h := lf_t h c_10
          exact hB_124 y_1 y_5 Y G S _ _ _ h m0 hP hD hS (lv_sub hl [0, 1, 3] rfl)
        · have h := lf_f h c_10
          refine lv_aload_n hx hb d_Vt_run_87 rfl (lv_at hl 0 rfl) ?_
          refine va_get (D := (dC, dI)) (ci := 11) (v := .ref M.o_Dk) (C := R_Vt) (T := F_Vt) (N := 16) hx hb hts (fun w h => u_Vq_Vt w (i_Vt w h)) hown hK hP 0 rfl rfl 0 (by decide) (hts _ (u_Vq_Vt _ k_Vt_29)) (fun _ h9 => h9) rfl d_Vt_run_88 ?_
          refine lv_aload_n hx hb d_Vt_run_91 rfl (lv_at hl 0 rfl) ?_
          refine va_get (D := (dC, dI)) (ci := 11) (v := .ref M.a_Vt_failWrites) (C := R_Vt) (T := F_Vt) (N := 16) hx hb hts (fun w h => u_Vq_Vt w (i_Vt w h)) hown hK hP 0 rfl rfl 10 (by decide) (hts _ (u_Vq_Vt _ k_Vt_39)) (fun _ h9 => h9) rfl d_Vt_run_92 ?_
          refine lv_iload hx hb d_Vt_run_95 (lv_at hl 4 rfl) ?_
          obtain ⟨g_11, h⟩ := lf_gE h
          refine va_iald hx hb hK hP 11 2 rfl rfl g_11 d_Vt_run_97 ?_
          obtain ⟨S_12, hc_12, h⟩ := lf_bE h
          have hFc := lx_free hD hS hA
          refine va_callv (va_runV (As := [.int (S.w_Vt_failWrites y_6.toNatClampNeg)]) (rest := []) ⟨hx, hb, hml, hown, hts⟩ (l_Dk_supply l dC dI X _ hc_12) (cwV 1 hts (gwV good_Vq (u_Vq_Vt _ k_Vt_211) (u_Vq_Dk _ k_Dk_33) (u_Vq_Dk _ k_Dk_34) (u_Vq_Dk _ k_Dk_0) (wcs (u_Vq_Dk _ k_Dk_35) (fun _ h => h))) rfl rfl rfl (by decide +kernel) ⟨Nat.le_of_ble_eq_true rfl, Nat.le_of_ble_eq_true rfl⟩) (pv_ofE (X.same _) (fun U z1 z2 => X.mono _ _ U hFc (hEw _ _ hS U z1 z2)) hP hK hD (va_recv hK hP (ci := 0) (q0 := 1) rfl rfl)) rfl rfl hl.1 rfl (lv_room (Nat.le_of_ble_eq_true rfl)) d_Vt_run_98 ⟨ly_c0 mF.1, ly_c0 mF.2⟩) hS (fun q _ h => hFc q h) hFc (fun u t H locs ht hvm hw hB hz1 hk1 hS => ?_)
          obtain ⟨hP, -, hD⟩ := hB
          rw [ht] at hP
          have hD := lx_dj hD hFc
          refine lv_aload_n hx hb d_Vt_run_101 rfl (lv_at hl 0 rfl) ?_
          refine va_get (D := (dC, dI)) (ci := 11) (v := .ref M.o_Tu) (C := R_Vt) (T := F_Vt) (N := 16) hx hb hts (fun w h => u_Vq_Vt w (i_Vt w h)) hown hK hP 0 rfl rfl 7 (by decide) (hts _ (u_Vq_Vt _ k_Vt_36)) (fun _ h9 => h9) rfl d_Vt_run_102 ?_
          refine lv_aload_n hx hb d_Vt_run_105 rfl (lv_at hl 0 rfl) ?_
          refine va_get (D := (dC, dI)) (ci := 11) (v := .ref M.a_Vt_failAsks) (C := R_Vt) (T := F_Vt) (N := 16) hx hb hts (fun w h => u_Vq_Vt w (i_Vt w h)) hown hK hP 0 rfl rfl 9 (by decide) (hts _ (u_Vq_Vt _ k_Vt_38)) (fun _ h9 => h9) rfl d_Vt_run_106 ?_
          refine lv_iload hx hb d_Vt_run_109 (lv_at hl 4 rfl) ?_
          obtain ⟨g_13, h⟩ := lf_gE h
          refine va_iald hx hb hK hP 10 2 rfl rfl g_13 d_Vt_run_111 ?_
          refine lv_iload hx hb d_Vt_run_112 (lv_at hl 3 rfl) ?_
          obtain ⟨r_14, G_14, S_14, hc_14, h⟩ := lf_nE h
          have mc := mo_Tu_turn hc_14
          have ml_14 := mo_Tu_turn hc_14
          have mF1 := mo_Vt_run_117 hm_74 h
          have hFc := lx_free hD hS hA
          refine va_calli (va_runV (As := [.int (S_12.w_Vt_failAsks y_6.toNatClampNeg), .int y_5]) (rest := []) ⟨hx, hb, hml, hown, hts⟩ (l_Tu_turn l dC dI X _ hc_14) (cwV 2 hts (gwV good_Vq (u_Vq_Vt _ k_Vt_212) (u_Vq_Tu _ k_Tu_24) (u_Vq_Tu _ k_Tu_25) (u_Vq_Tu _ k_Tu_0) (wcs (u_Vq_Tu _ k_Tu_26) (fun _ h => h))) rfl rfl rfl (by decide +kernel) ⟨Nat.le_of_ble_eq_true rfl, Nat.le_of_ble_eq_true rfl⟩) (pv_ofE (X.same _) (fun U z1 z2 => X.mono _ _ U hFc (hEw _ _ hS U z1 z2)) hP hK hD (va_recv hK hP (ci := 10) (q0 := 8) rfl rfl)) rfl rfl hl.1 rfl (lv_room (Nat.le_of_ble_eq_true rfl)) d_Vt_run_114 ⟨ly_c1 m0.1 mc.1 mF1.1, ly_c1 m0.2 mc.2 mF1.2⟩) hS (fun q _ h => hFc q h) hFc (fun r_ Y_14 t H locs ht hvm hw hB hz1 hk1 hS => ?_)
          rw [hw]
          obtain ⟨hP, -, hD⟩ := hB
          rw [ht] at hP
          have hD := lx_dj hD hFc
          refine W.widen (k := G_14.gc - G0.gc) (n := G_14.gs - G0.gs) (ly_c2 m0.1 mc.1) (ly_c2 m0.2 mc.2) ?_
          have m0 := CG.le_tr m0 mc
          exact hB_117 _ hr_74 hm_74 y_1 y_3 y_5 y_6 r_14 Y_14 G_14 S_14 _ _ _ h m0 hP hD hS (lv_sub hl [0, 1, 2, 3, 4] rfl)
  have hB_69 : ∀ (y_1 : Int32) (y_3 : Int32) (z_0 : Int32) (Y : CT) (G : CG) (S : CS) (H : Heap) (locs : List Loc) (ls : Array Slot), f_Vt_run_69 K y_1 y_3 z_0 G S = some (.ok r, G', S') → CG.le G0 G → va_P (dC, dI) classes (wV M Y G S) H → va_D A (wV M Y G S) → va_S A s.heap H locs → lv_has ls 7 [(0, .ref M.o_Vt), (1, .int y_1), (3, .int y_3)] → W p l e ({ frames := 12, cells := G'.gc - G0.gc, slots := G'.gs - G0.gs, locals := 340 }) s m ([.ref M.o_Vt, .int p0, .int p1] : List Value).toArray below meth c H locs (G.gc - G0.gc) (G.gs - G0.gs) Q (F0 m 69 ls [.int z_0]) := by
    intro y_1 y_3 z_0 Y G S H locs ls h m0 hP hD hS hl
    have mF := mo_Vt_run_69 h
    rw [f_Vt_run_69] at h
    refine lv_istore (lv' := [(5, .int z_0), (0, .ref M.o_Vt), (1, .int y_1), (3, .int y_3)]) hx hb d_Vt_run_69 hl (by decide) rfl (fun ls hl => ?_)
    refine lv_iconst (v := 0) hx hb d_Vt_run_71 (by decide) ?_
    refine lv_istore (lv' := [(6, .int 0), (5, .int z_0), (0, .ref M.o_Vt), (1, .int y_1), (3, .int y_3)]) hx hb d_Vt_run_72 hl (by decide) rfl (fun ls hl => ?_)
    exact hB_74 K y_1 y_3 z_0 0 Y G S _ _ _ h m0 hP hD hS (lv_sub hl [2, 3, 4, 1, 0] rfl)
  have hB_52 : ∀ (y_1 : Int32) (y_2 : Int32) (y_3 : Int32) (y_4 : Int32) (Y : CT) (G : CG) (S : CS) (H : Heap) (locs : List Loc) (ls : Array Slot), f_Vt_run_52 K y_1 y_2 y_3 y_4 G S = some (.ok r, G', S') → CG.le G0 G → va_P (dC, dI) classes (wV M Y G S) H → va_D A (wV M Y G S) → va_S A s.heap H locs → lv_has ls 7 [(0, .ref M.o_Vt), (1, .int y_1), (2, .int y_2), (3, .int y_3), (4, .int y_4)] → W p l e ({ frames := 12, cells := G'.gc - G0.gc, slots := G'.gs - G0.gs, locals := 340 }) s m ([.ref M.o_Vt, .int p0, .int p1] : List Value).toArray below meth c H locs (G.gc - G0.gc) (G.gs - G0.gs) Q (F0 m 52 ls []) := by
    intro y_1 y_2 y_3 y_4 Y G S H locs ls h m0 hP hD hS hl
    have mF := mo_Vt_run_52 h
    rw [f_Vt_run_52] at h
    refine lv_iload hx hb d_Vt_run_52 (lv_at hl 4 rfl) ?_
    refine lv_iconst (v := 2) hx hb d_Vt_run_54 (by decide) ?_
    refine lv_icmp_ne (tgt := 68) hx hb d_Vt_run_55 (by decide) (fun c_7 => ?_) (fun c_7 => ?_)
    · have h := lf_f h c_7
      refine lv_iload_n hx hb d_Vt_run_68 rfl (lv_at hl 2 rfl) ?_
      exact hB_69 y_1 y_3 y_2 Y G S _ _ _ h m0 hP hD hS (lv_sub hl [0, 1, 3] rfl)
    · have h := lf_t h c_7
      refine lv_aload_n hx hb d_Vt_run_58 rfl (lv_at hl 0 rfl) ?_
      refine va_get (D := (dC, dI)) (ci := 11) (v := .ref M.o_In) (C := R_Vt) (T := F_Vt) (N := 16) hx hb hts (fun w h => u_Vq_Vt w (i_Vt w h)) hown hK hP 0 rfl rfl 8 (by decide) (hts _ (u_Vq_Vt _ k_Vt_37)) (fun _ h9 => h9) rfl d_Vt_run_59 ?_
      obtain ⟨r_8, S_8, hc_8, h⟩ := lf_cE h
      have hFc := lx_free hD hS hA
      refine va_calli (va_runV (As := []) (rest := []) ⟨hx, hb, hml, hown, hts⟩ (l_In_groupSize l dC dI X _ hc_8) (cwV 0 hts (gwV good_Vq (u_Vq_Vt _ k_Vt_210) (u_Vq_In _ k_In_22) (u_Vq_In _ k_In_23) (u_Vq_In _ k_In_0) (wcs (u_Vq_In _ k_In_24) (fun _ h => h))) rfl rfl rfl (by decide +kernel) ⟨Nat.le_of_ble_eq_true rfl, Nat.le_of_ble_eq_true rfl⟩) (pv_ofE (X.same _) (fun U z1 z2 => X.mono _ _ U hFc (hEw _ _ hS U z1 z2)) hP hK hD (va_recv hK hP (ci := 6) (q0 := 9) rfl rfl)) rfl rfl hl.1 rfl (lv_room (Nat.le_of_ble_eq_true rfl)) d_Vt_run_62 ⟨ly_c0 mF.1, ly_c0 mF.2⟩) hS (fun q _ h => hFc q h) hFc (fun r_ u t H locs ht hvm hw hB hz1 hk1 hS => ?_)
      rw [hw]
      obtain ⟨hP, -, hD⟩ := hB
      rw [ht] at hP
      have hD := lx_dj hD hFc
      refine lv_goto (tgt := 69) hx hb d_Vt_run_65 (by decide) ?_
      exact hB_69 y_1 y_3 r_8 Y G S_8 _ _ _ h m0 hP hD hS (lv_sub hl [0, 1, 3] rfl)
  have hB_14 : ∀ (y_1 : Int32) (y_2 : Int32) (y_3 : Int32) (z_0 : Int32) (Y : CT) (G : CG) (S : CS) (H : Heap) (locs : List Loc) (ls : Array Slot), f_Vt_run_14 K y_1 y_2 y_3 z_0 G S = some (.ok r, G', S') → CG.le G0 G → va_P (dC, dI) classes (wV M Y G S) H → va_D A (wV M Y G S) → va_S A s.heap H locs → lv_has ls 7 [(0, .ref M.o_Vt), (1, .int y_1), (2, .int y_2), (3, .int y_3)] → W p l e ({ frames := 12, cells := G'.gc - G0.gc, slots := G'.gs - G0.gs, locals := 340 }) s m ([.ref M.o_Vt, .int p0, .int p1] : List Value).toArray below meth c H locs (G.gc - G0.gc) (G.gs - G0.gs) Q (F0 m 14 ls [.int z_0]) := by
    intro y_1 y_2 y_3 z_0 Y G S H locs ls h m0 hP hD hS hl
    have mF := mo_Vt_run_14 h
    rw [f_Vt_run_14] at h
    refine lv_istore (lv' := [(4, .int z_0), (0, .ref M.o_Vt), (1, .int y_1), (2, .int y_2), (3, .int y_3)]) hx hb d_Vt_run_14 hl (by decide) rfl (fun ls hl => ?_)
    refine lv_iload hx hb d_Vt_run_16 (lv_at hl 0 rfl) ?_
    refine lv_if_ne (tgt := 32) hx hb d_Vt_run_18 (by decide) (fun c_4 => ?_) (fun c_4 => ?_)
    · have h := lf_f h c_4
      refine lv_iload_n hx hb d_Vt_run_32 rfl (lv_at hl 2 rfl) ?_
      refine lv_if_eq (tgt := 52) hx hb d_Vt_run_33 (by decide) (fun c_5 => ?_) (fun c_5 => ?_)
      · have h := lf_t h c_5
        exact hB_52 y_1 y_2 y_3 z_0 Y G S _ _ _ h m0 hP hD hS (lv_sub hl [1, 2, 3, 4, 0] rfl)
      · have h := lf_f h c_5
        refine lv_iload_n hx hb d_Vt_run_36 rfl (lv_at hl 2 rfl) ?_
        refine lv_iconst (v := 1) hx hb d_Vt_run_37 (by decide) ?_
        refine lv_icmp_eq (tgt := 52) hx hb d_Vt_run_38 (by decide) (fun c_6 => ?_) (fun c_6 => ?_)
        · have h := lf_t h c_6
          exact hB_52 y_1 y_2 y_3 z_0 Y G S _ _ _ h m0 hP hD hS (lv_sub hl [1, 2, 3, 4, 0] rfl)
        · have h := lf_f h c_6
          exact lf_xe h
    · have h := lf_t h c_4
      exact lf_xe h
  have m0 : CG.le G0 G0 := ⟨Nat.le_refl _, Nat.le_refl _⟩
  have mF := mo_Vt_run h
  refine W.widen (k := G0.gc - G0.gc) (n := G0.gs - G0.gs) (Nat.zero_le _) (Nat.zero_le _) ?_
  rw [f_Vt_run] at h
  refine lv_aload_n hx hb d_Vt_run_0 rfl (lv_at hl 0 rfl) ?_
  refine va_get (D := (dC, dI)) (ci := 11) (v := .int S.v_Vt_fails) (C := R_Vt) (T := F_Vt) (N := 16) hx hb hts (fun w h => u_Vq_Vt w (i_Vt w h)) hown hK hP 0 rfl rfl 11 (by decide) (hts _ (u_Vq_Vt _ k_Vt_40)) (fun _ h9 => h9) rfl d_Vt_run_1 ?_
  refine lv_topi (fun x_1 ex_1 => ?_)
  have h := lf_lE h ex_1
  refine lv_istore_n (lv' := [(3, .int x_1), (0, .ref M.o_Vt), (1, .int p0), (2, .int p1)]) hx hb d_Vt_run_4 rfl hl (by decide) rfl (fun ls hl => ?_)
  refine lv_aload_n hx hb d_Vt_run_5 rfl (lv_at hl 1 rfl) ?_
  refine lv_iconst (v := 0) hx hb d_Vt_run_6 (by decide) ?_
  refine va_put (D := (dC, dI)) (ci := 11) (v := .int 0) (ty := .int) (C := R_Vt) (T := F_Vt) (N := 16) hx hb hts (fun w h => u_Vq_Vt w (i_Vt w h)) t_Vt t_Vt_ok n_Vt hown hK hP hD hS 0 rfl rfl 11 (by decide) (hts _ (u_Vq_Vt _ k_Vt_40)) (fun _ h9 => h9) rfl (by decide +kernel) rfl rfl (Nat.le_of_ble_eq_true rfl) d_Vt_run_7 (fun H locs hP hD hS => ?_)
  obtain ⟨S_2, eS_2, h⟩ := lf_lX h
  have hP := ly_newP eS_2 hP
  have hD := ly_newD eS_2 hD
  refine lv_aload_n hx hb d_Vt_run_10 rfl (lv_at hl 1 rfl) ?_
  obtain ⟨r_3, G_3, S_3, hc_3, h⟩ := lf_nE h
  have mc := mo_Vt_look hc_3
  have ml_3 := mo_Vt_look hc_3
  have mF1 := mo_Vt_run_14 h
  have hFc := lx_free hD hS hA
  refine va_calli (va_runV (As := []) (rest := []) ⟨hx, hb, hml, hown, hts⟩ (l_Vt_look l dC dI X _ hc_3) (cwV 0 hts (gwV good_Vq (u_Vq_Vt _ k_Vt_68) (u_Vq_Vt _ k_Vt_69) (u_Vq_Vt _ k_Vt_214) (u_Vq_Vt _ k_Vt_0) (wcs (u_Vq_Vt _ k_Vt_70) (fun _ h => h))) rfl rfl rfl (by decide +kernel) ⟨Nat.le_of_ble_eq_true rfl, Nat.le_of_ble_eq_true rfl⟩) (pv_ofE (X.same _) (fun U z1 z2 => X.mono _ _ U hFc (hEw _ _ hS U z1 z2)) hP hK hD (va_recv hK hP (ci := 11) (q0 := 0) rfl rfl)) rfl rfl hl.1 rfl (lv_room (Nat.le_of_ble_eq_true rfl)) d_Vt_run_11 ⟨ly_c1 m0.1 mc.1 mF1.1, ly_c1 m0.2 mc.2 mF1.2⟩) hS (fun q _ h => hFc q h) hFc (fun r_ Y_3 t H locs ht hvm hw hB hz1 hk1 hS => ?_)
  rw [hw]
  obtain ⟨hP, -, hD⟩ := hB
  rw [ht] at hP
  have hD := lx_dj hD hFc
  refine W.widen (k := G_3.gc - G0.gc) (n := G_3.gs - G0.gs) (ly_c2 m0.1 mc.1) (ly_c2 m0.2 mc.2) ?_
  have m0 := CG.le_tr m0 mc
  exact hB_14 p0 p1 x_1 r_3 Y_3 G_3 S_3 _ _ _ h m0 hP hD hS (lv_sub hl [1, 2, 3, 0] rfl)
set_option maxHeartbeats 4000000 in
set_option maxRecDepth 100000 in
theorem lt_Vt_run_0 (l : Launch) (hfl : l.flags = pinnedFlags ++ [noTraceFlag]) (dC : Nat → ClassId) (dI : Nat → Nat → Nat) {K : Nat} {M : CA} {E : (Nat → Prop) → State → Prop} (X : ly_X l dC dI K M E) (sz : Nat) {Y : CT} {G0 G' : CG} {S S' : CS} {p0 : Int32} {p1 : Int32} (h : f_Vt_run K G0 S p0 p1 = some (.error 0, G', S')) : MetX l y_Vt_run (.code y_Vt_run cb_Vt_run 7 (some .int) :: V_Vq) ({ frames := 12, cells := G'.gc - G0.gc, slots := G'.gs - G0.gs, locals := 340 }) (va_Pc [.ref M.o_Vt, .int p0, .int p1] (fun U => U.heap.size = sz ∧ at_ (dC, dI) (fun _ => True) (wV M Y G0 S) (tV M) U ∧ E (va_A (wV M Y G0 S) sz) U)) (fun _ _ _ _ => False) (x_Q "java/lang/IllegalArgumentException" (va_A (wV M Y G0 S) sz) (fun t => ∃ u : CT, at_ (dC, dI) (va_A (wV M Y G0 S) sz) (wV M u G' S') (tV M) t)) (G'.gc - G0.gc) (G'.gs - G0.gs) (va_A (wV M Y G0 S) sz) := by
  refine MetX.ofW (cc := cb_Vt_run) (maxL := 7) (ret := (some .int)) (by decide) rfl ?_
  intro p e s m args below meth c s₁ B hml hv
  obtain ⟨rfl, hsz, ⟨hP, hK, hD0⟩, hE⟩ := hv
  have hx := B.exec
  have hb := B.bytes
  have hr := B.returns
  have hts0 := atoms_spec (ws := .code y_Vt_run cb_Vt_run 7 (some .int) :: V_Vq) B.pre
  have hts : ∀ w ∈ V_Vq, w.before ([.ref M.o_Vt, .int p0, .int p1] : List Value).toArray s = true := fun w h => hts0 w (List.mem_cons_of_mem _ h)
  have hown : s.vm.findClass R_Vt = some m.cls := findClass_of_methodNamed B.named
  have hlocks := B.notSynchronized
  have hout := x_table B (hts0 _ List.mem_cons_self)
  subst hsz
  have hD := hD0.self (sz := s.heap.size)
  generalize hAe : va_A (wV M Y G0 S) s.heap.size = A at hD hE ⊢
  have hA : ∀ q : Nat, s.heap.size ≤ q → A q := fun q h => by rw [← hAe]; exact Or.inr h
  have hS : va_S A s.heap s.heap [] := va_S.rf
  have hP : va_P (dC, dI) classes (wV M Y G0 S) s.heap := hP
  have hK : va_K (dC, dI) classes (tV M) s := hK
  have hEw : ∀ (H : Heap) (locs : List Loc), va_S A s.heap H locs → ∀ U : State, U.heap = H → s.WarmedH U.vm → E A U := fun H locs hS U hU hW => X.kept A s U H locs hE hS hU hW
  have hl := lv_entry ([.ref M.o_Vt, .int p0, .int p1]) (n := 7) (Nat.le_of_ble_eq_true rfl)
  rw [lg_entry_eq]
  generalize (lg_sl ([.ref M.o_Vt, .int p0, .int p1]) ++ List.replicate (7 - (lg_sl ([.ref M.o_Vt, .int p0, .int p1])).length) Slot.unset).toArray = ls at hl ⊢
  have hl : lv_has ls 7 [(0, .ref M.o_Vt), (1, .int p0), (2, .int p1)] := hl
  refine qabs (fun Q hQ => ?_)
  have hB_117 : ∀ (rec_74 : Int32 → Int32 → Int32 → Int32 → CG → CS → Option (Except Nat Int32 × CG × CS)) (hr_74 : ∀ (y_1 : Int32) (y_3 : Int32) (y_5 : Int32) (y_6 : Int32) (Y : CT) (G : CG) (S : CS) (H : Heap) (locs : List Loc) (ls : Array Slot), rec_74 y_1 y_3 y_5 y_6 G S = some (.error 0, G', S') → CG.le G0 G → va_P (dC, dI) classes (wV M Y G S) H → va_D A (wV M Y G S) → va_S A s.heap H locs → lv_has ls 7 [(0, .ref M.o_Vt), (1, .int y_1), (3, .int y_3), (5, .int y_5), (6, .int y_6)] → W p l e ({ frames := 12, cells := G'.gc - G0.gc, slots := G'.gs - G0.gs, locals := 340 }) s m ([.ref M.o_Vt, .int p0, .int p1] : List Value).toArray below meth c H locs (G.gc - G0.gc) (G.gs - G0.gs) Q (F0 m 74 ls [])) (hm_74 : ∀ (y_1 : Int32) (y_3 : Int32) (y_5 : Int32) (y_6 : Int32) (G : CG) (S : CS) {x : Except Nat Int32} {G1 : CG} {S1 : CS}, rec_74 y_1 y_3 y_5 y_6 G S = some (x, G1, S1) → CG.le G G1), ∀ (y_1 : Int32) (y_3 : Int32) (y_5 : Int32) (y_6 : Int32) (z_0 : Int32) (Y : CT) (G : CG) (S : CS) (H : Heap) (locs : List Loc) (ls : Array Slot), f_Vt_run_117 K rec_74 y_1 y_3 y_5 y_6 z_0 G S = some (.error 0, G', S') → CG.le G0 G → va_P (dC, dI) classes (wV M Y G S) H → va_D A (wV M Y G S) → va_S A s.heap H locs → lv_has ls 7 [(0, .ref M.o_Vt), (1, .int y_1), (3, .int y_3), (5, .int y_5), (6, .int y_6)] → W p l e ({ frames := 12, cells := G'.gc - G0.gc, slots := G'.gs - G0.gs, locals := 340 }) s m ([.ref M.o_Vt, .int p0, .int p1] : List Value).toArray below meth c H locs (G.gc - G0.gc) (G.gs - G0.gs) Q (F0 m 117 ls [.int z_0]) := by
    intro rec_74 hr_74 hm_74 y_1 y_3 y_5 y_6 z_0 Y G S H locs ls h m0 hP hD hS hl
    have mF := mo_Vt_run_117 hm_74 h
    rw [f_Vt_run_117] at h
    refine lv_pop hx hb d_Vt_run_117 rfl ?_
    obtain ⟨x_17, ex_17, h⟩ := lf_lX h
    refine lv_iinc (v := x_17) (lv' := [(6, .int x_17), (0, .ref M.o_Vt), (1, .int y_1), (3, .int y_3), (5, .int y_5)]) hx hb d_Vt_run_118 hl (k := 4) rfl (by rw [ex_17]; rfl) (by decide) rfl (fun ls hl => ?_)
    refine lv_goto (tgt := 74) hx hb d_Vt_run_121 (by decide) ?_
    exact hr_74 y_1 y_3 y_5 x_17 Y G S _ _ _ h m0 hP hD hS (lv_sub hl [1, 2, 3, 4, 0] rfl)
  have hB_142 : ∀ (z_0 : Int32) (Y : CT) (G : CG) (S : CS) (H : Heap) (locs : List Loc) (ls : Array Slot), f_Vt_run_142 K z_0 G S = some (.error 0, G', S') → CG.le G0 G → va_P (dC, dI) classes (wV M Y G S) H → va_D A (wV M Y G S) → va_S A s.heap H locs → lv_has ls 7 [(0, .ref M.o_Vt)] → W p l e ({ frames := 12, cells := G'.gc - G0.gc, slots := G'.gs - G0.gs, locals := 340 }) s m ([.ref M.o_Vt, .int p0, .int p1] : List Value).toArray below meth c H locs (G.gc - G0.gc) (G.gs - G0.gs) Q (F0 m 142 ls [.int z_0]) := by
    intro z_0 Y G S H locs ls h m0 hP hD hS hl
    have mF := mo_Vt_run_142 h
    rw [f_Vt_run_142] at h
    refine lv_istore (lv' := [(6, .int z_0), (0, .ref M.o_Vt)]) hx hb d_Vt_run_142 hl (by decide) rfl (fun ls hl => ?_)
    refine lv_aload_n hx hb d_Vt_run_144 rfl (lv_at hl 1 rfl) ?_
    refine lv_iconst (v := 1) hx hb d_Vt_run_145 (by decide) ?_
    refine va_put (D := (dC, dI)) (ci := 11) (v := .int 1) (ty := .boolean) (C := R_Vt) (T := F_Vt) (N := 16) hx hb hts (fun w h => u_Vq_Vt w (i_Vt w h)) t_Vt t_Vt_ok n_Vt hown hK hP hD hS 0 rfl rfl 15 (by decide) (hts _ (u_Vq_Vt _ k_Vt_44)) (fun _ h9 => h9) rfl (by decide +kernel) rfl rfl (Nat.le_of_ble_eq_true rfl) d_Vt_run_146 (fun H locs hP hD hS => ?_)
    obtain ⟨S_18, eS_18, h⟩ := lf_lX h
    have hP := ly_newP eS_18 hP
    have hD := ly_newD eS_18 hD
    refine lv_aload_n hx hb d_Vt_run_149 rfl (lv_at hl 1 rfl) ?_
    obtain ⟨S_19, hc_19, h⟩ := lf_bE h
    have hFc := lx_free hD hS hA
    refine va_callv (va_runV (As := []) (rest := []) ⟨hx, hb, hml, hown, hts⟩ (l_Vt_changed l dC dI X _ hc_19) (cwV 0 hts (gwV good_Vq (u_Vq_Vt _ k_Vt_62) (u_Vq_Vt _ k_Vt_63) (u_Vq_Vt _ k_Vt_213) (u_Vq_Vt _ k_Vt_0) (wcs (u_Vq_Vt _ k_Vt_64) (fun _ h => h))) rfl rfl rfl (by decide +kernel) ⟨Nat.le_of_ble_eq_true rfl, Nat.le_of_ble_eq_true rfl⟩) (pv_ofE (X.same _) (fun U z1 z2 => X.mono _ _ U hFc (hEw _ _ hS U z1 z2)) hP hK hD (va_recv hK hP (ci := 11) (q0 := 0) rfl rfl)) rfl rfl hl.1 rfl (lv_room (Nat.le_of_ble_eq_true rfl)) d_Vt_run_150 ⟨ly_c0 mF.1, ly_c0 mF.2⟩) hS (fun q _ h => hFc q h) hFc (fun u t H locs ht hvm hw hB hz1 hk1 hS => ?_)
    obtain ⟨hP, -, hD⟩ := hB
    rw [ht] at hP
    have hD := lx_dj hD hFc
    refine lv_aload_n hx hb d_Vt_run_153 rfl (lv_at hl 1 rfl) ?_
    refine lv_iconst (v := 0) hx hb d_Vt_run_154 (by decide) ?_
    refine va_put (D := (dC, dI)) (ci := 11) (v := .int 0) (ty := .int) (C := R_Vt) (T := F_Vt) (N := 16) hx hb hts (fun w h => u_Vq_Vt w (i_Vt w h)) t_Vt t_Vt_ok n_Vt hown hK hP hD hS 0 rfl rfl 12 (by decide) (hts _ (u_Vq_Vt _ k_Vt_41)) (fun _ h9 => h9) rfl (by decide +kernel) rfl rfl (Nat.le_of_ble_eq_true rfl) d_Vt_run_155 (fun H locs hP hD hS => ?_)
    obtain ⟨S_20, eS_20, h⟩ := lf_lX h
    have hP := ly_newP eS_20 hP
    have hD := ly_newD eS_20 hD
    refine lv_iload hx hb d_Vt_run_158 (lv_at hl 0 rfl) ?_
    exact lf_xo h
  have hB_124 : ∀ (y_1 : Int32) (y_5 : Int32) (Y : CT) (G : CG) (S : CS) (H : Heap) (locs : List Loc) (ls : Array Slot), f_Vt_run_124 K y_1 y_5 G S = some (.error 0, G', S') → CG.le G0 G → va_P (dC, dI) classes (wV M Y G S) H → va_D A (wV M Y G S) → va_S A s.heap H locs → lv_has ls 7 [(0, .ref M.o_Vt), (1, .int y_1), (5, .int y_5)] → W p l e ({ frames := 12, cells := G'.gc - G0.gc, slots := G'.gs - G0.gs, locals := 340 }) s m ([.ref M.o_Vt, .int p0, .int p1] : List Value).toArray below meth c H locs (G.gc - G0.gc) (G.gs - G0.gs) Q (F0 m 124 ls []) := by
    intro y_1 y_5 Y G S H locs ls h m0 hP hD hS hl
    have mF := mo_Vt_run_124 h
    rw [f_Vt_run_124] at h
    refine lv_aload_n hx hb d_Vt_run_124 rfl (lv_at hl 0 rfl) ?_
    refine va_get (D := (dC, dI)) (ci := 11) (v := .ref M.o_Dk) (C := R_Vt) (T := F_Vt) (N := 16) hx hb hts (fun w h => u_Vq_Vt w (i_Vt w h)) hown hK hP 0 rfl rfl 0 (by decide) (hts _ (u_Vq_Vt _ k_Vt_29)) (fun _ h9 => h9) rfl d_Vt_run_125 ?_
    refine lv_iconst (v := (-1)) hx hb d_Vt_run_128 (by decide) ?_
    obtain ⟨S_15, hc_15, h⟩ := lf_bE h
    have hFc := lx_free hD hS hA
    refine va_callv (va_runV (As := [.int ((-1))]) (rest := []) ⟨hx, hb, hml, hown, hts⟩ (l_Dk_supply l dC dI X _ hc_15) (cwV 1 hts (gwV good_Vq (u_Vq_Vt _ k_Vt_211) (u_Vq_Dk _ k_Dk_33) (u_Vq_Dk _ k_Dk_34) (u_Vq_Dk _ k_Dk_0) (wcs (u_Vq_Dk _ k_Dk_35) (fun _ h => h))) rfl rfl rfl (by decide +kernel) ⟨Nat.le_of_ble_eq_true rfl, Nat.le_of_ble_eq_true rfl⟩) (pv_ofE (X.same _) (fun U z1 z2 => X.mono _ _ U hFc (hEw _ _ hS U z1 z2)) hP hK hD (va_recv hK hP (ci := 0) (q0 := 1) rfl rfl)) rfl rfl hl.1 rfl (lv_room (Nat.le_of_ble_eq_true rfl)) d_Vt_run_129 ⟨ly_c0 mF.1, ly_c0 mF.2⟩) hS (fun q _ h => hFc q h) hFc (fun u t H locs ht hvm hw hB hz1 hk1 hS => ?_)
    obtain ⟨hP, -, hD⟩ := hB
    rw [ht] at hP
    have hD := lx_dj hD hFc
    refine lv_aload_n hx hb d_Vt_run_132 rfl (lv_at hl 0 rfl) ?_
    refine va_get (D := (dC, dI)) (ci := 11) (v := .ref M.o_Tu) (C := R_Vt) (T := F_Vt) (N := 16) hx hb hts (fun w h => u_Vq_Vt w (i_Vt w h)) hown hK hP 0 rfl rfl 7 (by decide) (hts _ (u_Vq_Vt _ k_Vt_36)) (fun _ h9 => h9) rfl d_Vt_run_133 ?_
    refine lv_iload_n hx hb d_Vt_run_136 rfl (lv_at hl 1 rfl) ?_
    refine lv_iload hx hb d_Vt_run_137 (lv_at hl 2 rfl) ?_
    obtain ⟨r_16, G_16, S_16, hc_16, h⟩ := lf_nE h
    have mc := mo_Tu_turn hc_16
    have ml_16 := mo_Tu_turn hc_16
    have mF1 := mo_Vt_run_142 h
    have hFc := lx_free hD hS hA
    refine va_calli (va_runV (As := [.int y_1, .int y_5]) (rest := []) ⟨hx, hb, hml, hown, hts⟩ (l_Tu_turn l dC dI X _ hc_16) (cwV 2 hts (gwV good_Vq (u_Vq_Vt _ k_Vt_212) (u_Vq_Tu _ k_Tu_24) (u_Vq_Tu _ k_Tu_25) (u_Vq_Tu _ k_Tu_0) (wcs (u_Vq_Tu _ k_Tu_26) (fun _ h => h))) rfl rfl rfl (by decide +kernel) ⟨Nat.le_of_ble_eq_true rfl, Nat.le_of_ble_eq_true rfl⟩) (pv_ofE (X.same _) (fun U z1 z2 => X.mono _ _ U hFc (hEw _ _ hS U z1 z2)) hP hK hD (va_recv hK hP (ci := 10) (q0 := 8) rfl rfl)) rfl rfl hl.1 rfl (lv_room (Nat.le_of_ble_eq_true rfl)) d_Vt_run_139 ⟨ly_c1 m0.1 mc.1 mF1.1, ly_c1 m0.2 mc.2 mF1.2⟩) hS (fun q _ h => hFc q h) hFc (fun r_ Y_16 t H locs ht hvm hw hB hz1 hk1 hS => ?_)
    rw [hw]
    obtain ⟨hP, -, hD⟩ := hB
    rw [ht] at hP
    have hD := lx_dj hD hFc
    refine W.widen (k := G_16.gc - G0.gc) (n := G_16.gs - G0.gs) (ly_c2 m0.1 mc.1) (ly_c2 m0.2 mc.2) ?_
    have m0 := CG.le_tr m0 mc
    exact hB_142 r_16 Y_16 G_16 S_16 _ _ _ h m0 hP hD hS (lv_sub hl [0] rfl)
  have hB_74 : ∀ (k : Nat), ∀ (y_1 : Int32) (y_3 : Int32) (y_5 : Int32) (y_6 : Int32) (Y : CT) (G : CG) (S : CS) (H : Heap) (locs : List Loc) (ls : Array Slot), f_Vt_run_74 K k y_1 y_3 y_5 y_6 G S = some (.error 0, G', S') → CG.le G0 G → va_P (dC, dI) classes (wV M Y G S) H → va_D A (wV M Y G S) → va_S A s.heap H locs → lv_has ls 7 [(0, .ref M.o_Vt), (1, .int y_1), (3, .int y_3), (5, .int y_5), (6, .int y_6)] → W p l e ({ frames := 12, cells := G'.gc - G0.gc, slots := G'.gs - G0.gs, locals := 340 }) s m ([.ref M.o_Vt, .int p0, .int p1] : List Value).toArray below meth c H locs (G.gc - G0.gc) (G.gs - G0.gs) Q (F0 m 74 ls []) := by
    intro k
    induction k with
    | zero => intro y_1 y_3 y_5 y_6 Y G S H locs ls h; exact lf_no h
    | succ k hr_74 =>
      intro y_1 y_3 y_5 y_6 Y G S H locs ls h m0 hP hD hS hl
      have mF := mo_Vt_run_74 (k + 1) y_1 y_3 y_5 y_6 G S h
      have hm_74 : ∀ (y_1 : Int32) (y_3 : Int32) (y_5 : Int32) (y_6 : Int32) (G : CG) (S : CS) {x : Except Nat Int32} {G1 : CG} {S1 : CS}, f_Vt_run_74 K k y_1 y_3 y_5 y_6 G S = some (x, G1, S1) → CG.le G G1 := fun y_1 y_3 y_5 y_6 G S => mo_Vt_run_74 k y_1 y_3 y_5 y_6 G S
      rw [f_Vt_run_74] at h
      refine lv_iload hx hb d_Vt_run_74 (lv_at hl 4 rfl) ?_
      refine lv_iload_n hx hb d_Vt_run_76 rfl (lv_at hl 2 rfl) ?_
      refine lv_icmp_ge (tgt := 124) hx hb d_Vt_run_77 (by decide) (fun c_9 => ?_) (fun c_9 => ?_)
      · have h := lf_t h c_9
        exact hB_124 y_1 y_5 Y G S _ _ _ h m0 hP hD hS (lv_sub hl [0, 1, 3] rfl)
      · have h := lf_f h c_9
        refine lv_iload hx hb d_Vt_run_80 (lv_at hl 4 rfl) ?_
        refine lv_bipush (v := 16) hx hb d_Vt_run_82 (by decide) ?_
        refine lv_icmp_ge (tgt := 124) hx hb d_Vt_run_84 (by decide) (fun c_10 => ?_) (fun c_10 => ?_)
        · have h := lf_t h c_10
          exact hB_124 y_1 y_5 Y G S _ _ _ h m0 hP hD hS (lv_sub hl [0, 1, 3] rfl)
        · have h := lf_f h c_10
          refine lv_aload_n hx hb d_Vt_run_87 rfl (lv_at hl 0 rfl) ?_
          refine va_get (D := (dC, dI)) (ci := 11) (v := .ref M.o_Dk) (C := R_Vt) (T := F_Vt) (N := 16) hx hb hts (fun w h => u_Vq_Vt w (i_Vt w h)) hown hK hP 0 rfl rfl 0 (by decide) (hts _ (u_Vq_Vt _ k_Vt_29)) (fun _ h9 => h9) rfl d_Vt_run_88 ?_
          refine lv_aload_n hx hb d_Vt_run_91 rfl (lv_at hl 0 rfl) ?_
          refine va_get (D := (dC, dI)) (ci := 11) (v := .ref M.a_Vt_failWrites) (C := R_Vt) (T := F_Vt) (N := 16) hx hb hts (fun w h => u_Vq_Vt w (i_Vt w h)) hown hK hP 0 rfl rfl 10 (by decide) (hts _ (u_Vq_Vt _ k_Vt_39)) (fun _ h9 => h9) rfl d_Vt_run_92 ?_
          refine lv_iload hx hb d_Vt_run_95 (lv_at hl 4 rfl) ?_
          obtain ⟨g_11, h⟩ := lf_gE h
          refine va_iald hx hb hK hP 11 2 rfl rfl g_11 d_Vt_run_97 ?_
          obtain ⟨S_12, hc_12, h⟩ := lf_bE h
          have hFc := lx_free hD hS hA
          refine va_callv (va_runV (As := [.int (S.w_Vt_failWrites y_6.toNatClampNeg)]) (rest := []) ⟨hx, hb, hml, hown, hts⟩ (l_Dk_supply l dC dI X _ hc_12) (cwV 1 hts (gwV good_Vq (u_Vq_Vt _ k_Vt_211) (u_Vq_Dk _ k_Dk_33) (u_Vq_Dk _ k_Dk_34) (u_Vq_Dk _ k_Dk_0) (wcs (u_Vq_Dk _ k_Dk_35) (fun _ h => h))) rfl rfl rfl (by decide +kernel) ⟨Nat.le_of_ble_eq_true rfl, Nat.le_of_ble_eq_true rfl⟩) (pv_ofE (X.same _) (fun U z1 z2 => X.mono _ _ U hFc (hEw _ _ hS U z1 z2)) hP hK hD (va_recv hK hP (ci := 0) (q0 := 1) rfl rfl)) rfl rfl hl.1 rfl (lv_room (Nat.le_of_ble_eq_true rfl)) d_Vt_run_98 ⟨ly_c0 mF.1, ly_c0 mF.2⟩) hS (fun q _ h => hFc q h) hFc (fun u t H locs ht hvm hw hB hz1 hk1 hS => ?_)
          obtain ⟨hP, -, hD⟩ := hB
          rw [ht] at hP
          have hD := lx_dj hD hFc
          refine lv_aload_n hx hb d_Vt_run_101 rfl (lv_at hl 0 rfl) ?_
          refine va_get (D := (dC, dI)) (ci := 11) (v := .ref M.o_Tu) (C := R_Vt) (T := F_Vt) (N := 16) hx hb hts (fun w h => u_Vq_Vt w (i_Vt w h)) hown hK hP 0 rfl rfl 7 (by decide) (hts _ (u_Vq_Vt _ k_Vt_36)) (fun _ h9 => h9) rfl d_Vt_run_102 ?_
          refine lv_aload_n hx hb d_Vt_run_105 rfl (lv_at hl 0 rfl) ?_
          refine va_get (D := (dC, dI)) (ci := 11) (v := .ref M.a_Vt_failAsks) (C := R_Vt) (T := F_Vt) (N := 16) hx hb hts (fun w h => u_Vq_Vt w (i_Vt w h)) hown hK hP 0 rfl rfl 9 (by decide) (hts _ (u_Vq_Vt _ k_Vt_38)) (fun _ h9 => h9) rfl d_Vt_run_106 ?_
          refine lv_iload hx hb d_Vt_run_109 (lv_at hl 4 rfl) ?_
          obtain ⟨g_13, h⟩ := lf_gE h
          refine va_iald hx hb hK hP 10 2 rfl rfl g_13 d_Vt_run_111 ?_
          refine lv_iload hx hb d_Vt_run_112 (lv_at hl 3 rfl) ?_
          obtain ⟨r_14, G_14, S_14, hc_14, h⟩ := lf_nE h
          have mc := mo_Tu_turn hc_14
          have ml_14 := mo_Tu_turn hc_14
          have mF1 := mo_Vt_run_117 hm_74 h
          have hFc := lx_free hD hS hA
          refine va_calli (va_runV (As := [.int (S_12.w_Vt_failAsks y_6.toNatClampNeg), .int y_5]) (rest := []) ⟨hx, hb, hml, hown, hts⟩ (l_Tu_turn l dC dI X _ hc_14) (cwV 2 hts (gwV good_Vq (u_Vq_Vt _ k_Vt_212) (u_Vq_Tu _ k_Tu_24) (u_Vq_Tu _ k_Tu_25) (u_Vq_Tu _ k_Tu_0) (wcs (u_Vq_Tu _ k_Tu_26) (fun _ h => h))) rfl rfl rfl (by decide +kernel) ⟨Nat.le_of_ble_eq_true rfl, Nat.le_of_ble_eq_true rfl⟩) (pv_ofE (X.same _) (fun U z1 z2 => X.mono _ _ U hFc (hEw _ _ hS U z1 z2)) hP hK hD (va_recv hK hP (ci := 10) (q0 := 8) rfl rfl)) rfl rfl hl.1 rfl (lv_room (Nat.le_of_ble_eq_true rfl)) d_Vt_run_114 ⟨ly_c1 m0.1 mc.1 mF1.1, ly_c1 m0.2 mc.2 mF1.2⟩) hS (fun q _ h => hFc q h) hFc (fun r_ Y_14 t H locs ht hvm hw hB hz1 hk1 hS => ?_)
          rw [hw]
          obtain ⟨hP, -, hD⟩ := hB
          rw [ht] at hP
          have hD := lx_dj hD hFc
          refine W.widen (k := G_14.gc - G0.gc) (n := G_14.gs - G0.gs) (ly_c2 m0.1 mc.1) (ly_c2 m0.2 mc.2) ?_
          have m0 := CG.le_tr m0 mc
          exact hB_117 _ hr_74 hm_74 y_1 y_3 y_5 y_6 r_14 Y_14 G_14 S_14 _ _ _ h m0 hP hD hS (lv_sub hl [0, 1, 2, 3, 4] rfl)
  have hB_69 : ∀ (y_1 : Int32) (y_3 : Int32) (z_0 : Int32) (Y : CT) (G : CG) (S : CS) (H : Heap) (locs : List Loc) (ls : Array Slot), f_Vt_run_69 K y_1 y_3 z_0 G S = some (.error 0, G', S') → CG.le G0 G → va_P (dC, dI) classes (wV M Y G S) H → va_D A (wV M Y G S) → va_S A s.heap H locs → lv_has ls 7 [(0, .ref M.o_Vt), (1, .int y_1), (3, .int y_3)] → W p l e ({ frames := 12, cells := G'.gc - G0.gc, slots := G'.gs - G0.gs, locals := 340 }) s m ([.ref M.o_Vt, .int p0, .int p1] : List Value).toArray below meth c H locs (G.gc - G0.gc) (G.gs - G0.gs) Q (F0 m 69 ls [.int z_0]) := by
    intro y_1 y_3 z_0 Y G S H locs ls h m0 hP hD hS hl
    have mF := mo_Vt_run_69 h
    rw [f_Vt_run_69] at h
    refine lv_istore (lv' := [(5, .int z_0), (0, .ref M.o_Vt), (1, .int y_1), (3, .int y_3)]) hx hb d_Vt_run_69 hl (by decide) rfl (fun ls hl => ?_)
    refine lv_iconst (v := 0) hx hb d_Vt_run_71 (by decide) ?_
    refine lv_istore (lv' := [(6, .int 0), (5, .int z_0), (0, .ref M.o_Vt), (1, .int y_1), (3, .int y_3)]) hx hb d_Vt_run_72 hl (by decide) rfl (fun ls hl => ?_)
    exact hB_74 K y_1 y_3 z_0 0 Y G S _ _ _ h m0 hP hD hS (lv_sub hl [2, 3, 4, 1, 0] rfl)
  have hB_52 : ∀ (y_1 : Int32) (y_2 : Int32) (y_3 : Int32) (y_4 : Int32) (Y : CT) (G : CG) (S : CS) (H : Heap) (locs : List Loc) (ls : Array Slot), f_Vt_run_52 K y_1 y_2 y_3 y_4 G S = some (.error 0, G', S') → CG.le G0 G → va_P (dC, dI) classes (wV M Y G S) H → va_D A (wV M Y G S) → va_S A s.heap H locs → lv_has ls 7 [(0, .ref M.o_Vt), (1, .int y_1), (2, .int y_2), (3, .int y_3), (4, .int y_4)] → W p l e ({ frames := 12, cells := G'.gc - G0.gc, slots := G'.gs - G0.gs, locals := 340 }) s m ([.ref M.o_Vt, .int p0, .int p1] : List Value).toArray below meth c H locs (G.gc - G0.gc) (G.gs - G0.gs) Q (F0 m 52 ls []) := by
    intro y_1 y_2 y_3 y_4 Y G S H locs ls h m0 hP hD hS hl
    have mF := mo_Vt_run_52 h
    rw [f_Vt_run_52] at h
    refine lv_iload hx hb d_Vt_run_52 (lv_at hl 4 rfl) ?_
    refine lv_iconst (v := 2) hx hb d_Vt_run_54 (by decide) ?_
    refine lv_icmp_ne (tgt := 68) hx hb d_Vt_run_55 (by decide) (fun c_7 => ?_) (fun c_7 => ?_)
    · have h := lf_f h c_7
      refine lv_iload_n hx hb d_Vt_run_68 rfl (lv_at hl 2 rfl) ?_
      exact hB_69 y_1 y_3 y_2 Y G S _ _ _ h m0 hP hD hS (lv_sub hl [0, 1, 3] rfl)
    · have h := lf_t h c_7
      refine lv_aload_n hx hb d_Vt_run_58 rfl (lv_at hl 0 rfl) ?_
      refine va_get (D := (dC, dI)) (ci := 11) (v := .ref M.o_In) (C := R_Vt) (T := F_Vt) (N := 16) hx hb hts (fun w h => u_Vq_Vt w (i_Vt w h)) hown hK hP 0 rfl rfl 8 (by decide) (hts _ (u_Vq_Vt _ k_Vt_37)) (fun _ h9 => h9) rfl d_Vt_run_59 ?_
      obtain ⟨r_8, S_8, hc_8, h⟩ := lf_cE h
      have hFc := lx_free hD hS hA
      refine va_calli (va_runV (As := []) (rest := []) ⟨hx, hb, hml, hown, hts⟩ (l_In_groupSize l dC dI X _ hc_8) (cwV 0 hts (gwV good_Vq (u_Vq_Vt _ k_Vt_210) (u_Vq_In _ k_In_22) (u_Vq_In _ k_In_23) (u_Vq_In _ k_In_0) (wcs (u_Vq_In _ k_In_24) (fun _ h => h))) rfl rfl rfl (by decide +kernel) ⟨Nat.le_of_ble_eq_true rfl, Nat.le_of_ble_eq_true rfl⟩) (pv_ofE (X.same _) (fun U z1 z2 => X.mono _ _ U hFc (hEw _ _ hS U z1 z2)) hP hK hD (va_recv hK hP (ci := 6) (q0 := 9) rfl rfl)) rfl rfl hl.1 rfl (lv_room (Nat.le_of_ble_eq_true rfl)) d_Vt_run_62 ⟨ly_c0 mF.1, ly_c0 mF.2⟩) hS (fun q _ h => hFc q h) hFc (fun r_ u t H locs ht hvm hw hB hz1 hk1 hS => ?_)
      rw [hw]
      obtain ⟨hP, -, hD⟩ := hB
      rw [ht] at hP
      have hD := lx_dj hD hFc
      refine lv_goto (tgt := 69) hx hb d_Vt_run_65 (by decide) ?_
      exact hB_69 y_1 y_3 r_8 Y G S_8 _ _ _ h m0 hP hD hS (lv_sub hl [0, 1, 3] rfl)
  have hB_14 : ∀ (y_1 : Int32) (y_2 : Int32) (y_3 : Int32) (z_0 : Int32) (Y : CT) (G : CG) (S : CS) (H : Heap) (locs : List Loc) (ls : Array Slot), f_Vt_run_14 K y_1 y_2 y_3 z_0 G S = some (.error 0, G', S') → CG.le G0 G → va_P (dC, dI) classes (wV M Y G S) H → va_D A (wV M Y G S) → va_S A s.heap H locs → lv_has ls 7 [(0, .ref M.o_Vt), (1, .int y_1), (2, .int y_2), (3, .int y_3)] → W p l e ({ frames := 12, cells := G'.gc - G0.gc, slots := G'.gs - G0.gs, locals := 340 }) s m ([.ref M.o_Vt, .int p0, .int p1] : List Value).toArray below meth c H locs (G.gc - G0.gc) (G.gs - G0.gs) Q (F0 m 14 ls [.int z_0]) := by
    intro y_1 y_2 y_3 z_0 Y G S H locs ls h m0 hP hD hS hl
    have mF := mo_Vt_run_14 h
    rw [f_Vt_run_14] at h
    refine lv_istore (lv' := [(4, .int z_0), (0, .ref M.o_Vt), (1, .int y_1), (2, .int y_2), (3, .int y_3)]) hx hb d_Vt_run_14 hl (by decide) rfl (fun ls hl => ?_)
    refine lv_iload hx hb d_Vt_run_16 (lv_at hl 0 rfl) ?_
    refine lv_if_ne (tgt := 32) hx hb d_Vt_run_18 (by decide) (fun c_4 => ?_) (fun c_4 => ?_)
    · have h := lf_f h c_4
      refine lv_iload_n hx hb d_Vt_run_32 rfl (lv_at hl 2 rfl) ?_
      refine lv_if_eq (tgt := 52) hx hb d_Vt_run_33 (by decide) (fun c_5 => ?_) (fun c_5 => ?_)
      · have h := lf_t h c_5
        exact hB_52 y_1 y_2 y_3 z_0 Y G S _ _ _ h m0 hP hD hS (lv_sub hl [1, 2, 3, 4, 0] rfl)
      · have h := lf_f h c_5
        refine lv_iload_n hx hb d_Vt_run_36 rfl (lv_at hl 2 rfl) ?_
        refine lv_iconst (v := 1) hx hb d_Vt_run_37 (by decide) ?_
        refine lv_icmp_eq (tgt := 52) hx hb d_Vt_run_38 (by decide) (fun c_6 => ?_) (fun c_6 => ?_)
        · have h := lf_t h c_6
          exact hB_52 y_1 y_2 y_3 z_0 Y G S _ _ _ h m0 hP hD hS (lv_sub hl [1, 2, 3, 4, 0] rfl)
        · have h := lf_f h c_6
          rw [hQ]
          have e2 : G.made 1 6 = G' := congrArg (fun z => z.2.1) (Option.some.inj h)
          have e3 : S = S' := congrArg (fun z => z.2.2) (Option.some.inj h)
          have hP := ly_newP3 e2.symm e3.symm (ly_madeP (c := 1) (n := 6) hP)
          have hD := ly_newD3 e2.symm e3.symm (ly_madeD (c := 1) (n := 6) hD)
          refine W.mono (ly_mqx (fun t z => ⟨Y, z⟩)) ?_
          exact x_thrG (own := R_Vt) (cls := "java/lang/IllegalArgumentException") (ik := 133) (is := 315) (ic := 137) (k := 3) hx hb (Launch.traces_off hfl (Stand.of_body B).admits) hlocks hown (by decide) (fun T hT => (X.xt_315 _ _ (hEw _ _ hS (xs s T) hT (State.WarmedH.refl s))).1) (hts _ (u_Vq_Vt _ k_Vt_100)) (hts _ (u_Vq_Vt _ k_Vt_101)) (hts _ (u_Vq_Vt _ k_Vt_1)) (X.xt_315 _ _ hE).2 (hl.1.trans hml.symm) d_Vt_run_41 d_Vt_run_44 (Or.inr ⟨d_Vt_run_45, rfl⟩) d_Vt_run_48 d_Vt_run_51 hout (Nat.le_of_ble_eq_true rfl) (Nat.le_of_ble_eq_true rfl) (ly_t1 e2 m0) (Nat.le_refl _) (ly_t2 e2 m0) (Nat.le_refl _) hP hK hD hS
    · have h := lf_t h c_4
      exact lf_xk h (by decide)
  have m0 : CG.le G0 G0 := ⟨Nat.le_refl _, Nat.le_refl _⟩
  have mF := mo_Vt_run h
  refine W.widen (k := G0.gc - G0.gc) (n := G0.gs - G0.gs) (Nat.zero_le _) (Nat.zero_le _) ?_
  rw [f_Vt_run] at h
  refine lv_aload_n hx hb d_Vt_run_0 rfl (lv_at hl 0 rfl) ?_
  refine va_get (D := (dC, dI)) (ci := 11) (v := .int S.v_Vt_fails) (C := R_Vt) (T := F_Vt) (N := 16) hx hb hts (fun w h => u_Vq_Vt w (i_Vt w h)) hown hK hP 0 rfl rfl 11 (by decide) (hts _ (u_Vq_Vt _ k_Vt_40)) (fun _ h9 => h9) rfl d_Vt_run_1 ?_
  refine lv_topi (fun x_1 ex_1 => ?_)
  have h := lf_lE h ex_1
  refine lv_istore_n (lv' := [(3, .int x_1), (0, .ref M.o_Vt), (1, .int p0), (2, .int p1)]) hx hb d_Vt_run_4 rfl hl (by decide) rfl (fun ls hl => ?_)
  refine lv_aload_n hx hb d_Vt_run_5 rfl (lv_at hl 1 rfl) ?_
  refine lv_iconst (v := 0) hx hb d_Vt_run_6 (by decide) ?_
  refine va_put (D := (dC, dI)) (ci := 11) (v := .int 0) (ty := .int) (C := R_Vt) (T := F_Vt) (N := 16) hx hb hts (fun w h => u_Vq_Vt w (i_Vt w h)) t_Vt t_Vt_ok n_Vt hown hK hP hD hS 0 rfl rfl 11 (by decide) (hts _ (u_Vq_Vt _ k_Vt_40)) (fun _ h9 => h9) rfl (by decide +kernel) rfl rfl (Nat.le_of_ble_eq_true rfl) d_Vt_run_7 (fun H locs hP hD hS => ?_)
  obtain ⟨S_2, eS_2, h⟩ := lf_lX h
  have hP := ly_newP eS_2 hP
  have hD := ly_newD eS_2 hD
  refine lv_aload_n hx hb d_Vt_run_10 rfl (lv_at hl 1 rfl) ?_
  obtain ⟨r_3, G_3, S_3, hc_3, h⟩ := lf_nE h
  have mc := mo_Vt_look hc_3
  have ml_3 := mo_Vt_look hc_3
  have mF1 := mo_Vt_run_14 h
  have hFc := lx_free hD hS hA
  refine va_calli (va_runV (As := []) (rest := []) ⟨hx, hb, hml, hown, hts⟩ (l_Vt_look l dC dI X _ hc_3) (cwV 0 hts (gwV good_Vq (u_Vq_Vt _ k_Vt_68) (u_Vq_Vt _ k_Vt_69) (u_Vq_Vt _ k_Vt_214) (u_Vq_Vt _ k_Vt_0) (wcs (u_Vq_Vt _ k_Vt_70) (fun _ h => h))) rfl rfl rfl (by decide +kernel) ⟨Nat.le_of_ble_eq_true rfl, Nat.le_of_ble_eq_true rfl⟩) (pv_ofE (X.same _) (fun U z1 z2 => X.mono _ _ U hFc (hEw _ _ hS U z1 z2)) hP hK hD (va_recv hK hP (ci := 11) (q0 := 0) rfl rfl)) rfl rfl hl.1 rfl (lv_room (Nat.le_of_ble_eq_true rfl)) d_Vt_run_11 ⟨ly_c1 m0.1 mc.1 mF1.1, ly_c1 m0.2 mc.2 mF1.2⟩) hS (fun q _ h => hFc q h) hFc (fun r_ Y_3 t H locs ht hvm hw hB hz1 hk1 hS => ?_)
  rw [hw]
  obtain ⟨hP, -, hD⟩ := hB
  rw [ht] at hP
  have hD := lx_dj hD hFc
  refine W.widen (k := G_3.gc - G0.gc) (n := G_3.gs - G0.gs) (ly_c2 m0.1 mc.1) (ly_c2 m0.2 mc.2) ?_
  have m0 := CG.le_tr m0 mc
  exact hB_14 p0 p1 x_1 r_3 Y_3 G_3 S_3 _ _ _ h m0 hP hD hS (lv_sub hl [1, 2, 3, 0] rfl)
set_option maxHeartbeats 4000000 in
set_option maxRecDepth 100000 in
theorem lt_Vt_run_1 (l : Launch) (hfl : l.flags = pinnedFlags ++ [noTraceFlag]) (dC : Nat → ClassId) (dI : Nat → Nat → Nat) {K : Nat} {M : CA} {E : (Nat → Prop) → State → Prop} (X : ly_X l dC dI K M E) (sz : Nat) {Y : CT} {G0 G' : CG} {S S' : CS} {p0 : Int32} {p1 : Int32} (h : f_Vt_run K G0 S p0 p1 = some (.error 1, G', S')) : MetX l y_Vt_run (.code y_Vt_run cb_Vt_run 7 (some .int) :: V_Vq) ({ frames := 12, cells := G'.gc - G0.gc, slots := G'.gs - G0.gs, locals := 340 }) (va_Pc [.ref M.o_Vt, .int p0, .int p1] (fun U => U.heap.size = sz ∧ at_ (dC, dI) (fun _ => True) (wV M Y G0 S) (tV M) U ∧ E (va_A (wV M Y G0 S) sz) U)) (fun _ _ _ _ => False) (x_Q "java/lang/IllegalStateException" (va_A (wV M Y G0 S) sz) (fun t => ∃ u : CT, at_ (dC, dI) (va_A (wV M Y G0 S) sz) (wV M u G' S') (tV M) t)) (G'.gc - G0.gc) (G'.gs - G0.gs) (va_A (wV M Y G0 S) sz) := by
  refine MetX.ofW (cc := cb_Vt_run) (maxL := 7) (ret := (some .int)) (by decide) rfl ?_
  intro p e s m args below meth c s₁ B hml hv
  obtain ⟨rfl, hsz, ⟨hP, hK, hD0⟩, hE⟩ := hv
  have hx := B.exec
  have hb := B.bytes
  have hr := B.returns
  have hts0 := atoms_spec (ws := .code y_Vt_run cb_Vt_run 7 (some .int) :: V_Vq) B.pre
  have hts : ∀ w ∈ V_Vq, w.before ([.ref M.o_Vt, .int p0, .int p1] : List Value).toArray s = true := fun w h => hts0 w (List.mem_cons_of_mem _ h)
  have hown : s.vm.findClass R_Vt = some m.cls := findClass_of_methodNamed B.named
  have hlocks := B.notSynchronized
  have hout := x_table B (hts0 _ List.mem_cons_self)
  subst hsz
  have hD := hD0.self (sz := s.heap.size)
  generalize hAe : va_A (wV M Y G0 S) s.heap.size = A at hD hE ⊢
  have hA : ∀ q : Nat, s.heap.size ≤ q → A q := fun q h => by rw [← hAe]; exact Or.inr h
  have hS : va_S A s.heap s.heap [] := va_S.rf
  have hP : va_P (dC, dI) classes (wV M Y G0 S) s.heap := hP
  have hK : va_K (dC, dI) classes (tV M) s := hK
  have hEw : ∀ (H : Heap) (locs : List Loc), va_S A s.heap H locs → ∀ U : State, U.heap = H → s.WarmedH U.vm → E A U := fun H locs hS U hU hW => X.kept A s U H locs hE hS hU hW
  have hl := lv_entry ([.ref M.o_Vt, .int p0, .int p1]) (n := 7) (Nat.le_of_ble_eq_true rfl)
  rw [lg_entry_eq]
  generalize (lg_sl ([.ref M.o_Vt, .int p0, .int p1]) ++ List.replicate (7 - (lg_sl ([.ref M.o_Vt, .int p0, .int p1])).length) Slot.unset).toArray = ls at hl ⊢
  have hl : lv_has ls 7 [(0, .ref M.o_Vt), (1, .int p0), (2, .int p1)] := hl
  refine qabs (fun Q hQ => ?_)
  have hB_117 : ∀ (rec_74 : Int32 → Int32 → Int32 → Int32 → CG → CS → Option (Except Nat Int32 × CG × CS)) (hr_74 : ∀ (y_1 : Int32) (y_3 : Int32) (y_5 : Int32) (y_6 : Int32) (Y : CT) (G : CG) (S : CS) (H : Heap) (locs : List Loc) (ls : Array Slot), rec_74 y_1 y_3 y_5 y_6 G S = some (.error 1, G', S') → CG.le G0 G → va_P (dC, dI) classes (wV M Y G S) H → va_D A (wV M Y G S) → va_S A s.heap H locs → lv_has ls 7 [(0, .ref M.o_Vt), (1, .int y_1), (3, .int y_3), (5, .int y_5), (6, .int y_6)] → W p l e ({ frames := 12, cells := G'.gc - G0.gc, slots := G'.gs - G0.gs, locals := 340 }) s m ([.ref M.o_Vt, .int p0, .int p1] : List Value).toArray below meth c H locs (G.gc - G0.gc) (G.gs - G0.gs) Q (F0 m 74 ls [])) (hm_74 : ∀ (y_1 : Int32) (y_3 : Int32) (y_5 : Int32) (y_6 : Int32) (G : CG) (S : CS) {x : Except Nat Int32} {G1 : CG} {S1 : CS}, rec_74 y_1 y_3 y_5 y_6 G S = some (x, G1, S1) → CG.le G G1), ∀ (y_1 : Int32) (y_3 : Int32) (y_5 : Int32) (y_6 : Int32) (z_0 : Int32) (Y : CT) (G : CG) (S : CS) (H : Heap) (locs : List Loc) (ls : Array Slot), f_Vt_run_117 K rec_74 y_1 y_3 y_5 y_6 z_0 G S = some (.error 1, G', S') → CG.le G0 G → va_P (dC, dI) classes (wV M Y G S) H → va_D A (wV M Y G S) → va_S A s.heap H locs → lv_has ls 7 [(0, .ref M.o_Vt), (1, .int y_1), (3, .int y_3), (5, .int y_5), (6, .int y_6)] → W p l e ({ frames := 12, cells := G'.gc - G0.gc, slots := G'.gs - G0.gs, locals := 340 }) s m ([.ref M.o_Vt, .int p0, .int p1] : List Value).toArray below meth c H locs (G.gc - G0.gc) (G.gs - G0.gs) Q (F0 m 117 ls [.int z_0]) := by
    intro rec_74 hr_74 hm_74 y_1 y_3 y_5 y_6 z_0 Y G S H locs ls h m0 hP hD hS hl
    have mF := mo_Vt_run_117 hm_74 h
    rw [f_Vt_run_117] at h
    refine lv_pop hx hb d_Vt_run_117 rfl ?_
    obtain ⟨x_17, ex_17, h⟩ := lf_lX h
    refine lv_iinc (v := x_17) (lv' := [(6, .int x_17), (0, .ref M.o_Vt), (1, .int y_1), (3, .int y_3), (5, .int y_5)]) hx hb d_Vt_run_118 hl (k := 4) rfl (by rw [ex_17]; rfl) (by decide) rfl (fun ls hl => ?_)
    refine lv_goto (tgt := 74) hx hb d_Vt_run_121 (by decide) ?_
    exact hr_74 y_1 y_3 y_5 x_17 Y G S _ _ _ h m0 hP hD hS (lv_sub hl [1, 2, 3, 4, 0] rfl)
  have hB_142 : ∀ (z_0 : Int32) (Y : CT) (G : CG) (S : CS) (H : Heap) (locs : List Loc) (ls : Array Slot), f_Vt_run_142 K z_0 G S = some (.error 1, G', S') → CG.le G0 G → va_P (dC, dI) classes (wV M Y G S) H → va_D A (wV M Y G S) → va_S A s.heap H locs → lv_has ls 7 [(0, .ref M.o_Vt)] → W p l e ({ frames := 12, cells := G'.gc - G0.gc, slots := G'.gs - G0.gs, locals := 340 }) s m ([.ref M.o_Vt, .int p0, .int p1] : List Value).toArray below meth c H locs (G.gc - G0.gc) (G.gs - G0.gs) Q (F0 m 142 ls [.int z_0]) := by
    intro z_0 Y G S H locs ls h m0 hP hD hS hl
    have mF := mo_Vt_run_142 h
    rw [f_Vt_run_142] at h
    refine lv_istore (lv' := [(6, .int z_0), (0, .ref M.o_Vt)]) hx hb d_Vt_run_142 hl (by decide) rfl (fun ls hl => ?_)
    refine lv_aload_n hx hb d_Vt_run_144 rfl (lv_at hl 1 rfl) ?_
    refine lv_iconst (v := 1) hx hb d_Vt_run_145 (by decide) ?_
    refine va_put (D := (dC, dI)) (ci := 11) (v := .int 1) (ty := .boolean) (C := R_Vt) (T := F_Vt) (N := 16) hx hb hts (fun w h => u_Vq_Vt w (i_Vt w h)) t_Vt t_Vt_ok n_Vt hown hK hP hD hS 0 rfl rfl 15 (by decide) (hts _ (u_Vq_Vt _ k_Vt_44)) (fun _ h9 => h9) rfl (by decide +kernel) rfl rfl (Nat.le_of_ble_eq_true rfl) d_Vt_run_146 (fun H locs hP hD hS => ?_)
    obtain ⟨S_18, eS_18, h⟩ := lf_lX h
    have hP := ly_newP eS_18 hP
    have hD := ly_newD eS_18 hD
    refine lv_aload_n hx hb d_Vt_run_149 rfl (lv_at hl 1 rfl) ?_
    obtain ⟨S_19, hc_19, h⟩ := lf_bE h
    have hFc := lx_free hD hS hA
    refine va_callv (va_runV (As := []) (rest := []) ⟨hx, hb, hml, hown, hts⟩ (l_Vt_changed l dC dI X _ hc_19) (cwV 0 hts (gwV good_Vq (u_Vq_Vt _ k_Vt_62) (u_Vq_Vt _ k_Vt_63) (u_Vq_Vt _ k_Vt_213) (u_Vq_Vt _ k_Vt_0) (wcs (u_Vq_Vt _ k_Vt_64) (fun _ h => h))) rfl rfl rfl (by decide +kernel) ⟨Nat.le_of_ble_eq_true rfl, Nat.le_of_ble_eq_true rfl⟩) (pv_ofE (X.same _) (fun U z1 z2 => X.mono _ _ U hFc (hEw _ _ hS U z1 z2)) hP hK hD (va_recv hK hP (ci := 11) (q0 := 0) rfl rfl)) rfl rfl hl.1 rfl (lv_room (Nat.le_of_ble_eq_true rfl)) d_Vt_run_150 ⟨ly_c0 mF.1, ly_c0 mF.2⟩) hS (fun q _ h => hFc q h) hFc (fun u t H locs ht hvm hw hB hz1 hk1 hS => ?_)
    obtain ⟨hP, -, hD⟩ := hB
    rw [ht] at hP
    have hD := lx_dj hD hFc
    refine lv_aload_n hx hb d_Vt_run_153 rfl (lv_at hl 1 rfl) ?_
    refine lv_iconst (v := 0) hx hb d_Vt_run_154 (by decide) ?_
    refine va_put (D := (dC, dI)) (ci := 11) (v := .int 0) (ty := .int) (C := R_Vt) (T := F_Vt) (N := 16) hx hb hts (fun w h => u_Vq_Vt w (i_Vt w h)) t_Vt t_Vt_ok n_Vt hown hK hP hD hS 0 rfl rfl 12 (by decide) (hts _ (u_Vq_Vt _ k_Vt_41)) (fun _ h9 => h9) rfl (by decide +kernel) rfl rfl (Nat.le_of_ble_eq_true rfl) d_Vt_run_155 (fun H locs hP hD hS => ?_)
    obtain ⟨S_20, eS_20, h⟩ := lf_lX h
    have hP := ly_newP eS_20 hP
    have hD := ly_newD eS_20 hD
    refine lv_iload hx hb d_Vt_run_158 (lv_at hl 0 rfl) ?_
    exact lf_xo h
  have hB_124 : ∀ (y_1 : Int32) (y_5 : Int32) (Y : CT) (G : CG) (S : CS) (H : Heap) (locs : List Loc) (ls : Array Slot), f_Vt_run_124 K y_1 y_5 G S = some (.error 1, G', S') → CG.le G0 G → va_P (dC, dI) classes (wV M Y G S) H → va_D A (wV M Y G S) → va_S A s.heap H locs → lv_has ls 7 [(0, .ref M.o_Vt), (1, .int y_1), (5, .int y_5)] → W p l e ({ frames := 12, cells := G'.gc - G0.gc, slots := G'.gs - G0.gs, locals := 340 }) s m ([.ref M.o_Vt, .int p0, .int p1] : List Value).toArray below meth c H locs (G.gc - G0.gc) (G.gs - G0.gs) Q (F0 m 124 ls []) := by
    intro y_1 y_5 Y G S H locs ls h m0 hP hD hS hl
    have mF := mo_Vt_run_124 h
    rw [f_Vt_run_124] at h
    refine lv_aload_n hx hb d_Vt_run_124 rfl (lv_at hl 0 rfl) ?_
    refine va_get (D := (dC, dI)) (ci := 11) (v := .ref M.o_Dk) (C := R_Vt) (T := F_Vt) (N := 16) hx hb hts (fun w h => u_Vq_Vt w (i_Vt w h)) hown hK hP 0 rfl rfl 0 (by decide) (hts _ (u_Vq_Vt _ k_Vt_29)) (fun _ h9 => h9) rfl d_Vt_run_125 ?_
    refine lv_iconst (v := (-1)) hx hb d_Vt_run_128 (by decide) ?_
    obtain ⟨S_15, hc_15, h⟩ := lf_bE h
    have hFc := lx_free hD hS hA
    refine va_callv (va_runV (As := [.int ((-1))]) (rest := []) ⟨hx, hb, hml, hown, hts⟩ (l_Dk_supply l dC dI X _ hc_15) (cwV 1 hts (gwV good_Vq (u_Vq_Vt _ k_Vt_211) (u_Vq_Dk _ k_Dk_33) (u_Vq_Dk _ k_Dk_34) (u_Vq_Dk _ k_Dk_0) (wcs (u_Vq_Dk _ k_Dk_35) (fun _ h => h))) rfl rfl rfl (by decide +kernel) ⟨Nat.le_of_ble_eq_true rfl, Nat.le_of_ble_eq_true rfl⟩) (pv_ofE (X.same _) (fun U z1 z2 => X.mono _ _ U hFc (hEw _ _ hS U z1 z2)) hP hK hD (va_recv hK hP (ci := 0) (q0 := 1) rfl rfl)) rfl rfl hl.1 rfl (lv_room (Nat.le_of_ble_eq_true rfl)) d_Vt_run_129 ⟨ly_c0 mF.1, ly_c0 mF.2⟩) hS (fun q _ h => hFc q h) hFc (fun u t H locs ht hvm hw hB hz1 hk1 hS => ?_)
    obtain ⟨hP, -, hD⟩ := hB
    rw [ht] at hP
    have hD := lx_dj hD hFc
    refine lv_aload_n hx hb d_Vt_run_132 rfl (lv_at hl 0 rfl) ?_
    refine va_get (D := (dC, dI)) (ci := 11) (v := .ref M.o_Tu) (C := R_Vt) (T := F_Vt) (N := 16) hx hb hts (fun w h => u_Vq_Vt w (i_Vt w h)) hown hK hP 0 rfl rfl 7 (by decide) (hts _ (u_Vq_Vt _ k_Vt_36)) (fun _ h9 => h9) rfl d_Vt_run_133 ?_
    refine lv_iload_n hx hb d_Vt_run_136 rfl (lv_at hl 1 rfl) ?_
    refine lv_iload hx hb d_Vt_run_137 (lv_at hl 2 rfl) ?_
    obtain ⟨r_16, G_16, S_16, hc_16, h⟩ := lf_nE h
    have mc := mo_Tu_turn hc_16
    have ml_16 := mo_Tu_turn hc_16
    have mF1 := mo_Vt_run_142 h
    have hFc := lx_free hD hS hA
    refine va_calli (va_runV (As := [.int y_1, .int y_5]) (rest := []) ⟨hx, hb, hml, hown, hts⟩ (l_Tu_turn l dC dI X _ hc_16) (cwV 2 hts (gwV good_Vq (u_Vq_Vt _ k_Vt_212) (u_Vq_Tu _ k_Tu_24) (u_Vq_Tu _ k_Tu_25) (u_Vq_Tu _ k_Tu_0) (wcs (u_Vq_Tu _ k_Tu_26) (fun _ h => h))) rfl rfl rfl (by decide +kernel) ⟨Nat.le_of_ble_eq_true rfl, Nat.le_of_ble_eq_true rfl⟩) (pv_ofE (X.same _) (fun U z1 z2 => X.mono _ _ U hFc (hEw _ _ hS U z1 z2)) hP hK hD (va_recv hK hP (ci := 10) (q0 := 8) rfl rfl)) rfl rfl hl.1 rfl (lv_room (Nat.le_of_ble_eq_true rfl)) d_Vt_run_139 ⟨ly_c1 m0.1 mc.1 mF1.1, ly_c1 m0.2 mc.2 mF1.2⟩) hS (fun q _ h => hFc q h) hFc (fun r_ Y_16 t H locs ht hvm hw hB hz1 hk1 hS => ?_)
    rw [hw]
    obtain ⟨hP, -, hD⟩ := hB
    rw [ht] at hP
    have hD := lx_dj hD hFc
    refine W.widen (k := G_16.gc - G0.gc) (n := G_16.gs - G0.gs) (ly_c2 m0.1 mc.1) (ly_c2 m0.2 mc.2) ?_
    have m0 := CG.le_tr m0 mc
    exact hB_142 r_16 Y_16 G_16 S_16 _ _ _ h m0 hP hD hS (lv_sub hl [0] rfl)
  have hB_74 : ∀ (k : Nat), ∀ (y_1 : Int32) (y_3 : Int32) (y_5 : Int32) (y_6 : Int32) (Y : CT) (G : CG) (S : CS) (H : Heap) (locs : List Loc) (ls : Array Slot), f_Vt_run_74 K k y_1 y_3 y_5 y_6 G S = some (.error 1, G', S') → CG.le G0 G → va_P (dC, dI) classes (wV M Y G S) H → va_D A (wV M Y G S) → va_S A s.heap H locs → lv_has ls 7 [(0, .ref M.o_Vt), (1, .int y_1), (3, .int y_3), (5, .int y_5), (6, .int y_6)] → W p l e ({ frames := 12, cells := G'.gc - G0.gc, slots := G'.gs - G0.gs, locals := 340 }) s m ([.ref M.o_Vt, .int p0, .int p1] : List Value).toArray below meth c H locs (G.gc - G0.gc) (G.gs - G0.gs) Q (F0 m 74 ls []) := by
    intro k
    induction k with
    | zero => intro y_1 y_3 y_5 y_6 Y G S H locs ls h; exact lf_no h
    | succ k hr_74 =>
      intro y_1 y_3 y_5 y_6 Y G S H locs ls h m0 hP hD hS hl
      have mF := mo_Vt_run_74 (k + 1) y_1 y_3 y_5 y_6 G S h
      have hm_74 : ∀ (y_1 : Int32) (y_3 : Int32) (y_5 : Int32) (y_6 : Int32) (G : CG) (S : CS) {x : Except Nat Int32} {G1 : CG} {S1 : CS}, f_Vt_run_74 K k y_1 y_3 y_5 y_6 G S = some (x, G1, S1) → CG.le G G1 := fun y_1 y_3 y_5 y_6 G S => mo_Vt_run_74 k y_1 y_3 y_5 y_6 G S
      rw [f_Vt_run_74] at h
      refine lv_iload hx hb d_Vt_run_74 (lv_at hl 4 rfl) ?_
      refine lv_iload_n hx hb d_Vt_run_76 rfl (lv_at hl 2 rfl) ?_
      refine lv_icmp_ge (tgt := 124) hx hb d_Vt_run_77 (by decide) (fun c_9 => ?_) (fun c_9 => ?_)
      · have h := lf_t h c_9
        exact hB_124 y_1 y_5 Y G S _ _ _ h m0 hP hD hS (lv_sub hl [0, 1, 3] rfl)
      · have h := lf_f h c_9
        refine lv_iload hx hb d_Vt_run_80 (lv_at hl 4 rfl) ?_
        refine lv_bipush (v := 16) hx hb d_Vt_run_82 (by decide) ?_
        refine lv_icmp_ge (tgt := 124) hx hb d_Vt_run_84 (by decide) (fun c_10 => ?_) (fun c_10 => ?_)
        · have h := lf_t h c_10
          exact hB_124 y_1 y_5 Y G S _ _ _ h m0 hP hD hS (lv_sub hl [0, 1, 3] rfl)
        · have h := lf_f h c_10
          refine lv_aload_n hx hb d_Vt_run_87 rfl (lv_at hl 0 rfl) ?_
          refine va_get (D := (dC, dI)) (ci := 11) (v := .ref M.o_Dk) (C := R_Vt) (T := F_Vt) (N := 16) hx hb hts (fun w h => u_Vq_Vt w (i_Vt w h)) hown hK hP 0 rfl rfl 0 (by decide) (hts _ (u_Vq_Vt _ k_Vt_29)) (fun _ h9 => h9) rfl d_Vt_run_88 ?_
          refine lv_aload_n hx hb d_Vt_run_91 rfl (lv_at hl 0 rfl) ?_
          refine va_get (D := (dC, dI)) (ci := 11) (v := .ref M.a_Vt_failWrites) (C := R_Vt) (T := F_Vt) (N := 16) hx hb hts (fun w h => u_Vq_Vt w (i_Vt w h)) hown hK hP 0 rfl rfl 10 (by decide) (hts _ (u_Vq_Vt _ k_Vt_39)) (fun _ h9 => h9) rfl d_Vt_run_92 ?_
          refine lv_iload hx hb d_Vt_run_95 (lv_at hl 4 rfl) ?_
          obtain ⟨g_11, h⟩ := lf_gE h
          refine va_iald hx hb hK hP 11 2 rfl rfl g_11 d_Vt_run_97 ?_
          obtain ⟨S_12, hc_12, h⟩ := lf_bE h
          have hFc := lx_free hD hS hA
          refine va_callv (va_runV (As := [.int (S.w_Vt_failWrites y_6.toNatClampNeg)]) (rest := []) ⟨hx, hb, hml, hown, hts⟩ (l_Dk_supply l dC dI X _ hc_12) (cwV 1 hts (gwV good_Vq (u_Vq_Vt _ k_Vt_211) (u_Vq_Dk _ k_Dk_33) (u_Vq_Dk _ k_Dk_34) (u_Vq_Dk _ k_Dk_0) (wcs (u_Vq_Dk _ k_Dk_35) (fun _ h => h))) rfl rfl rfl (by decide +kernel) ⟨Nat.le_of_ble_eq_true rfl, Nat.le_of_ble_eq_true rfl⟩) (pv_ofE (X.same _) (fun U z1 z2 => X.mono _ _ U hFc (hEw _ _ hS U z1 z2)) hP hK hD (va_recv hK hP (ci := 0) (q0 := 1) rfl rfl)) rfl rfl hl.1 rfl (lv_room (Nat.le_of_ble_eq_true rfl)) d_Vt_run_98 ⟨ly_c0 mF.1, ly_c0 mF.2⟩) hS (fun q _ h => hFc q h) hFc (fun u t H locs ht hvm hw hB hz1 hk1 hS => ?_)
          obtain ⟨hP, -, hD⟩ := hB
          rw [ht] at hP
          have hD := lx_dj hD hFc
          refine lv_aload_n hx hb d_Vt_run_101 rfl (lv_at hl 0 rfl) ?_
          refine va_get (D := (dC, dI)) (ci := 11) (v := .ref M.o_Tu) (C := R_Vt) (T := F_Vt) (N := 16) hx hb hts (fun w h => u_Vq_Vt w (i_Vt w h)) hown hK hP 0 rfl rfl 7 (by decide) (hts _ (u_Vq_Vt _ k_Vt_36)) (fun _ h9 => h9) rfl d_Vt_run_102 ?_
          refine lv_aload_n hx hb d_Vt_run_105 rfl (lv_at hl 0 rfl) ?_
          refine va_get (D := (dC, dI)) (ci := 11) (v := .ref M.a_Vt_failAsks) (C := R_Vt) (T := F_Vt) (N := 16) hx hb hts (fun w h => u_Vq_Vt w (i_Vt w h)) hown hK hP 0 rfl rfl 9 (by decide) (hts _ (u_Vq_Vt _ k_Vt_38)) (fun _ h9 => h9) rfl d_Vt_run_106 ?_
          refine lv_iload hx hb d_Vt_run_109 (lv_at hl 4 rfl) ?_
          obtain ⟨g_13, h⟩ := lf_gE h
          refine va_iald hx hb hK hP 10 2 rfl rfl g_13 d_Vt_run_111 ?_
          refine lv_iload hx hb d_Vt_run_112 (lv_at hl 3 rfl) ?_
          obtain ⟨r_14, G_14, S_14, hc_14, h⟩ := lf_nE h
          have mc := mo_Tu_turn hc_14
          have ml_14 := mo_Tu_turn hc_14
          have mF1 := mo_Vt_run_117 hm_74 h
          have hFc := lx_free hD hS hA
          refine va_calli (va_runV (As := [.int (S_12.w_Vt_failAsks y_6.toNatClampNeg), .int y_5]) (rest := []) ⟨hx, hb, hml, hown, hts⟩ (l_Tu_turn l dC dI X _ hc_14) (cwV 2 hts (gwV good_Vq (u_Vq_Vt _ k_Vt_212) (u_Vq_Tu _ k_Tu_24) (u_Vq_Tu _ k_Tu_25) (u_Vq_Tu _ k_Tu_0) (wcs (u_Vq_Tu _ k_Tu_26) (fun _ h => h))) rfl rfl rfl (by decide +kernel) ⟨Nat.le_of_ble_eq_true rfl, Nat.le_of_ble_eq_true rfl⟩) (pv_ofE (X.same _) (fun U z1 z2 => X.mono _ _ U hFc (hEw _ _ hS U z1 z2)) hP hK hD (va_recv hK hP (ci := 10) (q0 := 8) rfl rfl)) rfl rfl hl.1 rfl (lv_room (Nat.le_of_ble_eq_true rfl)) d_Vt_run_114 ⟨ly_c1 m0.1 mc.1 mF1.1, ly_c1 m0.2 mc.2 mF1.2⟩) hS (fun q _ h => hFc q h) hFc (fun r_ Y_14 t H locs ht hvm hw hB hz1 hk1 hS => ?_)
          rw [hw]
          obtain ⟨hP, -, hD⟩ := hB
          rw [ht] at hP
          have hD := lx_dj hD hFc
          refine W.widen (k := G_14.gc - G0.gc) (n := G_14.gs - G0.gs) (ly_c2 m0.1 mc.1) (ly_c2 m0.2 mc.2) ?_
          have m0 := CG.le_tr m0 mc
          exact hB_117 _ hr_74 hm_74 y_1 y_3 y_5 y_6 r_14 Y_14 G_14 S_14 _ _ _ h m0 hP hD hS (lv_sub hl [0, 1, 2, 3, 4] rfl)
  have hB_69 : ∀ (y_1 : Int32) (y_3 : Int32) (z_0 : Int32) (Y : CT) (G : CG) (S : CS) (H : Heap) (locs : List Loc) (ls : Array Slot), f_Vt_run_69 K y_1 y_3 z_0 G S = some (.error 1, G', S') → CG.le G0 G → va_P (dC, dI) classes (wV M Y G S) H → va_D A (wV M Y G S) → va_S A s.heap H locs → lv_has ls 7 [(0, .ref M.o_Vt), (1, .int y_1), (3, .int y_3)] → W p l e ({ frames := 12, cells := G'.gc - G0.gc, slots := G'.gs - G0.gs, locals := 340 }) s m ([.ref M.o_Vt, .int p0, .int p1] : List Value).toArray below meth c H locs (G.gc - G0.gc) (G.gs - G0.gs) Q (F0 m 69 ls [.int z_0]) := by
    intro y_1 y_3 z_0 Y G S H locs ls h m0 hP hD hS hl
    have mF := mo_Vt_run_69 h
    rw [f_Vt_run_69] at h
    refine lv_istore (lv' := [(5, .int z_0), (0, .ref M.o_Vt), (1, .int y_1), (3, .int y_3)]) hx hb d_Vt_run_69 hl (by decide) rfl (fun ls hl => ?_)
    refine lv_iconst (v := 0) hx hb d_Vt_run_71 (by decide) ?_
    refine lv_istore (lv' := [(6, .int 0), (5, .int z_0), (0, .ref M.o_Vt), (1, .int y_1), (3, .int y_3)]) hx hb d_Vt_run_72 hl (by decide) rfl (fun ls hl => ?_)
    exact hB_74 K y_1 y_3 z_0 0 Y G S _ _ _ h m0 hP hD hS (lv_sub hl [2, 3, 4, 1, 0] rfl)
  have hB_52 : ∀ (y_1 : Int32) (y_2 : Int32) (y_3 : Int32) (y_4 : Int32) (Y : CT) (G : CG) (S : CS) (H : Heap) (locs : List Loc) (ls : Array Slot), f_Vt_run_52 K y_1 y_2 y_3 y_4 G S = some (.error 1, G', S') → CG.le G0 G → va_P (dC, dI) classes (wV M Y G S) H → va_D A (wV M Y G S) → va_S A s.heap H locs → lv_has ls 7 [(0, .ref M.o_Vt), (1, .int y_1), (2, .int y_2), (3, .int y_3), (4, .int y_4)] → W p l e ({ frames := 12, cells := G'.gc - G0.gc, slots := G'.gs - G0.gs, locals := 340 }) s m ([.ref M.o_Vt, .int p0, .int p1] : List Value).toArray below meth c H locs (G.gc - G0.gc) (G.gs - G0.gs) Q (F0 m 52 ls []) := by
    intro y_1 y_2 y_3 y_4 Y G S H locs ls h m0 hP hD hS hl
    have mF := mo_Vt_run_52 h
    rw [f_Vt_run_52] at h
    refine lv_iload hx hb d_Vt_run_52 (lv_at hl 4 rfl) ?_
    refine lv_iconst (v := 2) hx hb d_Vt_run_54 (by decide) ?_
    refine lv_icmp_ne (tgt := 68) hx hb d_Vt_run_55 (by decide) (fun c_7 => ?_) (fun c_7 => ?_)
    · have h := lf_f h c_7
      refine lv_iload_n hx hb d_Vt_run_68 rfl (lv_at hl 2 rfl) ?_
      exact hB_69 y_1 y_3 y_2 Y G S _ _ _ h m0 hP hD hS (lv_sub hl [0, 1, 3] rfl)
    · have h := lf_t h c_7
      refine lv_aload_n hx hb d_Vt_run_58 rfl (lv_at hl 0 rfl) ?_
      refine va_get (D := (dC, dI)) (ci := 11) (v := .ref M.o_In) (C := R_Vt) (T := F_Vt) (N := 16) hx hb hts (fun w h => u_Vq_Vt w (i_Vt w h)) hown hK hP 0 rfl rfl 8 (by decide) (hts _ (u_Vq_Vt _ k_Vt_37)) (fun _ h9 => h9) rfl d_Vt_run_59 ?_
      obtain ⟨r_8, S_8, hc_8, h⟩ := lf_cE h
      have hFc := lx_free hD hS hA
      refine va_calli (va_runV (As := []) (rest := []) ⟨hx, hb, hml, hown, hts⟩ (l_In_groupSize l dC dI X _ hc_8) (cwV 0 hts (gwV good_Vq (u_Vq_Vt _ k_Vt_210) (u_Vq_In _ k_In_22) (u_Vq_In _ k_In_23) (u_Vq_In _ k_In_0) (wcs (u_Vq_In _ k_In_24) (fun _ h => h))) rfl rfl rfl (by decide +kernel) ⟨Nat.le_of_ble_eq_true rfl, Nat.le_of_ble_eq_true rfl⟩) (pv_ofE (X.same _) (fun U z1 z2 => X.mono _ _ U hFc (hEw _ _ hS U z1 z2)) hP hK hD (va_recv hK hP (ci := 6) (q0 := 9) rfl rfl)) rfl rfl hl.1 rfl (lv_room (Nat.le_of_ble_eq_true rfl)) d_Vt_run_62 ⟨ly_c0 mF.1, ly_c0 mF.2⟩) hS (fun q _ h => hFc q h) hFc (fun r_ u t H locs ht hvm hw hB hz1 hk1 hS => ?_)
      rw [hw]
      obtain ⟨hP, -, hD⟩ := hB
      rw [ht] at hP
      have hD := lx_dj hD hFc
      refine lv_goto (tgt := 69) hx hb d_Vt_run_65 (by decide) ?_
      exact hB_69 y_1 y_3 r_8 Y G S_8 _ _ _ h m0 hP hD hS (lv_sub hl [0, 1, 3] rfl)
  have hB_14 : ∀ (y_1 : Int32) (y_2 : Int32) (y_3 : Int32) (z_0 : Int32) (Y : CT) (G : CG) (S : CS) (H : Heap) (locs : List Loc) (ls : Array Slot), f_Vt_run_14 K y_1 y_2 y_3 z_0 G S = some (.error 1, G', S') → CG.le G0 G → va_P (dC, dI) classes (wV M Y G S) H → va_D A (wV M Y G S) → va_S A s.heap H locs → lv_has ls 7 [(0, .ref M.o_Vt), (1, .int y_1), (2, .int y_2), (3, .int y_3)] → W p l e ({ frames := 12, cells := G'.gc - G0.gc, slots := G'.gs - G0.gs, locals := 340 }) s m ([.ref M.o_Vt, .int p0, .int p1] : List Value).toArray below meth c H locs (G.gc - G0.gc) (G.gs - G0.gs) Q (F0 m 14 ls [.int z_0]) := by
    intro y_1 y_2 y_3 z_0 Y G S H locs ls h m0 hP hD hS hl
    have mF := mo_Vt_run_14 h
    rw [f_Vt_run_14] at h
    refine lv_istore (lv' := [(4, .int z_0), (0, .ref M.o_Vt), (1, .int y_1), (2, .int y_2), (3, .int y_3)]) hx hb d_Vt_run_14 hl (by decide) rfl (fun ls hl => ?_)
    refine lv_iload hx hb d_Vt_run_16 (lv_at hl 0 rfl) ?_
    refine lv_if_ne (tgt := 32) hx hb d_Vt_run_18 (by decide) (fun c_4 => ?_) (fun c_4 => ?_)
    · have h := lf_f h c_4
      refine lv_iload_n hx hb d_Vt_run_32 rfl (lv_at hl 2 rfl) ?_
      refine lv_if_eq (tgt := 52) hx hb d_Vt_run_33 (by decide) (fun c_5 => ?_) (fun c_5 => ?_)
      · have h := lf_t h c_5
        exact hB_52 y_1 y_2 y_3 z_0 Y G S _ _ _ h m0 hP hD hS (lv_sub hl [1, 2, 3, 4, 0] rfl)
      · have h := lf_f h c_5
        refine lv_iload_n hx hb d_Vt_run_36 rfl (lv_at hl 2 rfl) ?_
        refine lv_iconst (v := 1) hx hb d_Vt_run_37 (by decide) ?_
        refine lv_icmp_eq (tgt := 52) hx hb d_Vt_run_38 (by decide) (fun c_6 => ?_) (fun c_6 => ?_)
        · have h := lf_t h c_6
          exact hB_52 y_1 y_2 y_3 z_0 Y G S _ _ _ h m0 hP hD hS (lv_sub hl [1, 2, 3, 4, 0] rfl)
        · have h := lf_f h c_6
          exact lf_xk h (by decide)
    · have h := lf_t h c_4
      rw [hQ]
      have e2 : G.made 1 6 = G' := congrArg (fun z => z.2.1) (Option.some.inj h)
      have e3 : S = S' := congrArg (fun z => z.2.2) (Option.some.inj h)
      have hP := ly_newP3 e2.symm e3.symm (ly_madeP (c := 1) (n := 6) hP)
      have hD := ly_newD3 e2.symm e3.symm (ly_madeD (c := 1) (n := 6) hD)
      refine W.mono (ly_mqx (fun t z => ⟨Y, z⟩)) ?_
      exact x_thrG (own := R_Vt) (cls := "java/lang/IllegalStateException") (ik := 310) (is := 312) (ic := 314) (k := 3) hx hb (Launch.traces_off hfl (Stand.of_body B).admits) hlocks hown (by decide) (fun T hT => (X.xt_312 _ _ (hEw _ _ hS (xs s T) hT (State.WarmedH.refl s))).1) (hts _ (u_Vq_Vt _ k_Vt_114)) (hts _ (u_Vq_Vt _ k_Vt_115)) (hts _ (u_Vq_Vt _ k_Vt_3)) (X.xt_312 _ _ hE).2 (hl.1.trans hml.symm) d_Vt_run_21 d_Vt_run_24 (Or.inr ⟨d_Vt_run_25, rfl⟩) d_Vt_run_28 d_Vt_run_31 hout (Nat.le_of_ble_eq_true rfl) (Nat.le_of_ble_eq_true rfl) (ly_t1 e2 m0) (Nat.le_refl _) (ly_t2 e2 m0) (Nat.le_refl _) hP hK hD hS
  have m0 : CG.le G0 G0 := ⟨Nat.le_refl _, Nat.le_refl _⟩
  have mF := mo_Vt_run h
  refine W.widen (k := G0.gc - G0.gc) (n := G0.gs - G0.gs) (Nat.zero_le _) (Nat.zero_le _) ?_
  rw [f_Vt_run] at h
  refine lv_aload_n hx hb d_Vt_run_0 rfl (lv_at hl 0 rfl) ?_
  refine va_get (D := (dC, dI)) (ci := 11) (v := .int S.v_Vt_fails) (C := R_Vt) (T := F_Vt) (N := 16) hx hb hts (fun w h => u_Vq_Vt w (i_Vt w h)) hown hK hP 0 rfl rfl 11 (by decide) (hts _ (u_Vq_Vt _ k_Vt_40)) (fun _ h9 => h9) rfl d_Vt_run_1 ?_
  refine lv_topi (fun x_1 ex_1 => ?_)
  have h := lf_lE h ex_1
  refine lv_istore_n (lv' := [(3, .int x_1), (0, .ref M.o_Vt), (1, .int p0), (2, .int p1)]) hx hb d_Vt_run_4 rfl hl (by decide) rfl (fun ls hl => ?_)
  refine lv_aload_n hx hb d_Vt_run_5 rfl (lv_at hl 1 rfl) ?_
  refine lv_iconst (v := 0) hx hb d_Vt_run_6 (by decide) ?_
  refine va_put (D := (dC, dI)) (ci := 11) (v := .int 0) (ty := .int) (C := R_Vt) (T := F_Vt) (N := 16) hx hb hts (fun w h => u_Vq_Vt w (i_Vt w h)) t_Vt t_Vt_ok n_Vt hown hK hP hD hS 0 rfl rfl 11 (by decide) (hts _ (u_Vq_Vt _ k_Vt_40)) (fun _ h9 => h9) rfl (by decide +kernel) rfl rfl (Nat.le_of_ble_eq_true rfl) d_Vt_run_7 (fun H locs hP hD hS => ?_)
  obtain ⟨S_2, eS_2, h⟩ := lf_lX h
  have hP := ly_newP eS_2 hP
  have hD := ly_newD eS_2 hD
  refine lv_aload_n hx hb d_Vt_run_10 rfl (lv_at hl 1 rfl) ?_
  obtain ⟨r_3, G_3, S_3, hc_3, h⟩ := lf_nE h
  have mc := mo_Vt_look hc_3
  have ml_3 := mo_Vt_look hc_3
  have mF1 := mo_Vt_run_14 h
  have hFc := lx_free hD hS hA
  refine va_calli (va_runV (As := []) (rest := []) ⟨hx, hb, hml, hown, hts⟩ (l_Vt_look l dC dI X _ hc_3) (cwV 0 hts (gwV good_Vq (u_Vq_Vt _ k_Vt_68) (u_Vq_Vt _ k_Vt_69) (u_Vq_Vt _ k_Vt_214) (u_Vq_Vt _ k_Vt_0) (wcs (u_Vq_Vt _ k_Vt_70) (fun _ h => h))) rfl rfl rfl (by decide +kernel) ⟨Nat.le_of_ble_eq_true rfl, Nat.le_of_ble_eq_true rfl⟩) (pv_ofE (X.same _) (fun U z1 z2 => X.mono _ _ U hFc (hEw _ _ hS U z1 z2)) hP hK hD (va_recv hK hP (ci := 11) (q0 := 0) rfl rfl)) rfl rfl hl.1 rfl (lv_room (Nat.le_of_ble_eq_true rfl)) d_Vt_run_11 ⟨ly_c1 m0.1 mc.1 mF1.1, ly_c1 m0.2 mc.2 mF1.2⟩) hS (fun q _ h => hFc q h) hFc (fun r_ Y_3 t H locs ht hvm hw hB hz1 hk1 hS => ?_)
  rw [hw]
  obtain ⟨hP, -, hD⟩ := hB
  rw [ht] at hP
  have hD := lx_dj hD hFc
  refine W.widen (k := G_3.gc - G0.gc) (n := G_3.gs - G0.gs) (ly_c2 m0.1 mc.1) (ly_c2 m0.2 mc.2) ?_
  have m0 := CG.le_tr m0 mc
  exact hB_14 p0 p1 x_1 r_3 Y_3 G_3 S_3 _ _ _ h m0 hP hD hS (lv_sub hl [1, 2, 3, 0] rfl)
set_option maxHeartbeats 4000000 in
set_option maxRecDepth 100000 in
theorem l_Vt_stamp (l : Launch) (dC : Nat → ClassId) (dI : Nat → Nat → Nat) {K : Nat} {M : CA} {E : (Nat → Prop) → State → Prop} (X : ly_X l dC dI K M E) (sz : Nat) {Y : CT} {G0 G' : CG} {S S' : CS} {p0 : Int32} {p1 : Int32} {p2 : Int32} {p3 : Int32} (h : f_Vt_stamp K G0 S p0 p1 p2 p3 = some (.ok (), G', S')) : Met l y_Vt_stamp (.code y_Vt_stamp cb_Vt_stamp 7 none :: V_Vq) ({ frames := 8, cells := G'.gc - G0.gc, slots := G'.gs - G0.gs, locals := 224 }) (va_Pc [.ref M.o_Vt, .int p0, .int p1, .int p2, .int p3] (fun U => U.heap.size = sz ∧ at_ (dC, dI) (fun _ => True) (wV M Y G0 S) (tV M) U ∧ E (va_A (wV M Y G0 S) sz) U)) (va_Qv (fun (u : CT) => True) (fun (u : CT) t => at_ (dC, dI) (va_A (wV M Y G0 S) sz) (wV M u G' S') (tV M) t) (va_A (wV M Y G0 S) sz)) (G'.gc - G0.gc) (G'.gs - G0.gs) (va_A (wV M Y G0 S) sz) := by
  refine Met.ofW (cc := cb_Vt_stamp) (maxL := 7) (ret := none) (by decide) rfl ?_
  intro p e s m args below meth c s₁ B hml hv
  obtain ⟨rfl, hsz, ⟨hP, hK, hD0⟩, hE⟩ := hv
  have hx := B.exec
  have hb := B.bytes
  have hr := B.returns
  have hts0 := atoms_spec (ws := .code y_Vt_stamp cb_Vt_stamp 7 none :: V_Vq) B.pre
  have hts : ∀ w ∈ V_Vq, w.before ([.ref M.o_Vt, .int p0, .int p1, .int p2, .int p3] : List Value).toArray s = true := fun w h => hts0 w (List.mem_cons_of_mem _ h)
  have hown : s.vm.findClass R_Vt = some m.cls := findClass_of_methodNamed B.named
  subst hsz
  have hD := hD0.self (sz := s.heap.size)
  generalize hAe : va_A (wV M Y G0 S) s.heap.size = A at hD hE ⊢
  have hA : ∀ q : Nat, s.heap.size ≤ q → A q := fun q h => by rw [← hAe]; exact Or.inr h
  have hS : va_S A s.heap s.heap [] := va_S.rf
  have hP : va_P (dC, dI) classes (wV M Y G0 S) s.heap := hP
  have hK : va_K (dC, dI) classes (tV M) s := hK
  have hEw : ∀ (H : Heap) (locs : List Loc), va_S A s.heap H locs → ∀ U : State, U.heap = H → s.WarmedH U.vm → E A U := fun H locs hS U hU hW => X.kept A s U H locs hE hS hU hW
  have hl := lv_entry ([.ref M.o_Vt, .int p0, .int p1, .int p2, .int p3]) (n := 7) (Nat.le_of_ble_eq_true rfl)
  rw [lg_entry_eq]
  generalize (lg_sl ([.ref M.o_Vt, .int p0, .int p1, .int p2, .int p3]) ++ List.replicate (7 - (lg_sl ([.ref M.o_Vt, .int p0, .int p1, .int p2, .int p3])).length) Slot.unset).toArray = ls at hl ⊢
  have hl : lv_has ls 7 [(0, .ref M.o_Vt), (1, .int p0), (2, .int p1), (3, .int p2), (4, .int p3)] := hl
  refine qabs (fun Q hQ => ?_)
  have hB_13 : ∀ (y_2 : Int32) (y_3 : Int32) (y_4 : Int32) (z_0 : Int32) (Y : CT) (G : CG) (S : CS) (H : Heap) (locs : List Loc) (ls : Array Slot), f_Vt_stamp_13 K y_2 y_3 y_4 z_0 G S = some (.ok (), G', S') → CG.le G0 G → va_P (dC, dI) classes (wV M Y G S) H → va_D A (wV M Y G S) → va_S A s.heap H locs → lv_has ls 7 [(0, .ref M.o_Vt), (2, .int y_2), (3, .int y_3), (4, .int y_4)] → W p l e ({ frames := 8, cells := G'.gc - G0.gc, slots := G'.gs - G0.gs, locals := 224 }) s m ([.ref M.o_Vt, .int p0, .int p1, .int p2, .int p3] : List Value).toArray below meth c H locs (G.gc - G0.gc) (G.gs - G0.gs) Q (F0 m 13 ls [.int z_0]) := by
    intro y_2 y_3 y_4 z_0 Y G S H locs ls h m0 hP hD hS hl
    have mF := mo_Vt_stamp_13 h
    rw [f_Vt_stamp_13] at h
    refine lv_istore (lv' := [(5, .int z_0), (0, .ref M.o_Vt), (2, .int y_2), (3, .int y_3), (4, .int y_4)]) hx hb d_Vt_stamp_13 hl (by decide) rfl (fun ls hl => ?_)
    refine lv_aload_n hx hb d_Vt_stamp_15 rfl (lv_at hl 1 rfl) ?_
    refine va_get (D := (dC, dI)) (ci := 11) (v := .ref M.o_Tr) (C := R_Vt) (T := F_Vt) (N := 16) hx hb hts (fun w h => u_Vq_Vt w (i_Vt w h)) hown hK hP 0 rfl rfl 3 (by decide) (hts _ (u_Vq_Vt _ k_Vt_32)) (fun _ h9 => h9) rfl d_Vt_stamp_16 ?_
    refine lv_iload hx hb d_Vt_stamp_19 (lv_at hl 0 rfl) ?_
    obtain ⟨r_4, S_4, hc_4, h⟩ := lf_cE h
    have hFc := lx_free hD hS hA
    refine va_calli (va_runV (As := [.int z_0]) (rest := []) ⟨hx, hb, hml, hown, hts⟩ (l_Tr_spotOf l dC dI X _ hc_4) (cwV 1 hts (gwV good_Vq (u_Vq_Vt _ k_Vt_145) (u_Vq_Tr _ k_Tr_57) (u_Vq_Tr _ k_Tr_58) (u_Vq_Tr _ k_Tr_0) (wcs (u_Vq_Tr _ k_Tr_59) (fun _ h => h))) rfl rfl rfl (by decide +kernel) ⟨Nat.le_of_ble_eq_true rfl, Nat.le_of_ble_eq_true rfl⟩) (pv_ofE (X.same _) (fun U z1 z2 => X.mono _ _ U hFc (hEw _ _ hS U z1 z2)) hP hK hD (va_recv hK hP (ci := 5) (q0 := 4) rfl rfl)) rfl rfl hl.1 rfl (lv_room (Nat.le_of_ble_eq_true rfl)) d_Vt_stamp_21 ⟨ly_c0 mF.1, ly_c0 mF.2⟩) hS (fun q _ h => hFc q h) hFc (fun r_ u t H locs ht hvm hw hB hz1 hk1 hS => ?_)
    rw [hw]
    obtain ⟨hP, -, hD⟩ := hB
    rw [ht] at hP
    have hD := lx_dj hD hFc
    refine lv_istore (lv' := [(6, .int r_4), (5, .int z_0), (0, .ref M.o_Vt), (2, .int y_2), (3, .int y_3), (4, .int y_4)]) hx hb d_Vt_stamp_24 hl (by decide) rfl (fun ls hl => ?_)
    refine lv_aload_n hx hb d_Vt_stamp_26 rfl (lv_at hl 2 rfl) ?_
    refine va_get (D := (dC, dI)) (ci := 11) (v := .ref M.o_Dk) (C := R_Vt) (T := F_Vt) (N := 16) hx hb hts (fun w h => u_Vq_Vt w (i_Vt w h)) hown hK hP 0 rfl rfl 0 (by decide) (hts _ (u_Vq_Vt _ k_Vt_29)) (fun _ h9 => h9) rfl d_Vt_stamp_27 ?_
    refine lv_iload hx hb d_Vt_stamp_30 (lv_at hl 0 rfl) ?_
    refine lv_iload_n hx hb d_Vt_stamp_32 rfl (lv_at hl 3 rfl) ?_
    refine lv_iload_n hx hb d_Vt_stamp_33 rfl (lv_at hl 4 rfl) ?_
    refine lv_iload hx hb d_Vt_stamp_34 (lv_at hl 5 rfl) ?_
    obtain ⟨r_5, S_5, hc_5, h⟩ := lf_cE h
    have hFc := lx_free hD hS hA
    refine va_calli (va_runS (As := [.ref M.o_Dk, .int r_4, .int y_2, .int y_3, .int y_4]) (rest := []) ⟨hx, hb, hml, hown, hts⟩ (l_Da_wouldFit l dC dI X _ hc_5) (va_cwS 5 hts (gwS good_Vq (u_Vq_Vt _ k_Vt_205) (u_Vq_Da _ k_Da_25) (u_Vq_Da _ k_Da_0) (wcs (u_Vq_Da _ k_Da_26) (fun _ h => h))) rfl rfl rfl (by decide +kernel) ⟨Nat.le_of_ble_eq_true rfl, Nat.le_of_ble_eq_true rfl⟩) (ps_ofE2 (X.same _) (fun U z1 z2 => X.mono _ _ U hFc (hEw _ _ hS U z1 z2)) hP hK hD) rfl rfl hl.1 rfl (lv_room (Nat.le_of_ble_eq_true rfl)) d_Vt_stamp_36 ⟨ly_c0 mF.1, ly_c0 mF.2⟩) hS (fun q _ h => hFc q h) hFc (fun r_ u t H locs ht hvm hw hB hz1 hk1 hS => ?_)
    rw [hw]
    obtain ⟨hP, -, hD⟩ := hB
    rw [ht] at hP
    have hD := lx_dj hD hFc
    refine lv_if_ne (tgt := 53) hx hb d_Vt_stamp_39 (by decide) (fun c_6 => ?_) (fun c_6 => ?_)
    · have h := lf_f h c_6
      refine lv_aload_n hx hb d_Vt_stamp_53 rfl (lv_at hl 2 rfl) ?_
      obtain ⟨S_7, hc_7, h⟩ := lf_bE h
      have hFc := lx_free hD hS hA
      refine va_callv (va_runV (As := []) (rest := []) ⟨hx, hb, hml, hown, hts⟩ (l_Vt_changed l dC dI X _ hc_7) (cwV 0 hts (gwV good_Vq (u_Vq_Vt _ k_Vt_62) (u_Vq_Vt _ k_Vt_63) (u_Vq_Vt _ k_Vt_213) (u_Vq_Vt _ k_Vt_0) (wcs (u_Vq_Vt _ k_Vt_64) (fun _ h => h))) rfl rfl rfl (by decide +kernel) ⟨Nat.le_of_ble_eq_true rfl, Nat.le_of_ble_eq_true rfl⟩) (pv_ofE (X.same _) (fun U z1 z2 => X.mono _ _ U hFc (hEw _ _ hS U z1 z2)) hP hK hD (va_recv hK hP (ci := 11) (q0 := 0) rfl rfl)) rfl rfl hl.1 rfl (lv_room (Nat.le_of_ble_eq_true rfl)) d_Vt_stamp_54 ⟨ly_c0 mF.1, ly_c0 mF.2⟩) hS (fun q _ h => hFc q h) hFc (fun u t H locs ht hvm hw hB hz1 hk1 hS => ?_)
      obtain ⟨hP, -, hD⟩ := hB
      rw [ht] at hP
      have hD := lx_dj hD hFc
      refine lv_aload_n hx hb d_Vt_stamp_57 rfl (lv_at hl 2 rfl) ?_
      refine va_get (D := (dC, dI)) (ci := 11) (v := .ref M.o_Ed) (C := R_Vt) (T := F_Vt) (N := 16) hx hb hts (fun w h => u_Vq_Vt w (i_Vt w h)) hown hK hP 0 rfl rfl 5 (by decide) (hts _ (u_Vq_Vt _ k_Vt_34)) (fun _ h9 => h9) rfl d_Vt_stamp_58 ?_
      refine lv_iload hx hb d_Vt_stamp_61 (lv_at hl 0 rfl) ?_
      refine lv_iload_n hx hb d_Vt_stamp_63 rfl (lv_at hl 3 rfl) ?_
      refine lv_iload_n hx hb d_Vt_stamp_64 rfl (lv_at hl 4 rfl) ?_
      refine lv_iload hx hb d_Vt_stamp_65 (lv_at hl 5 rfl) ?_
      obtain ⟨S_8, hc_8, h⟩ := lf_bE h
      have hFc := lx_free hD hS hA
      refine va_callv (va_runV (As := [.int r_4, .int y_2, .int y_3, .int y_4]) (rest := []) ⟨hx, hb, hml, hown, hts⟩ (l_Ed_putStamp l dC dI X _ hc_8) (cwV 4 hts (gwV good_Vq (u_Vq_Vt _ k_Vt_206) (u_Vq_Ed _ k_Ed_127) (u_Vq_Ed _ k_Ed_128) (u_Vq_Ed _ k_Ed_0) (wcs (u_Vq_Ed _ k_Ed_129) (fun _ h => h))) rfl rfl rfl (by decide +kernel) ⟨Nat.le_of_ble_eq_true rfl, Nat.le_of_ble_eq_true rfl⟩) (pv_ofE (X.same _) (fun U z1 z2 => X.mono _ _ U hFc (hEw _ _ hS U z1 z2)) hP hK hD (va_recv hK hP (ci := 8) (q0 := 6) rfl rfl)) rfl rfl hl.1 rfl (lv_room (Nat.le_of_ble_eq_true rfl)) d_Vt_stamp_67 ⟨ly_c0 mF.1, ly_c0 mF.2⟩) hS (fun q _ h => hFc q h) hFc (fun u t H locs ht hvm hw hB hz1 hk1 hS => ?_)
      obtain ⟨hP, -, hD⟩ := hB
      rw [ht] at hP
      have hD := lx_dj hD hFc
      rw [hQ]
      have e2 : G = G' := congrArg (fun z => z.2.1) (Option.some.inj h)
      have e3 : S_8 = S' := congrArg (fun z => z.2.2) (Option.some.inj h)
      have hP := ly_newP3 e2.symm e3.symm hP
      have hD := ly_newD3 e2.symm e3.symm hD
      refine W.widen (k := G'.gc - G0.gc) (n := G'.gs - G0.gs) (ly_wc e2) (ly_ws e2) ?_
      exact W.vret hx hb hr (fun t ht hW => ⟨⟨Y, rfl, trivial, by rw [ht]; exact hP, va_K.moved hW.alike hK, hD⟩, hS.F ht⟩) hS.2.2 d_Vt_stamp_70
    · have h := lf_t h c_6
      exact lf_xe h
  have hB_8 : ∀ (y_1 : Int32) (y_2 : Int32) (y_3 : Int32) (y_4 : Int32) (Y : CT) (G : CG) (S : CS) (H : Heap) (locs : List Loc) (ls : Array Slot), f_Vt_stamp_8 K y_1 y_2 y_3 y_4 G S = some (.ok (), G', S') → CG.le G0 G → va_P (dC, dI) classes (wV M Y G S) H → va_D A (wV M Y G S) → va_S A s.heap H locs → lv_has ls 7 [(0, .ref M.o_Vt), (1, .int y_1), (2, .int y_2), (3, .int y_3), (4, .int y_4)] → W p l e ({ frames := 8, cells := G'.gc - G0.gc, slots := G'.gs - G0.gs, locals := 224 }) s m ([.ref M.o_Vt, .int p0, .int p1, .int p2, .int p3] : List Value).toArray below meth c H locs (G.gc - G0.gc) (G.gs - G0.gs) Q (F0 m 8 ls []) := by
    intro y_1 y_2 y_3 y_4 Y G S H locs ls h m0 hP hD hS hl
    have mF := mo_Vt_stamp_8 h
    rw [f_Vt_stamp_8] at h
    refine lv_aload_n hx hb d_Vt_stamp_8 rfl (lv_at hl 0 rfl) ?_
    refine lv_iload_n hx hb d_Vt_stamp_9 rfl (lv_at hl 1 rfl) ?_
    obtain ⟨r_3, G_3, S_3, hc_3, h⟩ := lf_aO h
    have mc := mo_Vt_itemHere hc_3
    have ml_3 := mo_Vt_itemHere hc_3
    have mF1 := mo_Vt_stamp_13 h
    have hFc := lx_free hD hS hA
    refine va_calli (va_runV (As := [.int y_1]) (rest := []) ⟨hx, hb, hml, hown, hts⟩ (l_Vt_itemHere l dC dI X _ hc_3) (cwV 1 hts (gwV good_Vq (u_Vq_Vt _ k_Vt_130) (u_Vq_Vt _ k_Vt_131) (u_Vq_Vt _ k_Vt_217) (u_Vq_Vt _ k_Vt_0) (wcs (u_Vq_Vt _ k_Vt_132) (fun _ h => h))) rfl rfl rfl (by decide +kernel) ⟨Nat.le_of_ble_eq_true rfl, Nat.le_of_ble_eq_true rfl⟩) (pv_ofE (X.same _) (fun U z1 z2 => X.mono _ _ U hFc (hEw _ _ hS U z1 z2)) hP hK hD (va_recv hK hP (ci := 11) (q0 := 0) rfl rfl)) rfl rfl hl.1 rfl (lv_room (Nat.le_of_ble_eq_true rfl)) d_Vt_stamp_10 ⟨ly_c1 m0.1 mc.1 mF1.1, ly_c1 m0.2 mc.2 mF1.2⟩) hS (fun q _ h => hFc q h) hFc (fun r_ Y_3 t H locs ht hvm hw hB hz1 hk1 hS => ?_)
    rw [hw]
    obtain ⟨hP, -, hD⟩ := hB
    rw [ht] at hP
    have hD := lx_dj hD hFc
    refine W.widen (k := G_3.gc - G0.gc) (n := G_3.gs - G0.gs) (ly_c2 m0.1 mc.1) (ly_c2 m0.2 mc.2) ?_
    have m0 := CG.le_tr m0 mc
    exact hB_13 y_2 y_3 y_4 r_3 Y_3 G_3 S_3 _ _ _ h m0 hP hD hS (lv_sub hl [0, 2, 3, 4] rfl)
  have hB_5 : ∀ (y_1 : Int32) (y_2 : Int32) (y_3 : Int32) (y_4 : Int32) (z_1 : Int32) (Y : CT) (G : CG) (S : CS) (H : Heap) (locs : List Loc) (ls : Array Slot), f_Vt_stamp_5 K y_1 y_2 y_3 y_4 z_1 G S = some (.ok (), G', S') → CG.le G0 G → va_P (dC, dI) classes (wV M Y G S) H → va_D A (wV M Y G S) → va_S A s.heap H locs → lv_has ls 7 [(0, .ref M.o_Vt), (1, .int y_1), (2, .int y_2), (3, .int y_3), (4, .int y_4)] → W p l e ({ frames := 8, cells := G'.gc - G0.gc, slots := G'.gs - G0.gs, locals := 224 }) s m ([.ref M.o_Vt, .int p0, .int p1, .int p2, .int p3] : List Value).toArray below meth c H locs (G.gc - G0.gc) (G.gs - G0.gs) Q (F0 m 5 ls [.int z_1, .ref M.o_Vt]) := by
    intro y_1 y_2 y_3 y_4 z_1 Y G S H locs ls h m0 hP hD hS hl
    have mF := mo_Vt_stamp_5 h
    rw [f_Vt_stamp_5] at h
    obtain ⟨r_2, G_2, S_2, hc_2, h⟩ := lf_aO h
    have mc := mo_Vt_wantSoundTable hc_2
    have ml_2 := mo_Vt_wantSoundTable hc_2
    have mF1 := mo_Vt_stamp_8 h
    have hFc := lx_free hD hS hA
    refine va_callv (va_runV (As := [.int z_1]) (rest := []) ⟨hx, hb, hml, hown, hts⟩ (l_Vt_wantSoundTable l dC dI X _ hc_2) (cwV 1 hts (gwV good_Vq (u_Vq_Vt _ k_Vt_166) (u_Vq_Vt _ k_Vt_167) (u_Vq_Vt _ k_Vt_216) (u_Vq_Vt _ k_Vt_0) (wcs (u_Vq_Vt _ k_Vt_168) (fun _ h => h))) rfl rfl rfl (by decide +kernel) ⟨Nat.le_of_ble_eq_true rfl, Nat.le_of_ble_eq_true rfl⟩) (pv_ofE (X.same _) (fun U z1 z2 => X.mono _ _ U hFc (hEw _ _ hS U z1 z2)) hP hK hD (va_recv hK hP (ci := 11) (q0 := 0) rfl rfl)) rfl rfl hl.1 rfl (lv_room (Nat.le_of_ble_eq_true rfl)) d_Vt_stamp_5 ⟨ly_c1 m0.1 mc.1 mF1.1, ly_c1 m0.2 mc.2 mF1.2⟩) hS (fun q _ h => hFc q h) hFc (fun Y_2 t H locs ht hvm hw hB hz1 hk1 hS => ?_)
    obtain ⟨hP, -, hD⟩ := hB
    rw [ht] at hP
    have hD := lx_dj hD hFc
    refine W.widen (k := G_2.gc - G0.gc) (n := G_2.gs - G0.gs) (ly_c2 m0.1 mc.1) (ly_c2 m0.2 mc.2) ?_
    have m0 := CG.le_tr m0 mc
    exact hB_8 y_1 y_2 y_3 y_4 Y_2 G_2 S_2 _ _ _ h m0 hP hD hS (lv_sub hl [0, 1, 2, 3, 4] rfl)
  have m0 : CG.le G0 G0 := ⟨Nat.le_refl _, Nat.le_refl _⟩
  have mF := mo_Vt_stamp h
  refine W.widen (k := G0.gc - G0.gc) (n := G0.gs - G0.gs) (Nat.zero_le _) (Nat.zero_le _) ?_
  rw [f_Vt_stamp] at h
  refine lv_aload_n hx hb d_Vt_stamp_0 rfl (lv_at hl 0 rfl) ?_
  refine lv_aload_n hx hb d_Vt_stamp_1 rfl (lv_at hl 0 rfl) ?_
  obtain ⟨r_1, G_1, S_1, hc_1, h⟩ := lf_nE h
  have mc := mo_Vt_look hc_1
  have ml_1 := mo_Vt_look hc_1
  have mF1 := mo_Vt_stamp_5 h
  have hFc := lx_free hD hS hA
  refine va_calli (va_runV (As := []) (rest := [.ref M.o_Vt]) ⟨hx, hb, hml, hown, hts⟩ (l_Vt_look l dC dI X _ hc_1) (cwV 0 hts (gwV good_Vq (u_Vq_Vt _ k_Vt_68) (u_Vq_Vt _ k_Vt_69) (u_Vq_Vt _ k_Vt_214) (u_Vq_Vt _ k_Vt_0) (wcs (u_Vq_Vt _ k_Vt_70) (fun _ h => h))) rfl rfl rfl (by decide +kernel) ⟨Nat.le_of_ble_eq_true rfl, Nat.le_of_ble_eq_true rfl⟩) (pv_ofE (X.same _) (fun U z1 z2 => X.mono _ _ U hFc (hEw _ _ hS U z1 z2)) hP hK hD (va_recv hK hP (ci := 11) (q0 := 0) rfl rfl)) rfl rfl hl.1 rfl (lv_room (Nat.le_of_ble_eq_true rfl)) d_Vt_stamp_2 ⟨ly_c1 m0.1 mc.1 mF1.1, ly_c1 m0.2 mc.2 mF1.2⟩) hS (fun q _ h => hFc q h) hFc (fun r_ Y_1 t H locs ht hvm hw hB hz1 hk1 hS => ?_)
  rw [hw]
  obtain ⟨hP, -, hD⟩ := hB
  rw [ht] at hP
  have hD := lx_dj hD hFc
  refine W.widen (k := G_1.gc - G0.gc) (n := G_1.gs - G0.gs) (ly_c2 m0.1 mc.1) (ly_c2 m0.2 mc.2) ?_
  have m0 := CG.le_tr m0 mc
  exact hB_5 p0 p1 p2 p3 r_1 Y_1 G_1 S_1 _ _ _ h m0 hP hD hS (lv_sub hl [0, 1, 2, 3, 4] rfl)
set_option maxHeartbeats 4000000 in
set_option maxRecDepth 100000 in
theorem lt_Vt_stamp_0 (l : Launch) (hfl : l.flags = pinnedFlags ++ [noTraceFlag]) (dC : Nat → ClassId) (dI : Nat → Nat → Nat) {K : Nat} {M : CA} {E : (Nat → Prop) → State → Prop} (X : ly_X l dC dI K M E) (sz : Nat) {Y : CT} {G0 G' : CG} {S S' : CS} {p0 : Int32} {p1 : Int32} {p2 : Int32} {p3 : Int32} (h : f_Vt_stamp K G0 S p0 p1 p2 p3 = some (.error 0, G', S')) : MetX l y_Vt_stamp (.code y_Vt_stamp cb_Vt_stamp 7 none :: V_Vq) ({ frames := 8, cells := G'.gc - G0.gc, slots := G'.gs - G0.gs, locals := 224 }) (va_Pc [.ref M.o_Vt, .int p0, .int p1, .int p2, .int p3] (fun U => U.heap.size = sz ∧ at_ (dC, dI) (fun _ => True) (wV M Y G0 S) (tV M) U ∧ E (va_A (wV M Y G0 S) sz) U)) (fun _ _ _ _ => False) (x_Q "java/lang/IllegalArgumentException" (va_A (wV M Y G0 S) sz) (fun t => ∃ u : CT, at_ (dC, dI) (va_A (wV M Y G0 S) sz) (wV M u G' S') (tV M) t)) (G'.gc - G0.gc) (G'.gs - G0.gs) (va_A (wV M Y G0 S) sz) := by
  refine MetX.ofW (cc := cb_Vt_stamp) (maxL := 7) (ret := none) (by decide) rfl ?_
  intro p e s m args below meth c s₁ B hml hv
  obtain ⟨rfl, hsz, ⟨hP, hK, hD0⟩, hE⟩ := hv
  have hx := B.exec
  have hb := B.bytes
  have hr := B.returns
  have hts0 := atoms_spec (ws := .code y_Vt_stamp cb_Vt_stamp 7 none :: V_Vq) B.pre
  have hts : ∀ w ∈ V_Vq, w.before ([.ref M.o_Vt, .int p0, .int p1, .int p2, .int p3] : List Value).toArray s = true := fun w h => hts0 w (List.mem_cons_of_mem _ h)
  have hown : s.vm.findClass R_Vt = some m.cls := findClass_of_methodNamed B.named
  have hlocks := B.notSynchronized
  have hout := x_table B (hts0 _ List.mem_cons_self)
  subst hsz
  have hD := hD0.self (sz := s.heap.size)
  generalize hAe : va_A (wV M Y G0 S) s.heap.size = A at hD hE ⊢
  have hA : ∀ q : Nat, s.heap.size ≤ q → A q := fun q h => by rw [← hAe]; exact Or.inr h
  have hS : va_S A s.heap s.heap [] := va_S.rf
  have hP : va_P (dC, dI) classes (wV M Y G0 S) s.heap := hP
  have hK : va_K (dC, dI) classes (tV M) s := hK
  have hEw : ∀ (H : Heap) (locs : List Loc), va_S A s.heap H locs → ∀ U : State, U.heap = H → s.WarmedH U.vm → E A U := fun H locs hS U hU hW => X.kept A s U H locs hE hS hU hW
  have hl := lv_entry ([.ref M.o_Vt, .int p0, .int p1, .int p2, .int p3]) (n := 7) (Nat.le_of_ble_eq_true rfl)
  rw [lg_entry_eq]
  generalize (lg_sl ([.ref M.o_Vt, .int p0, .int p1, .int p2, .int p3]) ++ List.replicate (7 - (lg_sl ([.ref M.o_Vt, .int p0, .int p1, .int p2, .int p3])).length) Slot.unset).toArray = ls at hl ⊢
  have hl : lv_has ls 7 [(0, .ref M.o_Vt), (1, .int p0), (2, .int p1), (3, .int p2), (4, .int p3)] := hl
  refine qabs (fun Q hQ => ?_)
  have hB_13 : ∀ (y_2 : Int32) (y_3 : Int32) (y_4 : Int32) (z_0 : Int32) (Y : CT) (G : CG) (S : CS) (H : Heap) (locs : List Loc) (ls : Array Slot), f_Vt_stamp_13 K y_2 y_3 y_4 z_0 G S = some (.error 0, G', S') → CG.le G0 G → va_P (dC, dI) classes (wV M Y G S) H → va_D A (wV M Y G S) → va_S A s.heap H locs → lv_has ls 7 [(0, .ref M.o_Vt), (2, .int y_2), (3, .int y_3), (4, .int y_4)] → W p l e ({ frames := 8, cells := G'.gc - G0.gc, slots := G'.gs - G0.gs, locals := 224 }) s m ([.ref M.o_Vt, .int p0, .int p1, .int p2, .int p3] : List Value).toArray below meth c H locs (G.gc - G0.gc) (G.gs - G0.gs) Q (F0 m 13 ls [.int z_0]) := by
    intro y_2 y_3 y_4 z_0 Y G S H locs ls h m0 hP hD hS hl
    have mF := mo_Vt_stamp_13 h
    rw [f_Vt_stamp_13] at h
    refine lv_istore (lv' := [(5, .int z_0), (0, .ref M.o_Vt), (2, .int y_2), (3, .int y_3), (4, .int y_4)]) hx hb d_Vt_stamp_13 hl (by decide) rfl (fun ls hl => ?_)
    refine lv_aload_n hx hb d_Vt_stamp_15 rfl (lv_at hl 1 rfl) ?_
    refine va_get (D := (dC, dI)) (ci := 11) (v := .ref M.o_Tr) (C := R_Vt) (T := F_Vt) (N := 16) hx hb hts (fun w h => u_Vq_Vt w (i_Vt w h)) hown hK hP 0 rfl rfl 3 (by decide) (hts _ (u_Vq_Vt _ k_Vt_32)) (fun _ h9 => h9) rfl d_Vt_stamp_16 ?_
    refine lv_iload hx hb d_Vt_stamp_19 (lv_at hl 0 rfl) ?_
    obtain ⟨r_4, S_4, hc_4, h⟩ := lf_cE h
    have hFc := lx_free hD hS hA
    refine va_calli (va_runV (As := [.int z_0]) (rest := []) ⟨hx, hb, hml, hown, hts⟩ (l_Tr_spotOf l dC dI X _ hc_4) (cwV 1 hts (gwV good_Vq (u_Vq_Vt _ k_Vt_145) (u_Vq_Tr _ k_Tr_57) (u_Vq_Tr _ k_Tr_58) (u_Vq_Tr _ k_Tr_0) (wcs (u_Vq_Tr _ k_Tr_59) (fun _ h => h))) rfl rfl rfl (by decide +kernel) ⟨Nat.le_of_ble_eq_true rfl, Nat.le_of_ble_eq_true rfl⟩) (pv_ofE (X.same _) (fun U z1 z2 => X.mono _ _ U hFc (hEw _ _ hS U z1 z2)) hP hK hD (va_recv hK hP (ci := 5) (q0 := 4) rfl rfl)) rfl rfl hl.1 rfl (lv_room (Nat.le_of_ble_eq_true rfl)) d_Vt_stamp_21 ⟨ly_c0 mF.1, ly_c0 mF.2⟩) hS (fun q _ h => hFc q h) hFc (fun r_ u t H locs ht hvm hw hB hz1 hk1 hS => ?_)
    rw [hw]
    obtain ⟨hP, -, hD⟩ := hB
    rw [ht] at hP
    have hD := lx_dj hD hFc
    refine lv_istore (lv' := [(6, .int r_4), (5, .int z_0), (0, .ref M.o_Vt), (2, .int y_2), (3, .int y_3), (4, .int y_4)]) hx hb d_Vt_stamp_24 hl (by decide) rfl (fun ls hl => ?_)
    refine lv_aload_n hx hb d_Vt_stamp_26 rfl (lv_at hl 2 rfl) ?_
    refine va_get (D := (dC, dI)) (ci := 11) (v := .ref M.o_Dk) (C := R_Vt) (T := F_Vt) (N := 16) hx hb hts (fun w h => u_Vq_Vt w (i_Vt w h)) hown hK hP 0 rfl rfl 0 (by decide) (hts _ (u_Vq_Vt _ k_Vt_29)) (fun _ h9 => h9) rfl d_Vt_stamp_27 ?_
    refine lv_iload hx hb d_Vt_stamp_30 (lv_at hl 0 rfl) ?_
    refine lv_iload_n hx hb d_Vt_stamp_32 rfl (lv_at hl 3 rfl) ?_
    refine lv_iload_n hx hb d_Vt_stamp_33 rfl (lv_at hl 4 rfl) ?_
    refine lv_iload hx hb d_Vt_stamp_34 (lv_at hl 5 rfl) ?_
    obtain ⟨r_5, S_5, hc_5, h⟩ := lf_cE h
    have hFc := lx_free hD hS hA
    refine va_calli (va_runS (As := [.ref M.o_Dk, .int r_4, .int y_2, .int y_3, .int y_4]) (rest := []) ⟨hx, hb, hml, hown, hts⟩ (l_Da_wouldFit l dC dI X _ hc_5) (va_cwS 5 hts (gwS good_Vq (u_Vq_Vt _ k_Vt_205) (u_Vq_Da _ k_Da_25) (u_Vq_Da _ k_Da_0) (wcs (u_Vq_Da _ k_Da_26) (fun _ h => h))) rfl rfl rfl (by decide +kernel) ⟨Nat.le_of_ble_eq_true rfl, Nat.le_of_ble_eq_true rfl⟩) (ps_ofE2 (X.same _) (fun U z1 z2 => X.mono _ _ U hFc (hEw _ _ hS U z1 z2)) hP hK hD) rfl rfl hl.1 rfl (lv_room (Nat.le_of_ble_eq_true rfl)) d_Vt_stamp_36 ⟨ly_c0 mF.1, ly_c0 mF.2⟩) hS (fun q _ h => hFc q h) hFc (fun r_ u t H locs ht hvm hw hB hz1 hk1 hS => ?_)
    rw [hw]
    obtain ⟨hP, -, hD⟩ := hB
    rw [ht] at hP
    have hD := lx_dj hD hFc
    refine lv_if_ne (tgt := 53) hx hb d_Vt_stamp_39 (by decide) (fun c_6 => ?_) (fun c_6 => ?_)
    · have h := lf_f h c_6
      refine lv_aload_n hx hb d_Vt_stamp_53 rfl (lv_at hl 2 rfl) ?_
      obtain ⟨S_7, hc_7, h⟩ := lf_bE h
      have hFc := lx_free hD hS hA
      refine va_callv (va_runV (As := []) (rest := []) ⟨hx, hb, hml, hown, hts⟩ (l_Vt_changed l dC dI X _ hc_7) (cwV 0 hts (gwV good_Vq (u_Vq_Vt _ k_Vt_62) (u_Vq_Vt _ k_Vt_63) (u_Vq_Vt _ k_Vt_213) (u_Vq_Vt _ k_Vt_0) (wcs (u_Vq_Vt _ k_Vt_64) (fun _ h => h))) rfl rfl rfl (by decide +kernel) ⟨Nat.le_of_ble_eq_true rfl, Nat.le_of_ble_eq_true rfl⟩) (pv_ofE (X.same _) (fun U z1 z2 => X.mono _ _ U hFc (hEw _ _ hS U z1 z2)) hP hK hD (va_recv hK hP (ci := 11) (q0 := 0) rfl rfl)) rfl rfl hl.1 rfl (lv_room (Nat.le_of_ble_eq_true rfl)) d_Vt_stamp_54 ⟨ly_c0 mF.1, ly_c0 mF.2⟩) hS (fun q _ h => hFc q h) hFc (fun u t H locs ht hvm hw hB hz1 hk1 hS => ?_)
      obtain ⟨hP, -, hD⟩ := hB
      rw [ht] at hP
      have hD := lx_dj hD hFc
      refine lv_aload_n hx hb d_Vt_stamp_57 rfl (lv_at hl 2 rfl) ?_
      refine va_get (D := (dC, dI)) (ci := 11) (v := .ref M.o_Ed) (C := R_Vt) (T := F_Vt) (N := 16) hx hb hts (fun w h => u_Vq_Vt w (i_Vt w h)) hown hK hP 0 rfl rfl 5 (by decide) (hts _ (u_Vq_Vt _ k_Vt_34)) (fun _ h9 => h9) rfl d_Vt_stamp_58 ?_
      refine lv_iload hx hb d_Vt_stamp_61 (lv_at hl 0 rfl) ?_
      refine lv_iload_n hx hb d_Vt_stamp_63 rfl (lv_at hl 3 rfl) ?_
      refine lv_iload_n hx hb d_Vt_stamp_64 rfl (lv_at hl 4 rfl) ?_
      refine lv_iload hx hb d_Vt_stamp_65 (lv_at hl 5 rfl) ?_
      obtain ⟨S_8, hc_8, h⟩ := lf_bE h
      have hFc := lx_free hD hS hA
      refine va_callv (va_runV (As := [.int r_4, .int y_2, .int y_3, .int y_4]) (rest := []) ⟨hx, hb, hml, hown, hts⟩ (l_Ed_putStamp l dC dI X _ hc_8) (cwV 4 hts (gwV good_Vq (u_Vq_Vt _ k_Vt_206) (u_Vq_Ed _ k_Ed_127) (u_Vq_Ed _ k_Ed_128) (u_Vq_Ed _ k_Ed_0) (wcs (u_Vq_Ed _ k_Ed_129) (fun _ h => h))) rfl rfl rfl (by decide +kernel) ⟨Nat.le_of_ble_eq_true rfl, Nat.le_of_ble_eq_true rfl⟩) (pv_ofE (X.same _) (fun U z1 z2 => X.mono _ _ U hFc (hEw _ _ hS U z1 z2)) hP hK hD (va_recv hK hP (ci := 8) (q0 := 6) rfl rfl)) rfl rfl hl.1 rfl (lv_room (Nat.le_of_ble_eq_true rfl)) d_Vt_stamp_67 ⟨ly_c0 mF.1, ly_c0 mF.2⟩) hS (fun q _ h => hFc q h) hFc (fun u t H locs ht hvm hw hB hz1 hk1 hS => ?_)
      obtain ⟨hP, -, hD⟩ := hB
      rw [ht] at hP
      have hD := lx_dj hD hFc
      exact lf_xo h
    · have h := lf_t h c_6
      rw [hQ]
      have e2 : G.made 1 6 = G' := congrArg (fun z => z.2.1) (Option.some.inj h)
      have e3 : S_5 = S' := congrArg (fun z => z.2.2) (Option.some.inj h)
      have hP := ly_newP3 e2.symm e3.symm (ly_madeP (c := 1) (n := 6) hP)
      have hD := ly_newD3 e2.symm e3.symm (ly_madeD (c := 1) (n := 6) hD)
      refine W.mono (ly_mqx (fun t z => ⟨Y, z⟩)) ?_
      exact x_thrG (own := R_Vt) (cls := "java/lang/IllegalArgumentException") (ik := 133) (is := 292) (ic := 137) (k := 3) hx hb (Launch.traces_off hfl (Stand.of_body B).admits) hlocks hown (by decide) (fun T hT => (X.xt_292 _ _ (hEw _ _ hS (xs s T) hT (State.WarmedH.refl s))).1) (hts _ (u_Vq_Vt _ k_Vt_100)) (hts _ (u_Vq_Vt _ k_Vt_101)) (hts _ (u_Vq_Vt _ k_Vt_1)) (X.xt_292 _ _ hE).2 (hl.1.trans hml.symm) d_Vt_stamp_42 d_Vt_stamp_45 (Or.inr ⟨d_Vt_stamp_46, rfl⟩) d_Vt_stamp_49 d_Vt_stamp_52 hout (Nat.le_of_ble_eq_true rfl) (Nat.le_of_ble_eq_true rfl) (ly_t1 e2 m0) (Nat.le_refl _) (ly_t2 e2 m0) (Nat.le_refl _) hP hK hD hS
  have hB_8 : ∀ (y_1 : Int32) (y_2 : Int32) (y_3 : Int32) (y_4 : Int32) (Y : CT) (G : CG) (S : CS) (H : Heap) (locs : List Loc) (ls : Array Slot), f_Vt_stamp_8 K y_1 y_2 y_3 y_4 G S = some (.error 0, G', S') → CG.le G0 G → va_P (dC, dI) classes (wV M Y G S) H → va_D A (wV M Y G S) → va_S A s.heap H locs → lv_has ls 7 [(0, .ref M.o_Vt), (1, .int y_1), (2, .int y_2), (3, .int y_3), (4, .int y_4)] → W p l e ({ frames := 8, cells := G'.gc - G0.gc, slots := G'.gs - G0.gs, locals := 224 }) s m ([.ref M.o_Vt, .int p0, .int p1, .int p2, .int p3] : List Value).toArray below meth c H locs (G.gc - G0.gc) (G.gs - G0.gs) Q (F0 m 8 ls []) := by
    intro y_1 y_2 y_3 y_4 Y G S H locs ls h m0 hP hD hS hl
    have mF := mo_Vt_stamp_8 h
    rw [f_Vt_stamp_8] at h
    refine lv_aload_n hx hb d_Vt_stamp_8 rfl (lv_at hl 0 rfl) ?_
    refine lv_iload_n hx hb d_Vt_stamp_9 rfl (lv_at hl 1 rfl) ?_
    rcases lf_aT h with ⟨r_3, G_3, S_3, hc_3, h⟩ | h9
    · have mc := mo_Vt_itemHere hc_3
      have ml_3 := mo_Vt_itemHere hc_3
      have mF1 := mo_Vt_stamp_13 h
      have hFc := lx_free hD hS hA
      refine va_calli (va_runV (As := [.int y_1]) (rest := []) ⟨hx, hb, hml, hown, hts⟩ (l_Vt_itemHere l dC dI X _ hc_3) (cwV 1 hts (gwV good_Vq (u_Vq_Vt _ k_Vt_130) (u_Vq_Vt _ k_Vt_131) (u_Vq_Vt _ k_Vt_217) (u_Vq_Vt _ k_Vt_0) (wcs (u_Vq_Vt _ k_Vt_132) (fun _ h => h))) rfl rfl rfl (by decide +kernel) ⟨Nat.le_of_ble_eq_true rfl, Nat.le_of_ble_eq_true rfl⟩) (pv_ofE (X.same _) (fun U z1 z2 => X.mono _ _ U hFc (hEw _ _ hS U z1 z2)) hP hK hD (va_recv hK hP (ci := 11) (q0 := 0) rfl rfl)) rfl rfl hl.1 rfl (lv_room (Nat.le_of_ble_eq_true rfl)) d_Vt_stamp_10 ⟨ly_c1 m0.1 mc.1 mF1.1, ly_c1 m0.2 mc.2 mF1.2⟩) hS (fun q _ h => hFc q h) hFc (fun r_ Y_3 t H locs ht hvm hw hB hz1 hk1 hS => ?_)
      rw [hw]
      obtain ⟨hP, -, hD⟩ := hB
      rw [ht] at hP
      have hD := lx_dj hD hFc
      refine W.widen (k := G_3.gc - G0.gc) (n := G_3.gs - G0.gs) (ly_c2 m0.1 mc.1) (ly_c2 m0.2 mc.2) ?_
      have m0 := CG.le_tr m0 mc
      exact hB_13 y_2 y_3 y_4 r_3 Y_3 G_3 S_3 _ _ _ h m0 hP hD hS (lv_sub hl [0, 2, 3, 4] rfl)
    · exact absurd (th_Vt_itemHere h9) (by decide)
  have hB_5 : ∀ (y_1 : Int32) (y_2 : Int32) (y_3 : Int32) (y_4 : Int32) (z_1 : Int32) (Y : CT) (G : CG) (S : CS) (H : Heap) (locs : List Loc) (ls : Array Slot), f_Vt_stamp_5 K y_1 y_2 y_3 y_4 z_1 G S = some (.error 0, G', S') → CG.le G0 G → va_P (dC, dI) classes (wV M Y G S) H → va_D A (wV M Y G S) → va_S A s.heap H locs → lv_has ls 7 [(0, .ref M.o_Vt), (1, .int y_1), (2, .int y_2), (3, .int y_3), (4, .int y_4)] → W p l e ({ frames := 8, cells := G'.gc - G0.gc, slots := G'.gs - G0.gs, locals := 224 }) s m ([.ref M.o_Vt, .int p0, .int p1, .int p2, .int p3] : List Value).toArray below meth c H locs (G.gc - G0.gc) (G.gs - G0.gs) Q (F0 m 5 ls [.int z_1, .ref M.o_Vt]) := by
    intro y_1 y_2 y_3 y_4 z_1 Y G S H locs ls h m0 hP hD hS hl
    have mF := mo_Vt_stamp_5 h
    rw [f_Vt_stamp_5] at h
    rcases lf_aT h with ⟨r_2, G_2, S_2, hc_2, h⟩ | h9
    · have mc := mo_Vt_wantSoundTable hc_2
      have ml_2 := mo_Vt_wantSoundTable hc_2
      have mF1 := mo_Vt_stamp_8 h
      have hFc := lx_free hD hS hA
      refine va_callv (va_runV (As := [.int z_1]) (rest := []) ⟨hx, hb, hml, hown, hts⟩ (l_Vt_wantSoundTable l dC dI X _ hc_2) (cwV 1 hts (gwV good_Vq (u_Vq_Vt _ k_Vt_166) (u_Vq_Vt _ k_Vt_167) (u_Vq_Vt _ k_Vt_216) (u_Vq_Vt _ k_Vt_0) (wcs (u_Vq_Vt _ k_Vt_168) (fun _ h => h))) rfl rfl rfl (by decide +kernel) ⟨Nat.le_of_ble_eq_true rfl, Nat.le_of_ble_eq_true rfl⟩) (pv_ofE (X.same _) (fun U z1 z2 => X.mono _ _ U hFc (hEw _ _ hS U z1 z2)) hP hK hD (va_recv hK hP (ci := 11) (q0 := 0) rfl rfl)) rfl rfl hl.1 rfl (lv_room (Nat.le_of_ble_eq_true rfl)) d_Vt_stamp_5 ⟨ly_c1 m0.1 mc.1 mF1.1, ly_c1 m0.2 mc.2 mF1.2⟩) hS (fun q _ h => hFc q h) hFc (fun Y_2 t H locs ht hvm hw hB hz1 hk1 hS => ?_)
      obtain ⟨hP, -, hD⟩ := hB
      rw [ht] at hP
      have hD := lx_dj hD hFc
      refine W.widen (k := G_2.gc - G0.gc) (n := G_2.gs - G0.gs) (ly_c2 m0.1 mc.1) (ly_c2 m0.2 mc.2) ?_
      have m0 := CG.le_tr m0 mc
      exact hB_8 y_1 y_2 y_3 y_4 Y_2 G_2 S_2 _ _ _ h m0 hP hD hS (lv_sub hl [0, 1, 2, 3, 4] rfl)
    · exact absurd (th_Vt_wantSoundTable h9) (by decide)
  have m0 : CG.le G0 G0 := ⟨Nat.le_refl _, Nat.le_refl _⟩
  have mF := mo_Vt_stamp h
  refine W.widen (k := G0.gc - G0.gc) (n := G0.gs - G0.gs) (Nat.zero_le _) (Nat.zero_le _) ?_
  rw [f_Vt_stamp] at h
  refine lv_aload_n hx hb d_Vt_stamp_0 rfl (lv_at hl 0 rfl) ?_
  refine lv_aload_n hx hb d_Vt_stamp_1 rfl (lv_at hl 0 rfl) ?_
  obtain ⟨r_1, G_1, S_1, hc_1, h⟩ := lf_nE h
  have mc := mo_Vt_look hc_1
  have ml_1 := mo_Vt_look hc_1
  have mF1 := mo_Vt_stamp_5 h
  have hFc := lx_free hD hS hA
  refine va_calli (va_runV (As := []) (rest := [.ref M.o_Vt]) ⟨hx, hb, hml, hown, hts⟩ (l_Vt_look l dC dI X _ hc_1) (cwV 0 hts (gwV good_Vq (u_Vq_Vt _ k_Vt_68) (u_Vq_Vt _ k_Vt_69) (u_Vq_Vt _ k_Vt_214) (u_Vq_Vt _ k_Vt_0) (wcs (u_Vq_Vt _ k_Vt_70) (fun _ h => h))) rfl rfl rfl (by decide +kernel) ⟨Nat.le_of_ble_eq_true rfl, Nat.le_of_ble_eq_true rfl⟩) (pv_ofE (X.same _) (fun U z1 z2 => X.mono _ _ U hFc (hEw _ _ hS U z1 z2)) hP hK hD (va_recv hK hP (ci := 11) (q0 := 0) rfl rfl)) rfl rfl hl.1 rfl (lv_room (Nat.le_of_ble_eq_true rfl)) d_Vt_stamp_2 ⟨ly_c1 m0.1 mc.1 mF1.1, ly_c1 m0.2 mc.2 mF1.2⟩) hS (fun q _ h => hFc q h) hFc (fun r_ Y_1 t H locs ht hvm hw hB hz1 hk1 hS => ?_)
  rw [hw]
  obtain ⟨hP, -, hD⟩ := hB
  rw [ht] at hP
  have hD := lx_dj hD hFc
  refine W.widen (k := G_1.gc - G0.gc) (n := G_1.gs - G0.gs) (ly_c2 m0.1 mc.1) (ly_c2 m0.2 mc.2) ?_
  have m0 := CG.le_tr m0 mc
  exact hB_5 p0 p1 p2 p3 r_1 Y_1 G_1 S_1 _ _ _ h m0 hP hD hS (lv_sub hl [0, 1, 2, 3, 4] rfl)
set_option maxHeartbeats 4000000 in
set_option maxRecDepth 100000 in
theorem lt_Vt_stamp_1 (l : Launch) (hfl : l.flags = pinnedFlags ++ [noTraceFlag]) (dC : Nat → ClassId) (dI : Nat → Nat → Nat) {K : Nat} {M : CA} {E : (Nat → Prop) → State → Prop} (X : ly_X l dC dI K M E) (sz : Nat) {Y : CT} {G0 G' : CG} {S S' : CS} {p0 : Int32} {p1 : Int32} {p2 : Int32} {p3 : Int32} (h : f_Vt_stamp K G0 S p0 p1 p2 p3 = some (.error 1, G', S')) : MetX l y_Vt_stamp (.code y_Vt_stamp cb_Vt_stamp 7 none :: V_Vq) ({ frames := 8, cells := G'.gc - G0.gc, slots := G'.gs - G0.gs, locals := 224 }) (va_Pc [.ref M.o_Vt, .int p0, .int p1, .int p2, .int p3] (fun U => U.heap.size = sz ∧ at_ (dC, dI) (fun _ => True) (wV M Y G0 S) (tV M) U ∧ E (va_A (wV M Y G0 S) sz) U)) (fun _ _ _ _ => False) (x_Q "java/lang/IllegalStateException" (va_A (wV M Y G0 S) sz) (fun t => ∃ u : CT, at_ (dC, dI) (va_A (wV M Y G0 S) sz) (wV M u G' S') (tV M) t)) (G'.gc - G0.gc) (G'.gs - G0.gs) (va_A (wV M Y G0 S) sz) := by
  refine MetX.ofW (cc := cb_Vt_stamp) (maxL := 7) (ret := none) (by decide) rfl ?_
  intro p e s m args below meth c s₁ B hml hv
  obtain ⟨rfl, hsz, ⟨hP, hK, hD0⟩, hE⟩ := hv
  have hx := B.exec
  have hb := B.bytes
  have hr := B.returns
  have hts0 := atoms_spec (ws := .code y_Vt_stamp cb_Vt_stamp 7 none :: V_Vq) B.pre
  have hts : ∀ w ∈ V_Vq, w.before ([.ref M.o_Vt, .int p0, .int p1, .int p2, .int p3] : List Value).toArray s = true := fun w h => hts0 w (List.mem_cons_of_mem _ h)
  have hown : s.vm.findClass R_Vt = some m.cls := findClass_of_methodNamed B.named
  have hlocks := B.notSynchronized
  have hout := x_table B (hts0 _ List.mem_cons_self)
  subst hsz
  have hD := hD0.self (sz := s.heap.size)
  generalize hAe : va_A (wV M Y G0 S) s.heap.size = A at hD hE ⊢
  have hA : ∀ q : Nat, s.heap.size ≤ q → A q := fun q h => by rw [← hAe]; exact Or.inr h
  have hS : va_S A s.heap s.heap [] := va_S.rf
  have hP : va_P (dC, dI) classes (wV M Y G0 S) s.heap := hP
  have hK : va_K (dC, dI) classes (tV M) s := hK
  have hEw : ∀ (H : Heap) (locs : List Loc), va_S A s.heap H locs → ∀ U : State, U.heap = H → s.WarmedH U.vm → E A U := fun H locs hS U hU hW => X.kept A s U H locs hE hS hU hW
  have hl := lv_entry ([.ref M.o_Vt, .int p0, .int p1, .int p2, .int p3]) (n := 7) (Nat.le_of_ble_eq_true rfl)
  rw [lg_entry_eq]
  generalize (lg_sl ([.ref M.o_Vt, .int p0, .int p1, .int p2, .int p3]) ++ List.replicate (7 - (lg_sl ([.ref M.o_Vt, .int p0, .int p1, .int p2, .int p3])).length) Slot.unset).toArray = ls at hl ⊢
  have hl : lv_has ls 7 [(0, .ref M.o_Vt), (1, .int p0), (2, .int p1), (3, .int p2), (4, .int p3)] := hl
  refine qabs (fun Q hQ => ?_)
  have hB_13 : ∀ (y_2 : Int32) (y_3 : Int32) (y_4 : Int32) (z_0 : Int32) (Y : CT) (G : CG) (S : CS) (H : Heap) (locs : List Loc) (ls : Array Slot), f_Vt_stamp_13 K y_2 y_3 y_4 z_0 G S = some (.error 1, G', S') → CG.le G0 G → va_P (dC, dI) classes (wV M Y G S) H → va_D A (wV M Y G S) → va_S A s.heap H locs → lv_has ls 7 [(0, .ref M.o_Vt), (2, .int y_2), (3, .int y_3), (4, .int y_4)] → W p l e ({ frames := 8, cells := G'.gc - G0.gc, slots := G'.gs - G0.gs, locals := 224 }) s m ([.ref M.o_Vt, .int p0, .int p1, .int p2, .int p3] : List Value).toArray below meth c H locs (G.gc - G0.gc) (G.gs - G0.gs) Q (F0 m 13 ls [.int z_0]) := by
    intro y_2 y_3 y_4 z_0 Y G S H locs ls h m0 hP hD hS hl
    have mF := mo_Vt_stamp_13 h
    rw [f_Vt_stamp_13] at h
    refine lv_istore (lv' := [(5, .int z_0), (0, .ref M.o_Vt), (2, .int y_2), (3, .int y_3), (4, .int y_4)]) hx hb d_Vt_stamp_13 hl (by decide) rfl (fun ls hl => ?_)
    refine lv_aload_n hx hb d_Vt_stamp_15 rfl (lv_at hl 1 rfl) ?_
    refine va_get (D := (dC, dI)) (ci := 11) (v := .ref M.o_Tr) (C := R_Vt) (T := F_Vt) (N := 16) hx hb hts (fun w h => u_Vq_Vt w (i_Vt w h)) hown hK hP 0 rfl rfl 3 (by decide) (hts _ (u_Vq_Vt _ k_Vt_32)) (fun _ h9 => h9) rfl d_Vt_stamp_16 ?_
    refine lv_iload hx hb d_Vt_stamp_19 (lv_at hl 0 rfl) ?_
    obtain ⟨r_4, S_4, hc_4, h⟩ := lf_cE h
    have hFc := lx_free hD hS hA
    refine va_calli (va_runV (As := [.int z_0]) (rest := []) ⟨hx, hb, hml, hown, hts⟩ (l_Tr_spotOf l dC dI X _ hc_4) (cwV 1 hts (gwV good_Vq (u_Vq_Vt _ k_Vt_145) (u_Vq_Tr _ k_Tr_57) (u_Vq_Tr _ k_Tr_58) (u_Vq_Tr _ k_Tr_0) (wcs (u_Vq_Tr _ k_Tr_59) (fun _ h => h))) rfl rfl rfl (by decide +kernel) ⟨Nat.le_of_ble_eq_true rfl, Nat.le_of_ble_eq_true rfl⟩) (pv_ofE (X.same _) (fun U z1 z2 => X.mono _ _ U hFc (hEw _ _ hS U z1 z2)) hP hK hD (va_recv hK hP (ci := 5) (q0 := 4) rfl rfl)) rfl rfl hl.1 rfl (lv_room (Nat.le_of_ble_eq_true rfl)) d_Vt_stamp_21 ⟨ly_c0 mF.1, ly_c0 mF.2⟩) hS (fun q _ h => hFc q h) hFc (fun r_ u t H locs ht hvm hw hB hz1 hk1 hS => ?_)
    rw [hw]
    obtain ⟨hP, -, hD⟩ := hB
    rw [ht] at hP
    have hD := lx_dj hD hFc
    refine lv_istore (lv' := [(6, .int r_4), (5, .int z_0), (0, .ref M.o_Vt), (2, .int y_2), (3, .int y_3), (4, .int y_4)]) hx hb d_Vt_stamp_24 hl (by decide) rfl (fun ls hl => ?_)
    refine lv_aload_n hx hb d_Vt_stamp_26 rfl (lv_at hl 2 rfl) ?_
    refine va_get (D := (dC, dI)) (ci := 11) (v := .ref M.o_Dk) (C := R_Vt) (T := F_Vt) (N := 16) hx hb hts (fun w h => u_Vq_Vt w (i_Vt w h)) hown hK hP 0 rfl rfl 0 (by decide) (hts _ (u_Vq_Vt _ k_Vt_29)) (fun _ h9 => h9) rfl d_Vt_stamp_27 ?_
    refine lv_iload hx hb d_Vt_stamp_30 (lv_at hl 0 rfl) ?_
    refine lv_iload_n hx hb d_Vt_stamp_32 rfl (lv_at hl 3 rfl) ?_
    refine lv_iload_n hx hb d_Vt_stamp_33 rfl (lv_at hl 4 rfl) ?_
    refine lv_iload hx hb d_Vt_stamp_34 (lv_at hl 5 rfl) ?_
    obtain ⟨r_5, S_5, hc_5, h⟩ := lf_cE h
    have hFc := lx_free hD hS hA
    refine va_calli (va_runS (As := [.ref M.o_Dk, .int r_4, .int y_2, .int y_3, .int y_4]) (rest := []) ⟨hx, hb, hml, hown, hts⟩ (l_Da_wouldFit l dC dI X _ hc_5) (va_cwS 5 hts (gwS good_Vq (u_Vq_Vt _ k_Vt_205) (u_Vq_Da _ k_Da_25) (u_Vq_Da _ k_Da_0) (wcs (u_Vq_Da _ k_Da_26) (fun _ h => h))) rfl rfl rfl (by decide +kernel) ⟨Nat.le_of_ble_eq_true rfl, Nat.le_of_ble_eq_true rfl⟩) (ps_ofE2 (X.same _) (fun U z1 z2 => X.mono _ _ U hFc (hEw _ _ hS U z1 z2)) hP hK hD) rfl rfl hl.1 rfl (lv_room (Nat.le_of_ble_eq_true rfl)) d_Vt_stamp_36 ⟨ly_c0 mF.1, ly_c0 mF.2⟩) hS (fun q _ h => hFc q h) hFc (fun r_ u t H locs ht hvm hw hB hz1 hk1 hS => ?_)
    rw [hw]
    obtain ⟨hP, -, hD⟩ := hB
    rw [ht] at hP
    have hD := lx_dj hD hFc
    refine lv_if_ne (tgt := 53) hx hb d_Vt_stamp_39 (by decide) (fun c_6 => ?_) (fun c_6 => ?_)
    · have h := lf_f h c_6
      refine lv_aload_n hx hb d_Vt_stamp_53 rfl (lv_at hl 2 rfl) ?_
      obtain ⟨S_7, hc_7, h⟩ := lf_bE h
      have hFc := lx_free hD hS hA
      refine va_callv (va_runV (As := []) (rest := []) ⟨hx, hb, hml, hown, hts⟩ (l_Vt_changed l dC dI X _ hc_7) (cwV 0 hts (gwV good_Vq (u_Vq_Vt _ k_Vt_62) (u_Vq_Vt _ k_Vt_63) (u_Vq_Vt _ k_Vt_213) (u_Vq_Vt _ k_Vt_0) (wcs (u_Vq_Vt _ k_Vt_64) (fun _ h => h))) rfl rfl rfl (by decide +kernel) ⟨Nat.le_of_ble_eq_true rfl, Nat.le_of_ble_eq_true rfl⟩) (pv_ofE (X.same _) (fun U z1 z2 => X.mono _ _ U hFc (hEw _ _ hS U z1 z2)) hP hK hD (va_recv hK hP (ci := 11) (q0 := 0) rfl rfl)) rfl rfl hl.1 rfl (lv_room (Nat.le_of_ble_eq_true rfl)) d_Vt_stamp_54 ⟨ly_c0 mF.1, ly_c0 mF.2⟩) hS (fun q _ h => hFc q h) hFc (fun u t H locs ht hvm hw hB hz1 hk1 hS => ?_)
      obtain ⟨hP, -, hD⟩ := hB
      rw [ht] at hP
      have hD := lx_dj hD hFc
      refine lv_aload_n hx hb d_Vt_stamp_57 rfl (lv_at hl 2 rfl) ?_
      refine va_get (D := (dC, dI)) (ci := 11) (v := .ref M.o_Ed) (C := R_Vt) (T := F_Vt) (N := 16) hx hb hts (fun w h => u_Vq_Vt w (i_Vt w h)) hown hK hP 0 rfl rfl 5 (by decide) (hts _ (u_Vq_Vt _ k_Vt_34)) (fun _ h9 => h9) rfl d_Vt_stamp_58 ?_
      refine lv_iload hx hb d_Vt_stamp_61 (lv_at hl 0 rfl) ?_
      refine lv_iload_n hx hb d_Vt_stamp_63 rfl (lv_at hl 3 rfl) ?_
      refine lv_iload_n hx hb d_Vt_stamp_64 rfl (lv_at hl 4 rfl) ?_
      refine lv_iload hx hb d_Vt_stamp_65 (lv_at hl 5 rfl) ?_
      obtain ⟨S_8, hc_8, h⟩ := lf_bE h
      have hFc := lx_free hD hS hA
      refine va_callv (va_runV (As := [.int r_4, .int y_2, .int y_3, .int y_4]) (rest := []) ⟨hx, hb, hml, hown, hts⟩ (l_Ed_putStamp l dC dI X _ hc_8) (cwV 4 hts (gwV good_Vq (u_Vq_Vt _ k_Vt_206) (u_Vq_Ed _ k_Ed_127) (u_Vq_Ed _ k_Ed_128) (u_Vq_Ed _ k_Ed_0) (wcs (u_Vq_Ed _ k_Ed_129) (fun _ h => h))) rfl rfl rfl (by decide +kernel) ⟨Nat.le_of_ble_eq_true rfl, Nat.le_of_ble_eq_true rfl⟩) (pv_ofE (X.same _) (fun U z1 z2 => X.mono _ _ U hFc (hEw _ _ hS U z1 z2)) hP hK hD (va_recv hK hP (ci := 8) (q0 := 6) rfl rfl)) rfl rfl hl.1 rfl (lv_room (Nat.le_of_ble_eq_true rfl)) d_Vt_stamp_67 ⟨ly_c0 mF.1, ly_c0 mF.2⟩) hS (fun q _ h => hFc q h) hFc (fun u t H locs ht hvm hw hB hz1 hk1 hS => ?_)
      obtain ⟨hP, -, hD⟩ := hB
      rw [ht] at hP
      have hD := lx_dj hD hFc
      exact lf_xo h
    · have h := lf_t h c_6
      exact lf_xk h (by decide)
  have hB_8 : ∀ (y_1 : Int32) (y_2 : Int32) (y_3 : Int32) (y_4 : Int32) (Y : CT) (G : CG) (S : CS) (H : Heap) (locs : List Loc) (ls : Array Slot), f_Vt_stamp_8 K y_1 y_2 y_3 y_4 G S = some (.error 1, G', S') → CG.le G0 G → va_P (dC, dI) classes (wV M Y G S) H → va_D A (wV M Y G S) → va_S A s.heap H locs → lv_has ls 7 [(0, .ref M.o_Vt), (1, .int y_1), (2, .int y_2), (3, .int y_3), (4, .int y_4)] → W p l e ({ frames := 8, cells := G'.gc - G0.gc, slots := G'.gs - G0.gs, locals := 224 }) s m ([.ref M.o_Vt, .int p0, .int p1, .int p2, .int p3] : List Value).toArray below meth c H locs (G.gc - G0.gc) (G.gs - G0.gs) Q (F0 m 8 ls []) := by
    intro y_1 y_2 y_3 y_4 Y G S H locs ls h m0 hP hD hS hl
    have mF := mo_Vt_stamp_8 h
    rw [f_Vt_stamp_8] at h
    refine lv_aload_n hx hb d_Vt_stamp_8 rfl (lv_at hl 0 rfl) ?_
    refine lv_iload_n hx hb d_Vt_stamp_9 rfl (lv_at hl 1 rfl) ?_
    rcases lf_aT h with ⟨r_3, G_3, S_3, hc_3, h⟩ | h9
    · have mc := mo_Vt_itemHere hc_3
      have ml_3 := mo_Vt_itemHere hc_3
      have mF1 := mo_Vt_stamp_13 h
      have hFc := lx_free hD hS hA
      refine va_calli (va_runV (As := [.int y_1]) (rest := []) ⟨hx, hb, hml, hown, hts⟩ (l_Vt_itemHere l dC dI X _ hc_3) (cwV 1 hts (gwV good_Vq (u_Vq_Vt _ k_Vt_130) (u_Vq_Vt _ k_Vt_131) (u_Vq_Vt _ k_Vt_217) (u_Vq_Vt _ k_Vt_0) (wcs (u_Vq_Vt _ k_Vt_132) (fun _ h => h))) rfl rfl rfl (by decide +kernel) ⟨Nat.le_of_ble_eq_true rfl, Nat.le_of_ble_eq_true rfl⟩) (pv_ofE (X.same _) (fun U z1 z2 => X.mono _ _ U hFc (hEw _ _ hS U z1 z2)) hP hK hD (va_recv hK hP (ci := 11) (q0 := 0) rfl rfl)) rfl rfl hl.1 rfl (lv_room (Nat.le_of_ble_eq_true rfl)) d_Vt_stamp_10 ⟨ly_c1 m0.1 mc.1 mF1.1, ly_c1 m0.2 mc.2 mF1.2⟩) hS (fun q _ h => hFc q h) hFc (fun r_ Y_3 t H locs ht hvm hw hB hz1 hk1 hS => ?_)
      rw [hw]
      obtain ⟨hP, -, hD⟩ := hB
      rw [ht] at hP
      have hD := lx_dj hD hFc
      refine W.widen (k := G_3.gc - G0.gc) (n := G_3.gs - G0.gs) (ly_c2 m0.1 mc.1) (ly_c2 m0.2 mc.2) ?_
      have m0 := CG.le_tr m0 mc
      exact hB_13 y_2 y_3 y_4 r_3 Y_3 G_3 S_3 _ _ _ h m0 hP hD hS (lv_sub hl [0, 2, 3, 4] rfl)
    · exact absurd (th_Vt_itemHere h9) (by decide)
  have hB_5 : ∀ (y_1 : Int32) (y_2 : Int32) (y_3 : Int32) (y_4 : Int32) (z_1 : Int32) (Y : CT) (G : CG) (S : CS) (H : Heap) (locs : List Loc) (ls : Array Slot), f_Vt_stamp_5 K y_1 y_2 y_3 y_4 z_1 G S = some (.error 1, G', S') → CG.le G0 G → va_P (dC, dI) classes (wV M Y G S) H → va_D A (wV M Y G S) → va_S A s.heap H locs → lv_has ls 7 [(0, .ref M.o_Vt), (1, .int y_1), (2, .int y_2), (3, .int y_3), (4, .int y_4)] → W p l e ({ frames := 8, cells := G'.gc - G0.gc, slots := G'.gs - G0.gs, locals := 224 }) s m ([.ref M.o_Vt, .int p0, .int p1, .int p2, .int p3] : List Value).toArray below meth c H locs (G.gc - G0.gc) (G.gs - G0.gs) Q (F0 m 5 ls [.int z_1, .ref M.o_Vt]) := by
    intro y_1 y_2 y_3 y_4 z_1 Y G S H locs ls h m0 hP hD hS hl
    have mF := mo_Vt_stamp_5 h
    rw [f_Vt_stamp_5] at h
    rcases lf_aT h with ⟨r_2, G_2, S_2, hc_2, h⟩ | h9
    · have mc := mo_Vt_wantSoundTable hc_2
      have ml_2 := mo_Vt_wantSoundTable hc_2
      have mF1 := mo_Vt_stamp_8 h
      have hFc := lx_free hD hS hA
      refine va_callv (va_runV (As := [.int z_1]) (rest := []) ⟨hx, hb, hml, hown, hts⟩ (l_Vt_wantSoundTable l dC dI X _ hc_2) (cwV 1 hts (gwV good_Vq (u_Vq_Vt _ k_Vt_166) (u_Vq_Vt _ k_Vt_167) (u_Vq_Vt _ k_Vt_216) (u_Vq_Vt _ k_Vt_0) (wcs (u_Vq_Vt _ k_Vt_168) (fun _ h => h))) rfl rfl rfl (by decide +kernel) ⟨Nat.le_of_ble_eq_true rfl, Nat.le_of_ble_eq_true rfl⟩) (pv_ofE (X.same _) (fun U z1 z2 => X.mono _ _ U hFc (hEw _ _ hS U z1 z2)) hP hK hD (va_recv hK hP (ci := 11) (q0 := 0) rfl rfl)) rfl rfl hl.1 rfl (lv_room (Nat.le_of_ble_eq_true rfl)) d_Vt_stamp_5 ⟨ly_c1 m0.1 mc.1 mF1.1, ly_c1 m0.2 mc.2 mF1.2⟩) hS (fun q _ h => hFc q h) hFc (fun Y_2 t H locs ht hvm hw hB hz1 hk1 hS => ?_)
      obtain ⟨hP, -, hD⟩ := hB
      rw [ht] at hP
      have hD := lx_dj hD hFc
      refine W.widen (k := G_2.gc - G0.gc) (n := G_2.gs - G0.gs) (ly_c2 m0.1 mc.1) (ly_c2 m0.2 mc.2) ?_
      have m0 := CG.le_tr m0 mc
      exact hB_8 y_1 y_2 y_3 y_4 Y_2 G_2 S_2 _ _ _ h m0 hP hD hS (lv_sub hl [0, 1, 2, 3, 4] rfl)
    · have mc := mo_Vt_wantSoundTable h9
      have hFc := lx_free hD hS hA
      rw [hQ]
      exact x_outV (n := 1) (As := [.int z_1]) (rest := []) (b := M.o_Vt) (st0 := [.int z_1, .ref M.o_Vt]) ⟨hx, hb, hml, hown, hts⟩ (lt_Vt_wantSoundTable_1 l hfl dC dI X _ h9) (cwV 1 hts (gwV good_Vq (u_Vq_Vt _ k_Vt_166) (u_Vq_Vt _ k_Vt_167) (u_Vq_Vt _ k_Vt_216) (u_Vq_Vt _ k_Vt_0) (wcs (u_Vq_Vt _ k_Vt_168) (fun _ h => h))) rfl rfl rfl (by decide +kernel) ⟨Nat.le_of_ble_eq_true rfl, Nat.le_of_ble_eq_true rfl⟩) (pv_ofE (X.same _) (fun U z1 z2 => X.mono _ _ U hFc (hEw _ _ hS U z1 z2)) hP hK hD (va_recv hK hP (ci := 11) (q0 := 0) rfl rfl)) rfl hl.1 rfl (Nat.le_of_ble_eq_true rfl) d_Vt_stamp_5 ⟨ly_c2 m0.1 mc.1, ly_c2 m0.2 mc.2⟩ hlocks hout ⟨ly_c2 m0.1 mc.1, ly_c2 m0.2 mc.2⟩ (fun E st t U z1 z2 z3 z4 z5 => ly_outQ hS hK hFc z1 z3 z4 z5) ⟨hS.2.2, fun z h => hFc z h⟩
  have m0 : CG.le G0 G0 := ⟨Nat.le_refl _, Nat.le_refl _⟩
  have mF := mo_Vt_stamp h
  refine W.widen (k := G0.gc - G0.gc) (n := G0.gs - G0.gs) (Nat.zero_le _) (Nat.zero_le _) ?_
  rw [f_Vt_stamp] at h
  refine lv_aload_n hx hb d_Vt_stamp_0 rfl (lv_at hl 0 rfl) ?_
  refine lv_aload_n hx hb d_Vt_stamp_1 rfl (lv_at hl 0 rfl) ?_
  obtain ⟨r_1, G_1, S_1, hc_1, h⟩ := lf_nE h
  have mc := mo_Vt_look hc_1
  have ml_1 := mo_Vt_look hc_1
  have mF1 := mo_Vt_stamp_5 h
  have hFc := lx_free hD hS hA
  refine va_calli (va_runV (As := []) (rest := [.ref M.o_Vt]) ⟨hx, hb, hml, hown, hts⟩ (l_Vt_look l dC dI X _ hc_1) (cwV 0 hts (gwV good_Vq (u_Vq_Vt _ k_Vt_68) (u_Vq_Vt _ k_Vt_69) (u_Vq_Vt _ k_Vt_214) (u_Vq_Vt _ k_Vt_0) (wcs (u_Vq_Vt _ k_Vt_70) (fun _ h => h))) rfl rfl rfl (by decide +kernel) ⟨Nat.le_of_ble_eq_true rfl, Nat.le_of_ble_eq_true rfl⟩) (pv_ofE (X.same _) (fun U z1 z2 => X.mono _ _ U hFc (hEw _ _ hS U z1 z2)) hP hK hD (va_recv hK hP (ci := 11) (q0 := 0) rfl rfl)) rfl rfl hl.1 rfl (lv_room (Nat.le_of_ble_eq_true rfl)) d_Vt_stamp_2 ⟨ly_c1 m0.1 mc.1 mF1.1, ly_c1 m0.2 mc.2 mF1.2⟩) hS (fun q _ h => hFc q h) hFc (fun r_ Y_1 t H locs ht hvm hw hB hz1 hk1 hS => ?_)
  rw [hw]
  obtain ⟨hP, -, hD⟩ := hB
  rw [ht] at hP
  have hD := lx_dj hD hFc
  refine W.widen (k := G_1.gc - G0.gc) (n := G_1.gs - G0.gs) (ly_c2 m0.1 mc.1) (ly_c2 m0.2 mc.2) ?_
  have m0 := CG.le_tr m0 mc
  exact hB_5 p0 p1 p2 p3 r_1 Y_1 G_1 S_1 _ _ _ h m0 hP hD hS (lv_sub hl [0, 1, 2, 3, 4] rfl)
set_option maxHeartbeats 4000000 in
set_option maxRecDepth 100000 in
theorem lt_Vt_stamp_2 (l : Launch) (hfl : l.flags = pinnedFlags ++ [noTraceFlag]) (dC : Nat → ClassId) (dI : Nat → Nat → Nat) {K : Nat} {M : CA} {E : (Nat → Prop) → State → Prop} (X : ly_X l dC dI K M E) (sz : Nat) {Y : CT} {G0 G' : CG} {S S' : CS} {p0 : Int32} {p1 : Int32} {p2 : Int32} {p3 : Int32} (h : f_Vt_stamp K G0 S p0 p1 p2 p3 = some (.error 2, G', S')) : MetX l y_Vt_stamp (.code y_Vt_stamp cb_Vt_stamp 7 none :: V_Vq) ({ frames := 8, cells := G'.gc - G0.gc, slots := G'.gs - G0.gs, locals := 224 }) (va_Pc [.ref M.o_Vt, .int p0, .int p1, .int p2, .int p3] (fun U => U.heap.size = sz ∧ at_ (dC, dI) (fun _ => True) (wV M Y G0 S) (tV M) U ∧ E (va_A (wV M Y G0 S) sz) U)) (fun _ _ _ _ => False) (x_Q "java/lang/IndexOutOfBoundsException" (va_A (wV M Y G0 S) sz) (fun t => ∃ u : CT, at_ (dC, dI) (va_A (wV M Y G0 S) sz) (wV M u G' S') (tV M) t)) (G'.gc - G0.gc) (G'.gs - G0.gs) (va_A (wV M Y G0 S) sz) := by
  refine MetX.ofW (cc := cb_Vt_stamp) (maxL := 7) (ret := none) (by decide) rfl ?_
  intro p e s m args below meth c s₁ B hml hv
  obtain ⟨rfl, hsz, ⟨hP, hK, hD0⟩, hE⟩ := hv
  have hx := B.exec
  have hb := B.bytes
  have hr := B.returns
  have hts0 := atoms_spec (ws := .code y_Vt_stamp cb_Vt_stamp 7 none :: V_Vq) B.pre
  have hts : ∀ w ∈ V_Vq, w.before ([.ref M.o_Vt, .int p0, .int p1, .int p2, .int p3] : List Value).toArray s = true := fun w h => hts0 w (List.mem_cons_of_mem _ h)
  have hown : s.vm.findClass R_Vt = some m.cls := findClass_of_methodNamed B.named
  have hlocks := B.notSynchronized
  have hout := x_table B (hts0 _ List.mem_cons_self)
  subst hsz
  have hD := hD0.self (sz := s.heap.size)
  generalize hAe : va_A (wV M Y G0 S) s.heap.size = A at hD hE ⊢
  have hA : ∀ q : Nat, s.heap.size ≤ q → A q := fun q h => by rw [← hAe]; exact Or.inr h
  have hS : va_S A s.heap s.heap [] := va_S.rf
  have hP : va_P (dC, dI) classes (wV M Y G0 S) s.heap := hP
  have hK : va_K (dC, dI) classes (tV M) s := hK
  have hEw : ∀ (H : Heap) (locs : List Loc), va_S A s.heap H locs → ∀ U : State, U.heap = H → s.WarmedH U.vm → E A U := fun H locs hS U hU hW => X.kept A s U H locs hE hS hU hW
  have hl := lv_entry ([.ref M.o_Vt, .int p0, .int p1, .int p2, .int p3]) (n := 7) (Nat.le_of_ble_eq_true rfl)
  rw [lg_entry_eq]
  generalize (lg_sl ([.ref M.o_Vt, .int p0, .int p1, .int p2, .int p3]) ++ List.replicate (7 - (lg_sl ([.ref M.o_Vt, .int p0, .int p1, .int p2, .int p3])).length) Slot.unset).toArray = ls at hl ⊢
  have hl : lv_has ls 7 [(0, .ref M.o_Vt), (1, .int p0), (2, .int p1), (3, .int p2), (4, .int p3)] := hl
  refine qabs (fun Q hQ => ?_)
  have hB_13 : ∀ (y_2 : Int32) (y_3 : Int32) (y_4 : Int32) (z_0 : Int32) (Y : CT) (G : CG) (S : CS) (H : Heap) (locs : List Loc) (ls : Array Slot), f_Vt_stamp_13 K y_2 y_3 y_4 z_0 G S = some (.error 2, G', S') → CG.le G0 G → va_P (dC, dI) classes (wV M Y G S) H → va_D A (wV M Y G S) → va_S A s.heap H locs → lv_has ls 7 [(0, .ref M.o_Vt), (2, .int y_2), (3, .int y_3), (4, .int y_4)] → W p l e ({ frames := 8, cells := G'.gc - G0.gc, slots := G'.gs - G0.gs, locals := 224 }) s m ([.ref M.o_Vt, .int p0, .int p1, .int p2, .int p3] : List Value).toArray below meth c H locs (G.gc - G0.gc) (G.gs - G0.gs) Q (F0 m 13 ls [.int z_0]) := by
    intro y_2 y_3 y_4 z_0 Y G S H locs ls h m0 hP hD hS hl
    have mF := mo_Vt_stamp_13 h
    rw [f_Vt_stamp_13] at h
    refine lv_istore (lv' := [(5, .int z_0), (0, .ref M.o_Vt), (2, .int y_2), (3, .int y_3), (4, .int y_4)]) hx hb d_Vt_stamp_13 hl (by decide) rfl (fun ls hl => ?_)
    refine lv_aload_n hx hb d_Vt_stamp_15 rfl (lv_at hl 1 rfl) ?_
    refine va_get (D := (dC, dI)) (ci := 11) (v := .ref M.o_Tr) (C := R_Vt) (T := F_Vt) (N := 16) hx hb hts (fun w h => u_Vq_Vt w (i_Vt w h)) hown hK hP 0 rfl rfl 3 (by decide) (hts _ (u_Vq_Vt _ k_Vt_32)) (fun _ h9 => h9) rfl d_Vt_stamp_16 ?_
    refine lv_iload hx hb d_Vt_stamp_19 (lv_at hl 0 rfl) ?_
    obtain ⟨r_4, S_4, hc_4, h⟩ := lf_cE h
    have hFc := lx_free hD hS hA
    refine va_calli (va_runV (As := [.int z_0]) (rest := []) ⟨hx, hb, hml, hown, hts⟩ (l_Tr_spotOf l dC dI X _ hc_4) (cwV 1 hts (gwV good_Vq (u_Vq_Vt _ k_Vt_145) (u_Vq_Tr _ k_Tr_57) (u_Vq_Tr _ k_Tr_58) (u_Vq_Tr _ k_Tr_0) (wcs (u_Vq_Tr _ k_Tr_59) (fun _ h => h))) rfl rfl rfl (by decide +kernel) ⟨Nat.le_of_ble_eq_true rfl, Nat.le_of_ble_eq_true rfl⟩) (pv_ofE (X.same _) (fun U z1 z2 => X.mono _ _ U hFc (hEw _ _ hS U z1 z2)) hP hK hD (va_recv hK hP (ci := 5) (q0 := 4) rfl rfl)) rfl rfl hl.1 rfl (lv_room (Nat.le_of_ble_eq_true rfl)) d_Vt_stamp_21 ⟨ly_c0 mF.1, ly_c0 mF.2⟩) hS (fun q _ h => hFc q h) hFc (fun r_ u t H locs ht hvm hw hB hz1 hk1 hS => ?_)
    rw [hw]
    obtain ⟨hP, -, hD⟩ := hB
    rw [ht] at hP
    have hD := lx_dj hD hFc
    refine lv_istore (lv' := [(6, .int r_4), (5, .int z_0), (0, .ref M.o_Vt), (2, .int y_2), (3, .int y_3), (4, .int y_4)]) hx hb d_Vt_stamp_24 hl (by decide) rfl (fun ls hl => ?_)
    refine lv_aload_n hx hb d_Vt_stamp_26 rfl (lv_at hl 2 rfl) ?_
    refine va_get (D := (dC, dI)) (ci := 11) (v := .ref M.o_Dk) (C := R_Vt) (T := F_Vt) (N := 16) hx hb hts (fun w h => u_Vq_Vt w (i_Vt w h)) hown hK hP 0 rfl rfl 0 (by decide) (hts _ (u_Vq_Vt _ k_Vt_29)) (fun _ h9 => h9) rfl d_Vt_stamp_27 ?_
    refine lv_iload hx hb d_Vt_stamp_30 (lv_at hl 0 rfl) ?_
    refine lv_iload_n hx hb d_Vt_stamp_32 rfl (lv_at hl 3 rfl) ?_
    refine lv_iload_n hx hb d_Vt_stamp_33 rfl (lv_at hl 4 rfl) ?_
    refine lv_iload hx hb d_Vt_stamp_34 (lv_at hl 5 rfl) ?_
    obtain ⟨r_5, S_5, hc_5, h⟩ := lf_cE h
    have hFc := lx_free hD hS hA
    refine va_calli (va_runS (As := [.ref M.o_Dk, .int r_4, .int y_2, .int y_3, .int y_4]) (rest := []) ⟨hx, hb, hml, hown, hts⟩ (l_Da_wouldFit l dC dI X _ hc_5) (va_cwS 5 hts (gwS good_Vq (u_Vq_Vt _ k_Vt_205) (u_Vq_Da _ k_Da_25) (u_Vq_Da _ k_Da_0) (wcs (u_Vq_Da _ k_Da_26) (fun _ h => h))) rfl rfl rfl (by decide +kernel) ⟨Nat.le_of_ble_eq_true rfl, Nat.le_of_ble_eq_true rfl⟩) (ps_ofE2 (X.same _) (fun U z1 z2 => X.mono _ _ U hFc (hEw _ _ hS U z1 z2)) hP hK hD) rfl rfl hl.1 rfl (lv_room (Nat.le_of_ble_eq_true rfl)) d_Vt_stamp_36 ⟨ly_c0 mF.1, ly_c0 mF.2⟩) hS (fun q _ h => hFc q h) hFc (fun r_ u t H locs ht hvm hw hB hz1 hk1 hS => ?_)
    rw [hw]
    obtain ⟨hP, -, hD⟩ := hB
    rw [ht] at hP
    have hD := lx_dj hD hFc
    refine lv_if_ne (tgt := 53) hx hb d_Vt_stamp_39 (by decide) (fun c_6 => ?_) (fun c_6 => ?_)
    · have h := lf_f h c_6
      refine lv_aload_n hx hb d_Vt_stamp_53 rfl (lv_at hl 2 rfl) ?_
      obtain ⟨S_7, hc_7, h⟩ := lf_bE h
      have hFc := lx_free hD hS hA
      refine va_callv (va_runV (As := []) (rest := []) ⟨hx, hb, hml, hown, hts⟩ (l_Vt_changed l dC dI X _ hc_7) (cwV 0 hts (gwV good_Vq (u_Vq_Vt _ k_Vt_62) (u_Vq_Vt _ k_Vt_63) (u_Vq_Vt _ k_Vt_213) (u_Vq_Vt _ k_Vt_0) (wcs (u_Vq_Vt _ k_Vt_64) (fun _ h => h))) rfl rfl rfl (by decide +kernel) ⟨Nat.le_of_ble_eq_true rfl, Nat.le_of_ble_eq_true rfl⟩) (pv_ofE (X.same _) (fun U z1 z2 => X.mono _ _ U hFc (hEw _ _ hS U z1 z2)) hP hK hD (va_recv hK hP (ci := 11) (q0 := 0) rfl rfl)) rfl rfl hl.1 rfl (lv_room (Nat.le_of_ble_eq_true rfl)) d_Vt_stamp_54 ⟨ly_c0 mF.1, ly_c0 mF.2⟩) hS (fun q _ h => hFc q h) hFc (fun u t H locs ht hvm hw hB hz1 hk1 hS => ?_)
      obtain ⟨hP, -, hD⟩ := hB
      rw [ht] at hP
      have hD := lx_dj hD hFc
      refine lv_aload_n hx hb d_Vt_stamp_57 rfl (lv_at hl 2 rfl) ?_
      refine va_get (D := (dC, dI)) (ci := 11) (v := .ref M.o_Ed) (C := R_Vt) (T := F_Vt) (N := 16) hx hb hts (fun w h => u_Vq_Vt w (i_Vt w h)) hown hK hP 0 rfl rfl 5 (by decide) (hts _ (u_Vq_Vt _ k_Vt_34)) (fun _ h9 => h9) rfl d_Vt_stamp_58 ?_
      refine lv_iload hx hb d_Vt_stamp_61 (lv_at hl 0 rfl) ?_
      refine lv_iload_n hx hb d_Vt_stamp_63 rfl (lv_at hl 3 rfl) ?_
      refine lv_iload_n hx hb d_Vt_stamp_64 rfl (lv_at hl 4 rfl) ?_
      refine lv_iload hx hb d_Vt_stamp_65 (lv_at hl 5 rfl) ?_
      obtain ⟨S_8, hc_8, h⟩ := lf_bE h
      have hFc := lx_free hD hS hA
      refine va_callv (va_runV (As := [.int r_4, .int y_2, .int y_3, .int y_4]) (rest := []) ⟨hx, hb, hml, hown, hts⟩ (l_Ed_putStamp l dC dI X _ hc_8) (cwV 4 hts (gwV good_Vq (u_Vq_Vt _ k_Vt_206) (u_Vq_Ed _ k_Ed_127) (u_Vq_Ed _ k_Ed_128) (u_Vq_Ed _ k_Ed_0) (wcs (u_Vq_Ed _ k_Ed_129) (fun _ h => h))) rfl rfl rfl (by decide +kernel) ⟨Nat.le_of_ble_eq_true rfl, Nat.le_of_ble_eq_true rfl⟩) (pv_ofE (X.same _) (fun U z1 z2 => X.mono _ _ U hFc (hEw _ _ hS U z1 z2)) hP hK hD (va_recv hK hP (ci := 8) (q0 := 6) rfl rfl)) rfl rfl hl.1 rfl (lv_room (Nat.le_of_ble_eq_true rfl)) d_Vt_stamp_67 ⟨ly_c0 mF.1, ly_c0 mF.2⟩) hS (fun q _ h => hFc q h) hFc (fun u t H locs ht hvm hw hB hz1 hk1 hS => ?_)
      obtain ⟨hP, -, hD⟩ := hB
      rw [ht] at hP
      have hD := lx_dj hD hFc
      exact lf_xo h
    · have h := lf_t h c_6
      exact lf_xk h (by decide)
  have hB_8 : ∀ (y_1 : Int32) (y_2 : Int32) (y_3 : Int32) (y_4 : Int32) (Y : CT) (G : CG) (S : CS) (H : Heap) (locs : List Loc) (ls : Array Slot), f_Vt_stamp_8 K y_1 y_2 y_3 y_4 G S = some (.error 2, G', S') → CG.le G0 G → va_P (dC, dI) classes (wV M Y G S) H → va_D A (wV M Y G S) → va_S A s.heap H locs → lv_has ls 7 [(0, .ref M.o_Vt), (1, .int y_1), (2, .int y_2), (3, .int y_3), (4, .int y_4)] → W p l e ({ frames := 8, cells := G'.gc - G0.gc, slots := G'.gs - G0.gs, locals := 224 }) s m ([.ref M.o_Vt, .int p0, .int p1, .int p2, .int p3] : List Value).toArray below meth c H locs (G.gc - G0.gc) (G.gs - G0.gs) Q (F0 m 8 ls []) := by
    intro y_1 y_2 y_3 y_4 Y G S H locs ls h m0 hP hD hS hl
    have mF := mo_Vt_stamp_8 h
    rw [f_Vt_stamp_8] at h
    refine lv_aload_n hx hb d_Vt_stamp_8 rfl (lv_at hl 0 rfl) ?_
    refine lv_iload_n hx hb d_Vt_stamp_9 rfl (lv_at hl 1 rfl) ?_
    rcases lf_aT h with ⟨r_3, G_3, S_3, hc_3, h⟩ | h9
    · have mc := mo_Vt_itemHere hc_3
      have ml_3 := mo_Vt_itemHere hc_3
      have mF1 := mo_Vt_stamp_13 h
      have hFc := lx_free hD hS hA
      refine va_calli (va_runV (As := [.int y_1]) (rest := []) ⟨hx, hb, hml, hown, hts⟩ (l_Vt_itemHere l dC dI X _ hc_3) (cwV 1 hts (gwV good_Vq (u_Vq_Vt _ k_Vt_130) (u_Vq_Vt _ k_Vt_131) (u_Vq_Vt _ k_Vt_217) (u_Vq_Vt _ k_Vt_0) (wcs (u_Vq_Vt _ k_Vt_132) (fun _ h => h))) rfl rfl rfl (by decide +kernel) ⟨Nat.le_of_ble_eq_true rfl, Nat.le_of_ble_eq_true rfl⟩) (pv_ofE (X.same _) (fun U z1 z2 => X.mono _ _ U hFc (hEw _ _ hS U z1 z2)) hP hK hD (va_recv hK hP (ci := 11) (q0 := 0) rfl rfl)) rfl rfl hl.1 rfl (lv_room (Nat.le_of_ble_eq_true rfl)) d_Vt_stamp_10 ⟨ly_c1 m0.1 mc.1 mF1.1, ly_c1 m0.2 mc.2 mF1.2⟩) hS (fun q _ h => hFc q h) hFc (fun r_ Y_3 t H locs ht hvm hw hB hz1 hk1 hS => ?_)
      rw [hw]
      obtain ⟨hP, -, hD⟩ := hB
      rw [ht] at hP
      have hD := lx_dj hD hFc
      refine W.widen (k := G_3.gc - G0.gc) (n := G_3.gs - G0.gs) (ly_c2 m0.1 mc.1) (ly_c2 m0.2 mc.2) ?_
      have m0 := CG.le_tr m0 mc
      exact hB_13 y_2 y_3 y_4 r_3 Y_3 G_3 S_3 _ _ _ h m0 hP hD hS (lv_sub hl [0, 2, 3, 4] rfl)
    · have mc := mo_Vt_itemHere h9
      have hFc := lx_free hD hS hA
      rw [hQ]
      exact x_outV (n := 1) (As := [.int y_1]) (rest := []) (b := M.o_Vt) (st0 := [.int y_1, .ref M.o_Vt]) ⟨hx, hb, hml, hown, hts⟩ (lt_Vt_itemHere_2 l hfl dC dI X _ h9) (cwV 1 hts (gwV good_Vq (u_Vq_Vt _ k_Vt_130) (u_Vq_Vt _ k_Vt_131) (u_Vq_Vt _ k_Vt_217) (u_Vq_Vt _ k_Vt_0) (wcs (u_Vq_Vt _ k_Vt_132) (fun _ h => h))) rfl rfl rfl (by decide +kernel) ⟨Nat.le_of_ble_eq_true rfl, Nat.le_of_ble_eq_true rfl⟩) (pv_ofE (X.same _) (fun U z1 z2 => X.mono _ _ U hFc (hEw _ _ hS U z1 z2)) hP hK hD (va_recv hK hP (ci := 11) (q0 := 0) rfl rfl)) rfl hl.1 rfl (Nat.le_of_ble_eq_true rfl) d_Vt_stamp_10 ⟨ly_c2 m0.1 mc.1, ly_c2 m0.2 mc.2⟩ hlocks hout ⟨ly_c2 m0.1 mc.1, ly_c2 m0.2 mc.2⟩ (fun E st t U z1 z2 z3 z4 z5 => ly_outQ hS hK hFc z1 z3 z4 z5) ⟨hS.2.2, fun z h => hFc z h⟩
  have hB_5 : ∀ (y_1 : Int32) (y_2 : Int32) (y_3 : Int32) (y_4 : Int32) (z_1 : Int32) (Y : CT) (G : CG) (S : CS) (H : Heap) (locs : List Loc) (ls : Array Slot), f_Vt_stamp_5 K y_1 y_2 y_3 y_4 z_1 G S = some (.error 2, G', S') → CG.le G0 G → va_P (dC, dI) classes (wV M Y G S) H → va_D A (wV M Y G S) → va_S A s.heap H locs → lv_has ls 7 [(0, .ref M.o_Vt), (1, .int y_1), (2, .int y_2), (3, .int y_3), (4, .int y_4)] → W p l e ({ frames := 8, cells := G'.gc - G0.gc, slots := G'.gs - G0.gs, locals := 224 }) s m ([.ref M.o_Vt, .int p0, .int p1, .int p2, .int p3] : List Value).toArray below meth c H locs (G.gc - G0.gc) (G.gs - G0.gs) Q (F0 m 5 ls [.int z_1, .ref M.o_Vt]) := by
    intro y_1 y_2 y_3 y_4 z_1 Y G S H locs ls h m0 hP hD hS hl
    have mF := mo_Vt_stamp_5 h
    rw [f_Vt_stamp_5] at h
    rcases lf_aT h with ⟨r_2, G_2, S_2, hc_2, h⟩ | h9
    · have mc := mo_Vt_wantSoundTable hc_2
      have ml_2 := mo_Vt_wantSoundTable hc_2
      have mF1 := mo_Vt_stamp_8 h
      have hFc := lx_free hD hS hA
      refine va_callv (va_runV (As := [.int z_1]) (rest := []) ⟨hx, hb, hml, hown, hts⟩ (l_Vt_wantSoundTable l dC dI X _ hc_2) (cwV 1 hts (gwV good_Vq (u_Vq_Vt _ k_Vt_166) (u_Vq_Vt _ k_Vt_167) (u_Vq_Vt _ k_Vt_216) (u_Vq_Vt _ k_Vt_0) (wcs (u_Vq_Vt _ k_Vt_168) (fun _ h => h))) rfl rfl rfl (by decide +kernel) ⟨Nat.le_of_ble_eq_true rfl, Nat.le_of_ble_eq_true rfl⟩) (pv_ofE (X.same _) (fun U z1 z2 => X.mono _ _ U hFc (hEw _ _ hS U z1 z2)) hP hK hD (va_recv hK hP (ci := 11) (q0 := 0) rfl rfl)) rfl rfl hl.1 rfl (lv_room (Nat.le_of_ble_eq_true rfl)) d_Vt_stamp_5 ⟨ly_c1 m0.1 mc.1 mF1.1, ly_c1 m0.2 mc.2 mF1.2⟩) hS (fun q _ h => hFc q h) hFc (fun Y_2 t H locs ht hvm hw hB hz1 hk1 hS => ?_)
      obtain ⟨hP, -, hD⟩ := hB
      rw [ht] at hP
      have hD := lx_dj hD hFc
      refine W.widen (k := G_2.gc - G0.gc) (n := G_2.gs - G0.gs) (ly_c2 m0.1 mc.1) (ly_c2 m0.2 mc.2) ?_
      have m0 := CG.le_tr m0 mc
      exact hB_8 y_1 y_2 y_3 y_4 Y_2 G_2 S_2 _ _ _ h m0 hP hD hS (lv_sub hl [0, 1, 2, 3, 4] rfl)
    · exact absurd (th_Vt_wantSoundTable h9) (by decide)
  have m0 : CG.le G0 G0 := ⟨Nat.le_refl _, Nat.le_refl _⟩
  have mF := mo_Vt_stamp h
  refine W.widen (k := G0.gc - G0.gc) (n := G0.gs - G0.gs) (Nat.zero_le _) (Nat.zero_le _) ?_
  rw [f_Vt_stamp] at h
  refine lv_aload_n hx hb d_Vt_stamp_0 rfl (lv_at hl 0 rfl) ?_
  refine lv_aload_n hx hb d_Vt_stamp_1 rfl (lv_at hl 0 rfl) ?_
  obtain ⟨r_1, G_1, S_1, hc_1, h⟩ := lf_nE h
  have mc := mo_Vt_look hc_1
  have ml_1 := mo_Vt_look hc_1
  have mF1 := mo_Vt_stamp_5 h
  have hFc := lx_free hD hS hA
  refine va_calli (va_runV (As := []) (rest := [.ref M.o_Vt]) ⟨hx, hb, hml, hown, hts⟩ (l_Vt_look l dC dI X _ hc_1) (cwV 0 hts (gwV good_Vq (u_Vq_Vt _ k_Vt_68) (u_Vq_Vt _ k_Vt_69) (u_Vq_Vt _ k_Vt_214) (u_Vq_Vt _ k_Vt_0) (wcs (u_Vq_Vt _ k_Vt_70) (fun _ h => h))) rfl rfl rfl (by decide +kernel) ⟨Nat.le_of_ble_eq_true rfl, Nat.le_of_ble_eq_true rfl⟩) (pv_ofE (X.same _) (fun U z1 z2 => X.mono _ _ U hFc (hEw _ _ hS U z1 z2)) hP hK hD (va_recv hK hP (ci := 11) (q0 := 0) rfl rfl)) rfl rfl hl.1 rfl (lv_room (Nat.le_of_ble_eq_true rfl)) d_Vt_stamp_2 ⟨ly_c1 m0.1 mc.1 mF1.1, ly_c1 m0.2 mc.2 mF1.2⟩) hS (fun q _ h => hFc q h) hFc (fun r_ Y_1 t H locs ht hvm hw hB hz1 hk1 hS => ?_)
  rw [hw]
  obtain ⟨hP, -, hD⟩ := hB
  rw [ht] at hP
  have hD := lx_dj hD hFc
  refine W.widen (k := G_1.gc - G0.gc) (n := G_1.gs - G0.gs) (ly_c2 m0.1 mc.1) (ly_c2 m0.2 mc.2) ?_
  have m0 := CG.le_tr m0 mc
  exact hB_5 p0 p1 p2 p3 r_1 Y_1 G_1 S_1 _ _ _ h m0 hP hD hS (lv_sub hl [0, 1, 2, 3, 4] rfl)
set_option maxHeartbeats 4000000 in
set_option maxRecDepth 100000 in
theorem l_Vt_up (l : Launch) (dC : Nat → ClassId) (dI : Nat → Nat → Nat) {K : Nat} {M : CA} {E : (Nat → Prop) → State → Prop} (X : ly_X l dC dI K M E) (sz : Nat) {Y : CT} {G0 G' : CG} {S S' : CS} {r : Int32} (h : f_Vt_up K G0 S = some (.ok r, G', S')) : Met l y_Vt_up (.code y_Vt_up cb_Vt_up 2 (some .boolean) :: V_Vq) ({ frames := 8, cells := G'.gc - G0.gc, slots := G'.gs - G0.gs, locals := 224 }) (va_Pc [.ref M.o_Vt] (fun U => U.heap.size = sz ∧ at_ (dC, dI) (fun _ => True) (wV M Y G0 S) (tV M) U ∧ E (va_A (wV M Y G0 S) sz) U)) (va_Qi (fun (r_ : Int32) (u : CT) => r_ = r) (fun (u : CT) t => at_ (dC, dI) (va_A (wV M Y G0 S) sz) (wV M u G' S') (tV M) t) (va_A (wV M Y G0 S) sz)) (G'.gc - G0.gc) (G'.gs - G0.gs) (va_A (wV M Y G0 S) sz) := by
  refine Met.ofW (cc := cb_Vt_up) (maxL := 2) (ret := (some .boolean)) (by decide) rfl ?_
  intro p e s m args below meth c s₁ B hml hv
  obtain ⟨rfl, hsz, ⟨hP, hK, hD0⟩, hE⟩ := hv
  have hx := B.exec
  have hb := B.bytes
  have hr := B.returns
  have hts0 := atoms_spec (ws := .code y_Vt_up cb_Vt_up 2 (some .boolean) :: V_Vq) B.pre
  have hts : ∀ w ∈ V_Vq, w.before ([.ref M.o_Vt] : List Value).toArray s = true := fun w h => hts0 w (List.mem_cons_of_mem _ h)
  have hown : s.vm.findClass R_Vt = some m.cls := findClass_of_methodNamed B.named
  subst hsz
  have hD := hD0.self (sz := s.heap.size)
  generalize hAe : va_A (wV M Y G0 S) s.heap.size = A at hD hE ⊢
  have hA : ∀ q : Nat, s.heap.size ≤ q → A q := fun q h => by rw [← hAe]; exact Or.inr h
  have hS : va_S A s.heap s.heap [] := va_S.rf
  have hP : va_P (dC, dI) classes (wV M Y G0 S) s.heap := hP
  have hK : va_K (dC, dI) classes (tV M) s := hK
  have hEw : ∀ (H : Heap) (locs : List Loc), va_S A s.heap H locs → ∀ U : State, U.heap = H → s.WarmedH U.vm → E A U := fun H locs hS U hU hW => X.kept A s U H locs hE hS hU hW
  have hl := lv_entry ([.ref M.o_Vt]) (n := 2) (Nat.le_of_ble_eq_true rfl)
  rw [lg_entry_eq]
  generalize (lg_sl ([.ref M.o_Vt]) ++ List.replicate (2 - (lg_sl ([.ref M.o_Vt])).length) Slot.unset).toArray = ls at hl ⊢
  have hl : lv_has ls 2 [(0, .ref M.o_Vt)] := hl
  refine qabs (fun Q hQ => ?_)
  have hB_48 : ∀ (z_1 : Int32) (Y : CT) (G : CG) (S : CS) (H : Heap) (locs : List Loc) (ls : Array Slot), f_Vt_up_48 K z_1 G S = some (.ok r, G', S') → CG.le G0 G → va_P (dC, dI) classes (wV M Y G S) H → va_D A (wV M Y G S) → va_S A s.heap H locs → lv_has ls 2 [] → W p l e ({ frames := 8, cells := G'.gc - G0.gc, slots := G'.gs - G0.gs, locals := 224 }) s m ([.ref M.o_Vt] : List Value).toArray below meth c H locs (G.gc - G0.gc) (G.gs - G0.gs) Q (F0 m 48 ls [.int z_1, .ref M.o_Vt]) := by
    intro z_1 Y G S H locs ls h m0 hP hD hS hl
    have mF := mo_Vt_up_48 h
    rw [f_Vt_up_48] at h
    refine va_put (D := (dC, dI)) (ci := 11) (v := .int z_1) (ty := .int) (C := R_Vt) (T := F_Vt) (N := 16) hx hb hts (fun w h => u_Vq_Vt w (i_Vt w h)) t_Vt t_Vt_ok n_Vt hown hK hP hD hS 0 rfl rfl 12 (by decide) (hts _ (u_Vq_Vt _ k_Vt_41)) (fun _ h9 => h9) rfl (by decide +kernel) rfl rfl (Nat.le_of_ble_eq_true rfl) d_Vt_up_48 (fun H locs hP hD hS => ?_)
    obtain ⟨S_7, eS_7, h⟩ := lf_lX h
    have hP := ly_newP eS_7 hP
    have hD := ly_newD eS_7 hD
    refine lv_iconst (v := 1) hx hb d_Vt_up_51 (by decide) ?_
    rw [hQ]
    have e1 : (1 : Int32) = r := Except.ok.inj (congrArg (fun z => z.1) (Option.some.inj h))
    have e2 : G = G' := congrArg (fun z => z.2.1) (Option.some.inj h)
    have e3 : S_7 = S' := congrArg (fun z => z.2.2) (Option.some.inj h)
    have hP := ly_newP3 e2.symm e3.symm hP
    have hD := ly_newD3 e2.symm e3.symm hD
    refine W.widen (k := G'.gc - G0.gc) (n := G'.gs - G0.gs) (ly_wc e2) (ly_ws e2) ?_
    exact W.zret (v := 1) hx hb hr rfl (fun t ht hW => ⟨⟨1, Y, rfl, e1, by rw [ht]; exact hP, va_K.moved hW.alike hK, hD⟩, hS.F ht⟩) hS.2.2 d_Vt_up_52
  have hB_8 : ∀ (z_0 : Int32) (Y : CT) (G : CG) (S : CS) (H : Heap) (locs : List Loc) (ls : Array Slot), f_Vt_up_8 K z_0 G S = some (.ok r, G', S') → CG.le G0 G → va_P (dC, dI) classes (wV M Y G S) H → va_D A (wV M Y G S) → va_S A s.heap H locs → lv_has ls 2 [(0, .ref M.o_Vt)] → W p l e ({ frames := 8, cells := G'.gc - G0.gc, slots := G'.gs - G0.gs, locals := 224 }) s m ([.ref M.o_Vt] : List Value).toArray below meth c H locs (G.gc - G0.gc) (G.gs - G0.gs) Q (F0 m 8 ls [.int z_0]) := by
    intro z_0 Y G S H locs ls h m0 hP hD hS hl
    have mF := mo_Vt_up_8 h
    rw [f_Vt_up_8] at h
    refine lv_istore_n (lv' := [(1, .int z_0), (0, .ref M.o_Vt)]) hx hb d_Vt_up_8 rfl hl (by decide) rfl (fun ls hl => ?_)
    refine lv_aload_n hx hb d_Vt_up_9 rfl (lv_at hl 1 rfl) ?_
    refine va_get (D := (dC, dI)) (ci := 11) (v := .int S.v_Vt_here) (C := R_Vt) (T := F_Vt) (N := 16) hx hb hts (fun w h => u_Vq_Vt w (i_Vt w h)) hown hK hP 0 rfl rfl 12 (by decide) (hts _ (u_Vq_Vt _ k_Vt_41)) (fun _ h9 => h9) rfl d_Vt_up_10 ?_
    refine lv_if_ne (tgt := 18) hx hb d_Vt_up_13 (by decide) (fun c_3 => ?_) (fun c_3 => ?_)
    · have h := lf_f h c_3
      refine lv_aload_n hx hb d_Vt_up_18 rfl (lv_at hl 1 rfl) ?_
      refine lv_iload_n hx hb d_Vt_up_19 rfl (lv_at hl 0 rfl) ?_
      refine lv_if_eq (tgt := 37) hx hb d_Vt_up_20 (by decide) (fun c_4 => ?_) (fun c_4 => ?_)
      · have h := lf_t h c_4
        refine lv_aload_n hx hb d_Vt_up_37 rfl (lv_at hl 1 rfl) ?_
        refine va_get (D := (dC, dI)) (ci := 11) (v := .ref M.o_Tr) (C := R_Vt) (T := F_Vt) (N := 16) hx hb hts (fun w h => u_Vq_Vt w (i_Vt w h)) hown hK hP 0 rfl rfl 3 (by decide) (hts _ (u_Vq_Vt _ k_Vt_32)) (fun _ h9 => h9) rfl d_Vt_up_38 ?_
        refine lv_aload_n hx hb d_Vt_up_41 rfl (lv_at hl 1 rfl) ?_
        refine va_get (D := (dC, dI)) (ci := 11) (v := .int S.v_Vt_here) (C := R_Vt) (T := F_Vt) (N := 16) hx hb hts (fun w h => u_Vq_Vt w (i_Vt w h)) hown hK hP 0 rfl rfl 12 (by decide) (hts _ (u_Vq_Vt _ k_Vt_41)) (fun _ h9 => h9) rfl d_Vt_up_42 ?_
        obtain ⟨r_5, S_5, hc_5, h⟩ := lf_cE h
        have hFc := lx_free hD hS hA
        refine va_calli (va_runV (As := [.int S.v_Vt_here]) (rest := [.ref M.o_Vt]) ⟨hx, hb, hml, hown, hts⟩ (l_Tr_parentOf l dC dI X _ hc_5) (cwV 1 hts (gwV good_Vq (u_Vq_Vt _ k_Vt_162) (u_Vq_Tr _ k_Tr_51) (u_Vq_Tr _ k_Tr_52) (u_Vq_Tr _ k_Tr_0) (wcs (u_Vq_Tr _ k_Tr_53) (fun _ h => h))) rfl rfl rfl (by decide +kernel) ⟨Nat.le_of_ble_eq_true rfl, Nat.le_of_ble_eq_true rfl⟩) (pv_ofE (X.same _) (fun U z1 z2 => X.mono _ _ U hFc (hEw _ _ hS U z1 z2)) hP hK hD (va_recv hK hP (ci := 5) (q0 := 4) rfl rfl)) rfl rfl hl.1 rfl (lv_room (Nat.le_of_ble_eq_true rfl)) d_Vt_up_45 ⟨ly_c0 mF.1, ly_c0 mF.2⟩) hS (fun q _ h => hFc q h) hFc (fun r_ u t H locs ht hvm hw hB hz1 hk1 hS => ?_)
        rw [hw]
        obtain ⟨hP, -, hD⟩ := hB
        rw [ht] at hP
        have hD := lx_dj hD hFc
        exact hB_48 r_5 Y G S_5 _ _ _ h m0 hP hD hS (lv_sub hl [] rfl)
      · have h := lf_f h c_4
        refine lv_aload_n hx hb d_Vt_up_23 rfl (lv_at hl 1 rfl) ?_
        refine va_get (D := (dC, dI)) (ci := 11) (v := .ref M.o_In) (C := R_Vt) (T := F_Vt) (N := 16) hx hb hts (fun w h => u_Vq_Vt w (i_Vt w h)) hown hK hP 0 rfl rfl 8 (by decide) (hts _ (u_Vq_Vt _ k_Vt_37)) (fun _ h9 => h9) rfl d_Vt_up_24 ?_
        refine lv_aload_n hx hb d_Vt_up_27 rfl (lv_at hl 1 rfl) ?_
        refine va_get (D := (dC, dI)) (ci := 11) (v := .int S.v_Vt_here) (C := R_Vt) (T := F_Vt) (N := 16) hx hb hts (fun w h => u_Vq_Vt w (i_Vt w h)) hown hK hP 0 rfl rfl 12 (by decide) (hts _ (u_Vq_Vt _ k_Vt_41)) (fun _ h9 => h9) rfl d_Vt_up_28 ?_
        obtain ⟨r_6, S_6, hc_6, h⟩ := lf_cE h
        have hFc := lx_free hD hS hA
        refine va_calli (va_runV (As := [.int S.v_Vt_here]) (rest := [.ref M.o_Vt]) ⟨hx, hb, hml, hown, hts⟩ (l_In_parentOf l dC dI X _ hc_6) (cwV 1 hts (gwV good_Vq (u_Vq_Vt _ k_Vt_161) (u_Vq_In _ k_In_61) (u_Vq_In _ k_In_62) (u_Vq_In _ k_In_0) (wcs (u_Vq_In _ k_In_63) (fun _ h => h))) rfl rfl rfl (by decide +kernel) ⟨Nat.le_of_ble_eq_true rfl, Nat.le_of_ble_eq_true rfl⟩) (pv_ofE (X.same _) (fun U z1 z2 => X.mono _ _ U hFc (hEw _ _ hS U z1 z2)) hP hK hD (va_recv hK hP (ci := 6) (q0 := 9) rfl rfl)) rfl rfl hl.1 rfl (lv_room (Nat.le_of_ble_eq_true rfl)) d_Vt_up_31 ⟨ly_c0 mF.1, ly_c0 mF.2⟩) hS (fun q _ h => hFc q h) hFc (fun r_ u t H locs ht hvm hw hB hz1 hk1 hS => ?_)
        rw [hw]
        obtain ⟨hP, -, hD⟩ := hB
        rw [ht] at hP
        have hD := lx_dj hD hFc
        refine lv_goto (tgt := 48) hx hb d_Vt_up_34 (by decide) ?_
        exact hB_48 r_6 Y G S_6 _ _ _ h m0 hP hD hS (lv_sub hl [] rfl)
    · have h := lf_t h c_3
      refine lv_iconst (v := 0) hx hb d_Vt_up_16 (by decide) ?_
      rw [hQ]
      have e1 : (0 : Int32) = r := Except.ok.inj (congrArg (fun z => z.1) (Option.some.inj h))
      have e2 : G = G' := congrArg (fun z => z.2.1) (Option.some.inj h)
      have e3 : S = S' := congrArg (fun z => z.2.2) (Option.some.inj h)
      have hP := ly_newP3 e2.symm e3.symm hP
      have hD := ly_newD3 e2.symm e3.symm hD
      refine W.widen (k := G'.gc - G0.gc) (n := G'.gs - G0.gs) (ly_wc e2) (ly_ws e2) ?_
      exact W.zret (v := 0) hx hb hr rfl (fun t ht hW => ⟨⟨0, Y, rfl, e1, by rw [ht]; exact hP, va_K.moved hW.alike hK, hD⟩, hS.F ht⟩) hS.2.2 d_Vt_up_17
  have hB_5 : ∀ (z_1 : Int32) (Y : CT) (G : CG) (S : CS) (H : Heap) (locs : List Loc) (ls : Array Slot), f_Vt_up_5 K z_1 G S = some (.ok r, G', S') → CG.le G0 G → va_P (dC, dI) classes (wV M Y G S) H → va_D A (wV M Y G S) → va_S A s.heap H locs → lv_has ls 2 [(0, .ref M.o_Vt)] → W p l e ({ frames := 8, cells := G'.gc - G0.gc, slots := G'.gs - G0.gs, locals := 224 }) s m ([.ref M.o_Vt] : List Value).toArray below meth c H locs (G.gc - G0.gc) (G.gs - G0.gs) Q (F0 m 5 ls [.int z_1, .ref M.o_Vt]) := by
    intro z_1 Y G S H locs ls h m0 hP hD hS hl
    have mF := mo_Vt_up_5 h
    rw [f_Vt_up_5] at h
    obtain ⟨r_2, G_2, S_2, hc_2, h⟩ := lf_aO h
    have mc := mo_Vt_readsInodes hc_2
    have ml_2 := mo_Vt_readsInodes hc_2
    have mF1 := mo_Vt_up_8 h
    have hFc := lx_free hD hS hA
    refine va_calli (va_runV (As := [.int z_1]) (rest := []) ⟨hx, hb, hml, hown, hts⟩ (l_Vt_readsInodes l dC dI X _ hc_2) (cwV 1 hts (gwV good_Vq (u_Vq_Vt _ k_Vt_111) (u_Vq_Vt _ k_Vt_112) (u_Vq_Vt _ k_Vt_215) (u_Vq_Vt _ k_Vt_0) (wcs (u_Vq_Vt _ k_Vt_113) (fun _ h => h))) rfl rfl rfl (by decide +kernel) ⟨Nat.le_of_ble_eq_true rfl, Nat.le_of_ble_eq_true rfl⟩) (pv_ofE (X.same _) (fun U z1 z2 => X.mono _ _ U hFc (hEw _ _ hS U z1 z2)) hP hK hD (va_recv hK hP (ci := 11) (q0 := 0) rfl rfl)) rfl rfl hl.1 rfl (lv_room (Nat.le_of_ble_eq_true rfl)) d_Vt_up_5 ⟨ly_c1 m0.1 mc.1 mF1.1, ly_c1 m0.2 mc.2 mF1.2⟩) hS (fun q _ h => hFc q h) hFc (fun r_ Y_2 t H locs ht hvm hw hB hz1 hk1 hS => ?_)
    rw [hw]
    obtain ⟨hP, -, hD⟩ := hB
    rw [ht] at hP
    have hD := lx_dj hD hFc
    refine W.widen (k := G_2.gc - G0.gc) (n := G_2.gs - G0.gs) (ly_c2 m0.1 mc.1) (ly_c2 m0.2 mc.2) ?_
    have m0 := CG.le_tr m0 mc
    exact hB_8 r_2 Y_2 G_2 S_2 _ _ _ h m0 hP hD hS (lv_sub hl [0] rfl)
  have m0 : CG.le G0 G0 := ⟨Nat.le_refl _, Nat.le_refl _⟩
  have mF := mo_Vt_up h
  refine W.widen (k := G0.gc - G0.gc) (n := G0.gs - G0.gs) (Nat.zero_le _) (Nat.zero_le _) ?_
  rw [f_Vt_up] at h
  refine lv_aload_n hx hb d_Vt_up_0 rfl (lv_at hl 0 rfl) ?_
  refine lv_aload_n hx hb d_Vt_up_1 rfl (lv_at hl 0 rfl) ?_
  obtain ⟨r_1, G_1, S_1, hc_1, h⟩ := lf_nE h
  have mc := mo_Vt_look hc_1
  have ml_1 := mo_Vt_look hc_1
  have mF1 := mo_Vt_up_5 h
  have hFc := lx_free hD hS hA
  refine va_calli (va_runV (As := []) (rest := [.ref M.o_Vt]) ⟨hx, hb, hml, hown, hts⟩ (l_Vt_look l dC dI X _ hc_1) (cwV 0 hts (gwV good_Vq (u_Vq_Vt _ k_Vt_68) (u_Vq_Vt _ k_Vt_69) (u_Vq_Vt _ k_Vt_214) (u_Vq_Vt _ k_Vt_0) (wcs (u_Vq_Vt _ k_Vt_70) (fun _ h => h))) rfl rfl rfl (by decide +kernel) ⟨Nat.le_of_ble_eq_true rfl, Nat.le_of_ble_eq_true rfl⟩) (pv_ofE (X.same _) (fun U z1 z2 => X.mono _ _ U hFc (hEw _ _ hS U z1 z2)) hP hK hD (va_recv hK hP (ci := 11) (q0 := 0) rfl rfl)) rfl rfl hl.1 rfl (lv_room (Nat.le_of_ble_eq_true rfl)) d_Vt_up_2 ⟨ly_c1 m0.1 mc.1 mF1.1, ly_c1 m0.2 mc.2 mF1.2⟩) hS (fun q _ h => hFc q h) hFc (fun r_ Y_1 t H locs ht hvm hw hB hz1 hk1 hS => ?_)
  rw [hw]
  obtain ⟨hP, -, hD⟩ := hB
  rw [ht] at hP
  have hD := lx_dj hD hFc
  refine W.widen (k := G_1.gc - G0.gc) (n := G_1.gs - G0.gs) (ly_c2 m0.1 mc.1) (ly_c2 m0.2 mc.2) ?_
  have m0 := CG.le_tr m0 mc
  exact hB_5 r_1 Y_1 G_1 S_1 _ _ _ h m0 hP hD hS (lv_sub hl [0] rfl)
set_option maxHeartbeats 4000000 in
set_option maxRecDepth 100000 in
theorem lt_Vt_up_1 (l : Launch) (hfl : l.flags = pinnedFlags ++ [noTraceFlag]) (dC : Nat → ClassId) (dI : Nat → Nat → Nat) {K : Nat} {M : CA} {E : (Nat → Prop) → State → Prop} (X : ly_X l dC dI K M E) (sz : Nat) {Y : CT} {G0 G' : CG} {S S' : CS} (h : f_Vt_up K G0 S = some (.error 1, G', S')) : MetX l y_Vt_up (.code y_Vt_up cb_Vt_up 2 (some .boolean) :: V_Vq) ({ frames := 8, cells := G'.gc - G0.gc, slots := G'.gs - G0.gs, locals := 224 }) (va_Pc [.ref M.o_Vt] (fun U => U.heap.size = sz ∧ at_ (dC, dI) (fun _ => True) (wV M Y G0 S) (tV M) U ∧ E (va_A (wV M Y G0 S) sz) U)) (fun _ _ _ _ => False) (x_Q "java/lang/IllegalStateException" (va_A (wV M Y G0 S) sz) (fun t => ∃ u : CT, at_ (dC, dI) (va_A (wV M Y G0 S) sz) (wV M u G' S') (tV M) t)) (G'.gc - G0.gc) (G'.gs - G0.gs) (va_A (wV M Y G0 S) sz) := by
  refine MetX.ofW (cc := cb_Vt_up) (maxL := 2) (ret := (some .boolean)) (by decide) rfl ?_
  intro p e s m args below meth c s₁ B hml hv
  obtain ⟨rfl, hsz, ⟨hP, hK, hD0⟩, hE⟩ := hv
  have hx := B.exec
  have hb := B.bytes
  have hr := B.returns
  have hts0 := atoms_spec (ws := .code y_Vt_up cb_Vt_up 2 (some .boolean) :: V_Vq) B.pre
  have hts : ∀ w ∈ V_Vq, w.before ([.ref M.o_Vt] : List Value).toArray s = true := fun w h => hts0 w (List.mem_cons_of_mem _ h)
  have hown : s.vm.findClass R_Vt = some m.cls := findClass_of_methodNamed B.named
  have hlocks := B.notSynchronized
  have hout := x_table B (hts0 _ List.mem_cons_self)
  subst hsz
  have hD := hD0.self (sz := s.heap.size)
  generalize hAe : va_A (wV M Y G0 S) s.heap.size = A at hD hE ⊢
  have hA : ∀ q : Nat, s.heap.size ≤ q → A q := fun q h => by rw [← hAe]; exact Or.inr h
  have hS : va_S A s.heap s.heap [] := va_S.rf
  have hP : va_P (dC, dI) classes (wV M Y G0 S) s.heap := hP
  have hK : va_K (dC, dI) classes (tV M) s := hK
  have hEw : ∀ (H : Heap) (locs : List Loc), va_S A s.heap H locs → ∀ U : State, U.heap = H → s.WarmedH U.vm → E A U := fun H locs hS U hU hW => X.kept A s U H locs hE hS hU hW
  have hl := lv_entry ([.ref M.o_Vt]) (n := 2) (Nat.le_of_ble_eq_true rfl)
  rw [lg_entry_eq]
  generalize (lg_sl ([.ref M.o_Vt]) ++ List.replicate (2 - (lg_sl ([.ref M.o_Vt])).length) Slot.unset).toArray = ls at hl ⊢
  have hl : lv_has ls 2 [(0, .ref M.o_Vt)] := hl
  refine qabs (fun Q hQ => ?_)
  have hB_48 : ∀ (z_1 : Int32) (Y : CT) (G : CG) (S : CS) (H : Heap) (locs : List Loc) (ls : Array Slot), f_Vt_up_48 K z_1 G S = some (.error 1, G', S') → CG.le G0 G → va_P (dC, dI) classes (wV M Y G S) H → va_D A (wV M Y G S) → va_S A s.heap H locs → lv_has ls 2 [] → W p l e ({ frames := 8, cells := G'.gc - G0.gc, slots := G'.gs - G0.gs, locals := 224 }) s m ([.ref M.o_Vt] : List Value).toArray below meth c H locs (G.gc - G0.gc) (G.gs - G0.gs) Q (F0 m 48 ls [.int z_1, .ref M.o_Vt]) := by
    intro z_1 Y G S H locs ls h m0 hP hD hS hl
    have mF := mo_Vt_up_48 h
    rw [f_Vt_up_48] at h
    refine va_put (D := (dC, dI)) (ci := 11) (v := .int z_1) (ty := .int) (C := R_Vt) (T := F_Vt) (N := 16) hx hb hts (fun w h => u_Vq_Vt w (i_Vt w h)) t_Vt t_Vt_ok n_Vt hown hK hP hD hS 0 rfl rfl 12 (by decide) (hts _ (u_Vq_Vt _ k_Vt_41)) (fun _ h9 => h9) rfl (by decide +kernel) rfl rfl (Nat.le_of_ble_eq_true rfl) d_Vt_up_48 (fun H locs hP hD hS => ?_)
    obtain ⟨S_7, eS_7, h⟩ := lf_lX h
    have hP := ly_newP eS_7 hP
    have hD := ly_newD eS_7 hD
    refine lv_iconst (v := 1) hx hb d_Vt_up_51 (by decide) ?_
    exact lf_xo h
  have hB_8 : ∀ (z_0 : Int32) (Y : CT) (G : CG) (S : CS) (H : Heap) (locs : List Loc) (ls : Array Slot), f_Vt_up_8 K z_0 G S = some (.error 1, G', S') → CG.le G0 G → va_P (dC, dI) classes (wV M Y G S) H → va_D A (wV M Y G S) → va_S A s.heap H locs → lv_has ls 2 [(0, .ref M.o_Vt)] → W p l e ({ frames := 8, cells := G'.gc - G0.gc, slots := G'.gs - G0.gs, locals := 224 }) s m ([.ref M.o_Vt] : List Value).toArray below meth c H locs (G.gc - G0.gc) (G.gs - G0.gs) Q (F0 m 8 ls [.int z_0]) := by
    intro z_0 Y G S H locs ls h m0 hP hD hS hl
    have mF := mo_Vt_up_8 h
    rw [f_Vt_up_8] at h
    refine lv_istore_n (lv' := [(1, .int z_0), (0, .ref M.o_Vt)]) hx hb d_Vt_up_8 rfl hl (by decide) rfl (fun ls hl => ?_)
    refine lv_aload_n hx hb d_Vt_up_9 rfl (lv_at hl 1 rfl) ?_
    refine va_get (D := (dC, dI)) (ci := 11) (v := .int S.v_Vt_here) (C := R_Vt) (T := F_Vt) (N := 16) hx hb hts (fun w h => u_Vq_Vt w (i_Vt w h)) hown hK hP 0 rfl rfl 12 (by decide) (hts _ (u_Vq_Vt _ k_Vt_41)) (fun _ h9 => h9) rfl d_Vt_up_10 ?_
    refine lv_if_ne (tgt := 18) hx hb d_Vt_up_13 (by decide) (fun c_3 => ?_) (fun c_3 => ?_)
    · have h := lf_f h c_3
      refine lv_aload_n hx hb d_Vt_up_18 rfl (lv_at hl 1 rfl) ?_
      refine lv_iload_n hx hb d_Vt_up_19 rfl (lv_at hl 0 rfl) ?_
      refine lv_if_eq (tgt := 37) hx hb d_Vt_up_20 (by decide) (fun c_4 => ?_) (fun c_4 => ?_)
      · have h := lf_t h c_4
        refine lv_aload_n hx hb d_Vt_up_37 rfl (lv_at hl 1 rfl) ?_
        refine va_get (D := (dC, dI)) (ci := 11) (v := .ref M.o_Tr) (C := R_Vt) (T := F_Vt) (N := 16) hx hb hts (fun w h => u_Vq_Vt w (i_Vt w h)) hown hK hP 0 rfl rfl 3 (by decide) (hts _ (u_Vq_Vt _ k_Vt_32)) (fun _ h9 => h9) rfl d_Vt_up_38 ?_
        refine lv_aload_n hx hb d_Vt_up_41 rfl (lv_at hl 1 rfl) ?_
        refine va_get (D := (dC, dI)) (ci := 11) (v := .int S.v_Vt_here) (C := R_Vt) (T := F_Vt) (N := 16) hx hb hts (fun w h => u_Vq_Vt w (i_Vt w h)) hown hK hP 0 rfl rfl 12 (by decide) (hts _ (u_Vq_Vt _ k_Vt_41)) (fun _ h9 => h9) rfl d_Vt_up_42 ?_
        obtain ⟨r_5, S_5, hc_5, h⟩ := lf_cE h
        have hFc := lx_free hD hS hA
        refine va_calli (va_runV (As := [.int S.v_Vt_here]) (rest := [.ref M.o_Vt]) ⟨hx, hb, hml, hown, hts⟩ (l_Tr_parentOf l dC dI X _ hc_5) (cwV 1 hts (gwV good_Vq (u_Vq_Vt _ k_Vt_162) (u_Vq_Tr _ k_Tr_51) (u_Vq_Tr _ k_Tr_52) (u_Vq_Tr _ k_Tr_0) (wcs (u_Vq_Tr _ k_Tr_53) (fun _ h => h))) rfl rfl rfl (by decide +kernel) ⟨Nat.le_of_ble_eq_true rfl, Nat.le_of_ble_eq_true rfl⟩) (pv_ofE (X.same _) (fun U z1 z2 => X.mono _ _ U hFc (hEw _ _ hS U z1 z2)) hP hK hD (va_recv hK hP (ci := 5) (q0 := 4) rfl rfl)) rfl rfl hl.1 rfl (lv_room (Nat.le_of_ble_eq_true rfl)) d_Vt_up_45 ⟨ly_c0 mF.1, ly_c0 mF.2⟩) hS (fun q _ h => hFc q h) hFc (fun r_ u t H locs ht hvm hw hB hz1 hk1 hS => ?_)
        rw [hw]
        obtain ⟨hP, -, hD⟩ := hB
        rw [ht] at hP
        have hD := lx_dj hD hFc
        exact hB_48 r_5 Y G S_5 _ _ _ h m0 hP hD hS (lv_sub hl [] rfl)
      · have h := lf_f h c_4
        refine lv_aload_n hx hb d_Vt_up_23 rfl (lv_at hl 1 rfl) ?_
        refine va_get (D := (dC, dI)) (ci := 11) (v := .ref M.o_In) (C := R_Vt) (T := F_Vt) (N := 16) hx hb hts (fun w h => u_Vq_Vt w (i_Vt w h)) hown hK hP 0 rfl rfl 8 (by decide) (hts _ (u_Vq_Vt _ k_Vt_37)) (fun _ h9 => h9) rfl d_Vt_up_24 ?_
        refine lv_aload_n hx hb d_Vt_up_27 rfl (lv_at hl 1 rfl) ?_
        refine va_get (D := (dC, dI)) (ci := 11) (v := .int S.v_Vt_here) (C := R_Vt) (T := F_Vt) (N := 16) hx hb hts (fun w h => u_Vq_Vt w (i_Vt w h)) hown hK hP 0 rfl rfl 12 (by decide) (hts _ (u_Vq_Vt _ k_Vt_41)) (fun _ h9 => h9) rfl d_Vt_up_28 ?_
        obtain ⟨r_6, S_6, hc_6, h⟩ := lf_cE h
        have hFc := lx_free hD hS hA
        refine va_calli (va_runV (As := [.int S.v_Vt_here]) (rest := [.ref M.o_Vt]) ⟨hx, hb, hml, hown, hts⟩ (l_In_parentOf l dC dI X _ hc_6) (cwV 1 hts (gwV good_Vq (u_Vq_Vt _ k_Vt_161) (u_Vq_In _ k_In_61) (u_Vq_In _ k_In_62) (u_Vq_In _ k_In_0) (wcs (u_Vq_In _ k_In_63) (fun _ h => h))) rfl rfl rfl (by decide +kernel) ⟨Nat.le_of_ble_eq_true rfl, Nat.le_of_ble_eq_true rfl⟩) (pv_ofE (X.same _) (fun U z1 z2 => X.mono _ _ U hFc (hEw _ _ hS U z1 z2)) hP hK hD (va_recv hK hP (ci := 6) (q0 := 9) rfl rfl)) rfl rfl hl.1 rfl (lv_room (Nat.le_of_ble_eq_true rfl)) d_Vt_up_31 ⟨ly_c0 mF.1, ly_c0 mF.2⟩) hS (fun q _ h => hFc q h) hFc (fun r_ u t H locs ht hvm hw hB hz1 hk1 hS => ?_)
        rw [hw]
        obtain ⟨hP, -, hD⟩ := hB
        rw [ht] at hP
        have hD := lx_dj hD hFc
        refine lv_goto (tgt := 48) hx hb d_Vt_up_34 (by decide) ?_
        exact hB_48 r_6 Y G S_6 _ _ _ h m0 hP hD hS (lv_sub hl [] rfl)
    · have h := lf_t h c_3
      refine lv_iconst (v := 0) hx hb d_Vt_up_16 (by decide) ?_
      exact lf_xo h
  have hB_5 : ∀ (z_1 : Int32) (Y : CT) (G : CG) (S : CS) (H : Heap) (locs : List Loc) (ls : Array Slot), f_Vt_up_5 K z_1 G S = some (.error 1, G', S') → CG.le G0 G → va_P (dC, dI) classes (wV M Y G S) H → va_D A (wV M Y G S) → va_S A s.heap H locs → lv_has ls 2 [(0, .ref M.o_Vt)] → W p l e ({ frames := 8, cells := G'.gc - G0.gc, slots := G'.gs - G0.gs, locals := 224 }) s m ([.ref M.o_Vt] : List Value).toArray below meth c H locs (G.gc - G0.gc) (G.gs - G0.gs) Q (F0 m 5 ls [.int z_1, .ref M.o_Vt]) := by
    intro z_1 Y G S H locs ls h m0 hP hD hS hl
    have mF := mo_Vt_up_5 h
    rw [f_Vt_up_5] at h
    rcases lf_aT h with ⟨r_2, G_2, S_2, hc_2, h⟩ | h9
    · have mc := mo_Vt_readsInodes hc_2
      have ml_2 := mo_Vt_readsInodes hc_2
      have mF1 := mo_Vt_up_8 h
      have hFc := lx_free hD hS hA
      refine va_calli (va_runV (As := [.int z_1]) (rest := []) ⟨hx, hb, hml, hown, hts⟩ (l_Vt_readsInodes l dC dI X _ hc_2) (cwV 1 hts (gwV good_Vq (u_Vq_Vt _ k_Vt_111) (u_Vq_Vt _ k_Vt_112) (u_Vq_Vt _ k_Vt_215) (u_Vq_Vt _ k_Vt_0) (wcs (u_Vq_Vt _ k_Vt_113) (fun _ h => h))) rfl rfl rfl (by decide +kernel) ⟨Nat.le_of_ble_eq_true rfl, Nat.le_of_ble_eq_true rfl⟩) (pv_ofE (X.same _) (fun U z1 z2 => X.mono _ _ U hFc (hEw _ _ hS U z1 z2)) hP hK hD (va_recv hK hP (ci := 11) (q0 := 0) rfl rfl)) rfl rfl hl.1 rfl (lv_room (Nat.le_of_ble_eq_true rfl)) d_Vt_up_5 ⟨ly_c1 m0.1 mc.1 mF1.1, ly_c1 m0.2 mc.2 mF1.2⟩) hS (fun q _ h => hFc q h) hFc (fun r_ Y_2 t H locs ht hvm hw hB hz1 hk1 hS => ?_)
      rw [hw]
      obtain ⟨hP, -, hD⟩ := hB
      rw [ht] at hP
      have hD := lx_dj hD hFc
      refine W.widen (k := G_2.gc - G0.gc) (n := G_2.gs - G0.gs) (ly_c2 m0.1 mc.1) (ly_c2 m0.2 mc.2) ?_
      have m0 := CG.le_tr m0 mc
      exact hB_8 r_2 Y_2 G_2 S_2 _ _ _ h m0 hP hD hS (lv_sub hl [0] rfl)
    · have mc := mo_Vt_readsInodes h9
      have hFc := lx_free hD hS hA
      rw [hQ]
      exact x_outV (n := 1) (As := [.int z_1]) (rest := []) (b := M.o_Vt) (st0 := [.int z_1, .ref M.o_Vt]) ⟨hx, hb, hml, hown, hts⟩ (lt_Vt_readsInodes_1 l hfl dC dI X _ h9) (cwV 1 hts (gwV good_Vq (u_Vq_Vt _ k_Vt_111) (u_Vq_Vt _ k_Vt_112) (u_Vq_Vt _ k_Vt_215) (u_Vq_Vt _ k_Vt_0) (wcs (u_Vq_Vt _ k_Vt_113) (fun _ h => h))) rfl rfl rfl (by decide +kernel) ⟨Nat.le_of_ble_eq_true rfl, Nat.le_of_ble_eq_true rfl⟩) (pv_ofE (X.same _) (fun U z1 z2 => X.mono _ _ U hFc (hEw _ _ hS U z1 z2)) hP hK hD (va_recv hK hP (ci := 11) (q0 := 0) rfl rfl)) rfl hl.1 rfl (Nat.le_of_ble_eq_true rfl) d_Vt_up_5 ⟨ly_c2 m0.1 mc.1, ly_c2 m0.2 mc.2⟩ hlocks hout ⟨ly_c2 m0.1 mc.1, ly_c2 m0.2 mc.2⟩ (fun E st t U z1 z2 z3 z4 z5 => ly_outQ hS hK hFc z1 z3 z4 z5) ⟨hS.2.2, fun z h => hFc z h⟩
  have m0 : CG.le G0 G0 := ⟨Nat.le_refl _, Nat.le_refl _⟩
  have mF := mo_Vt_up h
  refine W.widen (k := G0.gc - G0.gc) (n := G0.gs - G0.gs) (Nat.zero_le _) (Nat.zero_le _) ?_
  rw [f_Vt_up] at h
  refine lv_aload_n hx hb d_Vt_up_0 rfl (lv_at hl 0 rfl) ?_
  refine lv_aload_n hx hb d_Vt_up_1 rfl (lv_at hl 0 rfl) ?_
  obtain ⟨r_1, G_1, S_1, hc_1, h⟩ := lf_nE h
  have mc := mo_Vt_look hc_1
  have ml_1 := mo_Vt_look hc_1
  have mF1 := mo_Vt_up_5 h
  have hFc := lx_free hD hS hA
  refine va_calli (va_runV (As := []) (rest := [.ref M.o_Vt]) ⟨hx, hb, hml, hown, hts⟩ (l_Vt_look l dC dI X _ hc_1) (cwV 0 hts (gwV good_Vq (u_Vq_Vt _ k_Vt_68) (u_Vq_Vt _ k_Vt_69) (u_Vq_Vt _ k_Vt_214) (u_Vq_Vt _ k_Vt_0) (wcs (u_Vq_Vt _ k_Vt_70) (fun _ h => h))) rfl rfl rfl (by decide +kernel) ⟨Nat.le_of_ble_eq_true rfl, Nat.le_of_ble_eq_true rfl⟩) (pv_ofE (X.same _) (fun U z1 z2 => X.mono _ _ U hFc (hEw _ _ hS U z1 z2)) hP hK hD (va_recv hK hP (ci := 11) (q0 := 0) rfl rfl)) rfl rfl hl.1 rfl (lv_room (Nat.le_of_ble_eq_true rfl)) d_Vt_up_2 ⟨ly_c1 m0.1 mc.1 mF1.1, ly_c1 m0.2 mc.2 mF1.2⟩) hS (fun q _ h => hFc q h) hFc (fun r_ Y_1 t H locs ht hvm hw hB hz1 hk1 hS => ?_)
  rw [hw]
  obtain ⟨hP, -, hD⟩ := hB
  rw [ht] at hP
  have hD := lx_dj hD hFc
  refine W.widen (k := G_1.gc - G0.gc) (n := G_1.gs - G0.gs) (ly_c2 m0.1 mc.1) (ly_c2 m0.2 mc.2) ?_
  have m0 := CG.le_tr m0 mc
  exact hB_5 r_1 Y_1 G_1 S_1 _ _ _ h m0 hP hD hS (lv_sub hl [0] rfl)
set_option maxHeartbeats 4000000 in
set_option maxRecDepth 100000 in
theorem l_Vt_write (l : Launch) (dC : Nat → ClassId) (dI : Nat → Nat → Nat) {K : Nat} {M : CA} {E : (Nat → Prop) → State → Prop} (X : ly_X l dC dI K M E) (sz : Nat) {Y : CT} {G0 G' : CG} {S S' : CS} {p0 : Int32} {r : Int32} (h : f_Vt_write K G0 S p0 = some (.ok r, G', S')) : Met l y_Vt_write (.code y_Vt_write cb_Vt_write 7 (some .int) :: V_Vq) ({ frames := 8, cells := G'.gc - G0.gc, slots := G'.gs - G0.gs, locals := 224 }) (va_Pc [.ref M.o_Vt, .int p0] (fun U => U.heap.size = sz ∧ at_ (dC, dI) (fun _ => True) (wV M Y G0 S) (tV M) U ∧ E (va_A (wV M Y G0 S) sz) U)) (va_Qi (fun (r_ : Int32) (u : CT) => r_ = r) (fun (u : CT) t => at_ (dC, dI) (va_A (wV M Y G0 S) sz) (wV M u G' S') (tV M) t) (va_A (wV M Y G0 S) sz)) (G'.gc - G0.gc) (G'.gs - G0.gs) (va_A (wV M Y G0 S) sz) := by
  refine Met.ofW (cc := cb_Vt_write) (maxL := 7) (ret := (some .int)) (by decide) rfl ?_
  intro p e s m args below meth c s₁ B hml hv
  obtain ⟨rfl, hsz, ⟨hP, hK, hD0⟩, hE⟩ := hv
  have hx := B.exec
  have hb := B.bytes
  have hr := B.returns
  have hts0 := atoms_spec (ws := .code y_Vt_write cb_Vt_write 7 (some .int) :: V_Vq) B.pre
  have hts : ∀ w ∈ V_Vq, w.before ([.ref M.o_Vt, .int p0] : List Value).toArray s = true := fun w h => hts0 w (List.mem_cons_of_mem _ h)
  have hown : s.vm.findClass R_Vt = some m.cls := findClass_of_methodNamed B.named
  subst hsz
  have hD := hD0.self (sz := s.heap.size)
  generalize hAe : va_A (wV M Y G0 S) s.heap.size = A at hD hE ⊢
  have hA : ∀ q : Nat, s.heap.size ≤ q → A q := fun q h => by rw [← hAe]; exact Or.inr h
  have hS : va_S A s.heap s.heap [] := va_S.rf
  have hP : va_P (dC, dI) classes (wV M Y G0 S) s.heap := hP
  have hK : va_K (dC, dI) classes (tV M) s := hK
  have hEw : ∀ (H : Heap) (locs : List Loc), va_S A s.heap H locs → ∀ U : State, U.heap = H → s.WarmedH U.vm → E A U := fun H locs hS U hU hW => X.kept A s U H locs hE hS hU hW
  have hl := lv_entry ([.ref M.o_Vt, .int p0]) (n := 7) (Nat.le_of_ble_eq_true rfl)
  rw [lg_entry_eq]
  generalize (lg_sl ([.ref M.o_Vt, .int p0]) ++ List.replicate (7 - (lg_sl ([.ref M.o_Vt, .int p0])).length) Slot.unset).toArray = ls at hl ⊢
  have hl : lv_has ls 7 [(0, .ref M.o_Vt), (1, .int p0)] := hl
  refine qabs (fun Q hQ => ?_)
  have hB_46 : ∀ (k : Nat), ∀ (y_2 : Int32) (y_4 : Int32) (y_5 : Int32) (y_6 : Int32) (Y : CT) (G : CG) (S : CS) (H : Heap) (locs : List Loc) (ls : Array Slot), f_Vt_write_46 K k y_2 y_4 y_5 y_6 G S = some (.ok r, G', S') → CG.le G0 G → va_P (dC, dI) classes (wV M Y G S) H → va_D A (wV M Y G S) → va_S A s.heap H locs → lv_has ls 7 [(0, .ref M.o_Vt), (2, .int y_2), (4, .int y_4), (5, .int y_5), (6, .int y_6)] → W p l e ({ frames := 8, cells := G'.gc - G0.gc, slots := G'.gs - G0.gs, locals := 224 }) s m ([.ref M.o_Vt, .int p0] : List Value).toArray below meth c H locs (G.gc - G0.gc) (G.gs - G0.gs) Q (F0 m 46 ls []) := by
    intro k
    induction k with
    | zero => intro y_2 y_4 y_5 y_6 Y G S H locs ls h; exact lf_no h
    | succ k hr_46 =>
      intro y_2 y_4 y_5 y_6 Y G S H locs ls h m0 hP hD hS hl
      have mF := mo_Vt_write_46 (k + 1) y_2 y_4 y_5 y_6 G S h
      have hm_46 : ∀ (y_2 : Int32) (y_4 : Int32) (y_5 : Int32) (y_6 : Int32) (G : CG) (S : CS) {x : Except Nat Int32} {G1 : CG} {S1 : CS}, f_Vt_write_46 K k y_2 y_4 y_5 y_6 G S = some (x, G1, S1) → CG.le G G1 := fun y_2 y_4 y_5 y_6 G S => mo_Vt_write_46 k y_2 y_4 y_5 y_6 G S
      rw [f_Vt_write_46] at h
      refine lv_iload hx hb d_Vt_write_46 (lv_at hl 4 rfl) ?_
      refine lv_iload_n hx hb d_Vt_write_48 rfl (lv_at hl 1 rfl) ?_
      refine lv_icmp_ge (tgt := 92) hx hb d_Vt_write_49 (by decide) (fun c_7 => ?_) (fun c_7 => ?_)
      · have h := lf_t h c_7
        refine lv_iload hx hb d_Vt_write_92 (lv_at hl 2 rfl) ?_
        refine lv_iload_n hx hb d_Vt_write_94 rfl (lv_at hl 1 rfl) ?_
        refine lv_iadd hx hb d_Vt_write_95 ?_
        rw [hQ]
        have e1 : (y_4 + y_2) = r := Except.ok.inj (congrArg (fun z => z.1) (Option.some.inj h))
        have e2 : G = G' := congrArg (fun z => z.2.1) (Option.some.inj h)
        have e3 : S = S' := congrArg (fun z => z.2.2) (Option.some.inj h)
        have hP := ly_newP3 e2.symm e3.symm hP
        have hD := ly_newD3 e2.symm e3.symm hD
        refine W.widen (k := G'.gc - G0.gc) (n := G'.gs - G0.gs) (ly_wc e2) (ly_ws e2) ?_
        exact W.iret (v := (y_4 + y_2)) hx hb hr (fun t ht hW => ⟨⟨(y_4 + y_2), Y, rfl, e1, by rw [ht]; exact hP, va_K.moved hW.alike hK, hD⟩, hS.F ht⟩) hS.2.2 d_Vt_write_96
      · have h := lf_f h c_7
        refine lv_aload_n hx hb d_Vt_write_52 rfl (lv_at hl 0 rfl) ?_
        refine va_get (D := (dC, dI)) (ci := 11) (v := .ref M.o_Ed) (C := R_Vt) (T := F_Vt) (N := 16) hx hb hts (fun w h => u_Vq_Vt w (i_Vt w h)) hown hK hP 0 rfl rfl 5 (by decide) (hts _ (u_Vq_Vt _ k_Vt_34)) (fun _ h9 => h9) rfl d_Vt_write_53 ?_
        refine lv_iload hx hb d_Vt_write_56 (lv_at hl 3 rfl) ?_
        refine lv_iload hx hb d_Vt_write_58 (lv_at hl 2 rfl) ?_
        refine lv_iload hx hb d_Vt_write_60 (lv_at hl 4 rfl) ?_
        refine lv_iadd hx hb d_Vt_write_62 ?_
        obtain ⟨r_8, S_8, hc_8, h⟩ := lf_cE h
        have hFc := lx_free hD hS hA
        refine va_calli (va_runV (As := [.int y_5, .int (y_4 + y_6)]) (rest := []) ⟨hx, hb, hml, hown, hts⟩ (l_Ed_placeBehind l dC dI X _ hc_8) (cwV 2 hts (gwV good_Vq (u_Vq_Vt _ k_Vt_188) (u_Vq_Ed _ k_Ed_116) (u_Vq_Ed _ k_Ed_117) (u_Vq_Ed _ k_Ed_0) (wcs (u_Vq_Ed _ k_Ed_118) (fun _ h => h))) rfl rfl rfl (by decide +kernel) ⟨Nat.le_of_ble_eq_true rfl, Nat.le_of_ble_eq_true rfl⟩) (pv_ofE (X.same _) (fun U z1 z2 => X.mono _ _ U hFc (hEw _ _ hS U z1 z2)) hP hK hD (va_recv hK hP (ci := 8) (q0 := 6) rfl rfl)) rfl rfl hl.1 rfl (lv_room (Nat.le_of_ble_eq_true rfl)) d_Vt_write_63 ⟨ly_c0 mF.1, ly_c0 mF.2⟩) hS (fun q _ h => hFc q h) hFc (fun r_ u t H locs ht hvm hw hB hz1 hk1 hS => ?_)
        rw [hw]
        obtain ⟨hP, -, hD⟩ := hB
        rw [ht] at hP
        have hD := lx_dj hD hFc
        refine lv_istore (lv' := [(5, .int r_8), (0, .ref M.o_Vt), (2, .int y_2), (4, .int y_4), (6, .int y_6)]) hx hb d_Vt_write_66 hl (by decide) rfl (fun ls hl => ?_)
        refine lv_aload_n hx hb d_Vt_write_68 rfl (lv_at hl 1 rfl) ?_
        refine va_get (D := (dC, dI)) (ci := 11) (v := .ref M.o_Dk) (C := R_Vt) (T := F_Vt) (N := 16) hx hb hts (fun w h => u_Vq_Vt w (i_Vt w h)) hown hK hP 0 rfl rfl 0 (by decide) (hts _ (u_Vq_Vt _ k_Vt_29)) (fun _ h9 => h9) rfl d_Vt_write_69 ?_
        refine lv_iload hx hb d_Vt_write_72 (lv_at hl 0 rfl) ?_
        refine lv_aload_n hx hb d_Vt_write_74 rfl (lv_at hl 1 rfl) ?_
        refine va_get (D := (dC, dI)) (ci := 11) (v := .ref M.o_Tp) (C := R_Vt) (T := F_Vt) (N := 16) hx hb hts (fun w h => u_Vq_Vt w (i_Vt w h)) hown hK hP 0 rfl rfl 1 (by decide) (hts _ (u_Vq_Vt _ k_Vt_30)) (fun _ h9 => h9) rfl d_Vt_write_75 ?_
        refine lv_iload hx hb d_Vt_write_78 (lv_at hl 4 rfl) ?_
        obtain ⟨r_9, S_9, hc_9, h⟩ := lf_cE h
        have hFc := lx_free hD hS hA
        refine va_calli (va_runV (As := [.int y_6]) (rest := [.int r_8, .ref M.o_Dk]) ⟨hx, hb, hml, hown, hts⟩ (l_Tp_one l dC dI X _ hc_9) (cwV 1 hts (gwV good_Vq (u_Vq_Vt _ k_Vt_189) (u_Vq_Tp _ k_Tp_23) (u_Vq_Tp _ k_Tp_24) (u_Vq_Tp _ k_Tp_0) (wcs (u_Vq_Tp _ k_Tp_25) (fun _ h => h))) rfl rfl rfl (by decide +kernel) ⟨Nat.le_of_ble_eq_true rfl, Nat.le_of_ble_eq_true rfl⟩) (pv_ofE (X.same _) (fun U z1 z2 => X.mono _ _ U hFc (hEw _ _ hS U z1 z2)) hP hK hD (va_recv hK hP (ci := 3) (q0 := 2) rfl rfl)) rfl rfl hl.1 rfl (lv_room (Nat.le_of_ble_eq_true rfl)) d_Vt_write_80 ⟨ly_c0 mF.1, ly_c0 mF.2⟩) hS (fun q _ h => hFc q h) hFc (fun r_ u t H locs ht hvm hw hB hz1 hk1 hS => ?_)
        rw [hw]
        obtain ⟨hP, -, hD⟩ := hB
        rw [ht] at hP
        have hD := lx_dj hD hFc
        obtain ⟨S_10, hc_10, h⟩ := lf_bE h
        have hFc := lx_free hD hS hA
        refine va_callv (va_runV (As := [.int r_8, .int r_9]) (rest := []) ⟨hx, hb, hml, hown, hts⟩ (l_Dk_putOne l dC dI X _ hc_10) (cwV 2 hts (gwV good_Vq (u_Vq_Vt _ k_Vt_61) (u_Vq_Dk _ k_Dk_11) (u_Vq_Dk _ k_Dk_12) (u_Vq_Dk _ k_Dk_0) (wcs (u_Vq_Dk _ k_Dk_13) (fun _ h => h))) rfl rfl rfl (by decide +kernel) ⟨Nat.le_of_ble_eq_true rfl, Nat.le_of_ble_eq_true rfl⟩) (pv_ofE (X.same _) (fun U z1 z2 => X.mono _ _ U hFc (hEw _ _ hS U z1 z2)) hP hK hD (va_recv hK hP (ci := 0) (q0 := 1) rfl rfl)) rfl rfl hl.1 rfl (lv_room (Nat.le_of_ble_eq_true rfl)) d_Vt_write_83 ⟨ly_c0 mF.1, ly_c0 mF.2⟩) hS (fun q _ h => hFc q h) hFc (fun u t H locs ht hvm hw hB hz1 hk1 hS => ?_)
        obtain ⟨hP, -, hD⟩ := hB
        rw [ht] at hP
        have hD := lx_dj hD hFc
        obtain ⟨x_11, ex_11, h⟩ := lf_lX h
        refine lv_iinc (v := x_11) (lv' := [(6, .int x_11), (5, .int r_8), (0, .ref M.o_Vt), (2, .int y_2), (4, .int y_4)]) hx hb d_Vt_write_86 hl (k := 4) rfl (by rw [ex_11]; rfl) (by decide) rfl (fun ls hl => ?_)
        refine lv_goto (tgt := 46) hx hb d_Vt_write_89 (by decide) ?_
        exact hr_46 y_2 y_4 r_8 x_11 Y G S_10 _ _ _ h m0 hP hD hS (lv_sub hl [2, 3, 4, 1, 0] rfl)
  have hB_28 : ∀ (y_2 : Int32) (z_0 : Int32) (Y : CT) (G : CG) (S : CS) (H : Heap) (locs : List Loc) (ls : Array Slot), f_Vt_write_28 K y_2 z_0 G S = some (.ok r, G', S') → CG.le G0 G → va_P (dC, dI) classes (wV M Y G S) H → va_D A (wV M Y G S) → va_S A s.heap H locs → lv_has ls 7 [(0, .ref M.o_Vt), (2, .int y_2)] → W p l e ({ frames := 8, cells := G'.gc - G0.gc, slots := G'.gs - G0.gs, locals := 224 }) s m ([.ref M.o_Vt, .int p0] : List Value).toArray below meth c H locs (G.gc - G0.gc) (G.gs - G0.gs) Q (F0 m 28 ls [.int z_0]) := by
    intro y_2 z_0 Y G S H locs ls h m0 hP hD hS hl
    have mF := mo_Vt_write_28 h
    rw [f_Vt_write_28] at h
    refine lv_istore (lv' := [(4, .int z_0), (0, .ref M.o_Vt), (2, .int y_2)]) hx hb d_Vt_write_28 hl (by decide) rfl (fun ls hl => ?_)
    refine lv_aload_n hx hb d_Vt_write_30 rfl (lv_at hl 1 rfl) ?_
    refine va_get (D := (dC, dI)) (ci := 11) (v := .ref M.o_Ed) (C := R_Vt) (T := F_Vt) (N := 16) hx hb hts (fun w h => u_Vq_Vt w (i_Vt w h)) hown hK hP 0 rfl rfl 5 (by decide) (hts _ (u_Vq_Vt _ k_Vt_34)) (fun _ h9 => h9) rfl d_Vt_write_31 ?_
    refine lv_iload hx hb d_Vt_write_34 (lv_at hl 0 rfl) ?_
    refine lv_iconst (v := 1) hx hb d_Vt_write_36 (by decide) ?_
    refine lv_isub hx hb d_Vt_write_37 ?_
    obtain ⟨r_6, S_6, hc_6, h⟩ := lf_cE h
    have hFc := lx_free hD hS hA
    refine va_calli (va_runV (As := [.int (z_0 - 1)]) (rest := []) ⟨hx, hb, hml, hown, hts⟩ (l_Ed_placeOnRoad l dC dI X _ hc_6) (cwV 1 hts (gwV good_Vq (u_Vq_Vt _ k_Vt_187) (u_Vq_Ed _ k_Ed_33) (u_Vq_Ed _ k_Ed_34) (u_Vq_Ed _ k_Ed_0) (wcs (u_Vq_Ed _ k_Ed_35) (fun _ h => h))) rfl rfl rfl (by decide +kernel) ⟨Nat.le_of_ble_eq_true rfl, Nat.le_of_ble_eq_true rfl⟩) (pv_ofE (X.same _) (fun U z1 z2 => X.mono _ _ U hFc (hEw _ _ hS U z1 z2)) hP hK hD (va_recv hK hP (ci := 8) (q0 := 6) rfl rfl)) rfl rfl hl.1 rfl (lv_room (Nat.le_of_ble_eq_true rfl)) d_Vt_write_38 ⟨ly_c0 mF.1, ly_c0 mF.2⟩) hS (fun q _ h => hFc q h) hFc (fun r_ u t H locs ht hvm hw hB hz1 hk1 hS => ?_)
    rw [hw]
    obtain ⟨hP, -, hD⟩ := hB
    rw [ht] at hP
    have hD := lx_dj hD hFc
    refine lv_istore (lv' := [(5, .int r_6), (4, .int z_0), (0, .ref M.o_Vt), (2, .int y_2)]) hx hb d_Vt_write_41 hl (by decide) rfl (fun ls hl => ?_)
    refine lv_iconst (v := 0) hx hb d_Vt_write_43 (by decide) ?_
    refine lv_istore (lv' := [(6, .int 0), (5, .int r_6), (4, .int z_0), (0, .ref M.o_Vt), (2, .int y_2)]) hx hb d_Vt_write_44 hl (by decide) rfl (fun ls hl => ?_)
    exact hB_46 K y_2 z_0 r_6 0 Y G S_6 _ _ _ h m0 hP hD hS (lv_sub hl [3, 4, 2, 1, 0] rfl)
  have hB_21 : ∀ (y_2 : Int32) (z_0 : Int32) (Y : CT) (G : CG) (S : CS) (H : Heap) (locs : List Loc) (ls : Array Slot), f_Vt_write_21 K y_2 z_0 G S = some (.ok r, G', S') → CG.le G0 G → va_P (dC, dI) classes (wV M Y G S) H → va_D A (wV M Y G S) → va_S A s.heap H locs → lv_has ls 7 [(0, .ref M.o_Vt), (2, .int y_2)] → W p l e ({ frames := 8, cells := G'.gc - G0.gc, slots := G'.gs - G0.gs, locals := 224 }) s m ([.ref M.o_Vt, .int p0] : List Value).toArray below meth c H locs (G.gc - G0.gc) (G.gs - G0.gs) Q (F0 m 21 ls [.int z_0]) := by
    intro y_2 z_0 Y G S H locs ls h m0 hP hD hS hl
    have mF := mo_Vt_write_21 h
    rw [f_Vt_write_21] at h
    refine lv_istore_n (lv' := [(3, .int z_0), (0, .ref M.o_Vt), (2, .int y_2)]) hx hb d_Vt_write_21 rfl hl (by decide) rfl (fun ls hl => ?_)
    refine lv_aload_n hx hb d_Vt_write_22 rfl (lv_at hl 1 rfl) ?_
    refine lv_iload_n hx hb d_Vt_write_23 rfl (lv_at hl 0 rfl) ?_
    refine lv_iload_n hx hb d_Vt_write_24 rfl (lv_at hl 2 rfl) ?_
    obtain ⟨r_5, G_5, S_5, hc_5, h⟩ := lf_aO h
    have mc := mo_Vt_lengthen hc_5
    have ml_5 := mo_Vt_lengthen hc_5
    have mF1 := mo_Vt_write_28 h
    have hFc := lx_free hD hS hA
    refine va_calli (va_runV (As := [.int z_0, .int y_2]) (rest := []) ⟨hx, hb, hml, hown, hts⟩ (l_Vt_lengthen l dC dI X _ hc_5) (cwV 2 hts (gwV good_Vq (u_Vq_Vt _ k_Vt_182) (u_Vq_Vt _ k_Vt_183) (u_Vq_Vt _ k_Vt_220) (u_Vq_Vt _ k_Vt_0) (wcs (u_Vq_Vt _ k_Vt_184) (fun _ h => h))) rfl rfl rfl (by decide +kernel) ⟨Nat.le_of_ble_eq_true rfl, Nat.le_of_ble_eq_true rfl⟩) (pv_ofE (X.same _) (fun U z1 z2 => X.mono _ _ U hFc (hEw _ _ hS U z1 z2)) hP hK hD (va_recv hK hP (ci := 11) (q0 := 0) rfl rfl)) rfl rfl hl.1 rfl (lv_room (Nat.le_of_ble_eq_true rfl)) d_Vt_write_25 ⟨ly_c1 m0.1 mc.1 mF1.1, ly_c1 m0.2 mc.2 mF1.2⟩) hS (fun q _ h => hFc q h) hFc (fun r_ Y_5 t H locs ht hvm hw hB hz1 hk1 hS => ?_)
    rw [hw]
    obtain ⟨hP, -, hD⟩ := hB
    rw [ht] at hP
    have hD := lx_dj hD hFc
    refine W.widen (k := G_5.gc - G0.gc) (n := G_5.gs - G0.gs) (ly_c2 m0.1 mc.1) (ly_c2 m0.2 mc.2) ?_
    have m0 := CG.le_tr m0 mc
    exact hB_28 y_2 r_5 Y_5 G_5 S_5 _ _ _ h m0 hP hD hS (lv_sub hl [1, 2] rfl)
  have hB_16 : ∀ (y_1 : Int32) (y_2 : Int32) (Y : CT) (G : CG) (S : CS) (H : Heap) (locs : List Loc) (ls : Array Slot), f_Vt_write_16 K y_1 y_2 G S = some (.ok r, G', S') → CG.le G0 G → va_P (dC, dI) classes (wV M Y G S) H → va_D A (wV M Y G S) → va_S A s.heap H locs → lv_has ls 7 [(0, .ref M.o_Vt), (1, .int y_1), (2, .int y_2)] → W p l e ({ frames := 8, cells := G'.gc - G0.gc, slots := G'.gs - G0.gs, locals := 224 }) s m ([.ref M.o_Vt, .int p0] : List Value).toArray below meth c H locs (G.gc - G0.gc) (G.gs - G0.gs) Q (F0 m 16 ls []) := by
    intro y_1 y_2 Y G S H locs ls h m0 hP hD hS hl
    have mF := mo_Vt_write_16 h
    rw [f_Vt_write_16] at h
    refine lv_aload_n hx hb d_Vt_write_16 rfl (lv_at hl 0 rfl) ?_
    refine lv_iload_n hx hb d_Vt_write_17 rfl (lv_at hl 1 rfl) ?_
    obtain ⟨r_4, G_4, S_4, hc_4, h⟩ := lf_aO h
    have mc := mo_Vt_fileHere hc_4
    have ml_4 := mo_Vt_fileHere hc_4
    have mF1 := mo_Vt_write_21 h
    have hFc := lx_free hD hS hA
    refine va_calli (va_runV (As := [.int y_1]) (rest := []) ⟨hx, hb, hml, hown, hts⟩ (l_Vt_fileHere l dC dI X _ hc_4) (cwV 1 hts (gwV good_Vq (u_Vq_Vt _ k_Vt_179) (u_Vq_Vt _ k_Vt_180) (u_Vq_Vt _ k_Vt_219) (u_Vq_Vt _ k_Vt_0) (wcs (u_Vq_Vt _ k_Vt_181) (fun _ h => h))) rfl rfl rfl (by decide +kernel) ⟨Nat.le_of_ble_eq_true rfl, Nat.le_of_ble_eq_true rfl⟩) (pv_ofE (X.same _) (fun U z1 z2 => X.mono _ _ U hFc (hEw _ _ hS U z1 z2)) hP hK hD (va_recv hK hP (ci := 11) (q0 := 0) rfl rfl)) rfl rfl hl.1 rfl (lv_room (Nat.le_of_ble_eq_true rfl)) d_Vt_write_18 ⟨ly_c1 m0.1 mc.1 mF1.1, ly_c1 m0.2 mc.2 mF1.2⟩) hS (fun q _ h => hFc q h) hFc (fun r_ Y_4 t H locs ht hvm hw hB hz1 hk1 hS => ?_)
    rw [hw]
    obtain ⟨hP, -, hD⟩ := hB
    rw [ht] at hP
    have hD := lx_dj hD hFc
    refine W.widen (k := G_4.gc - G0.gc) (n := G_4.gs - G0.gs) (ly_c2 m0.1 mc.1) (ly_c2 m0.2 mc.2) ?_
    have m0 := CG.le_tr m0 mc
    exact hB_21 y_2 r_4 Y_4 G_4 S_4 _ _ _ h m0 hP hD hS (lv_sub hl [0, 2] rfl)
  have hB_13 : ∀ (y_1 : Int32) (y_2 : Int32) (z_1 : Int32) (Y : CT) (G : CG) (S : CS) (H : Heap) (locs : List Loc) (ls : Array Slot), f_Vt_write_13 K y_1 y_2 z_1 G S = some (.ok r, G', S') → CG.le G0 G → va_P (dC, dI) classes (wV M Y G S) H → va_D A (wV M Y G S) → va_S A s.heap H locs → lv_has ls 7 [(0, .ref M.o_Vt), (1, .int y_1), (2, .int y_2)] → W p l e ({ frames := 8, cells := G'.gc - G0.gc, slots := G'.gs - G0.gs, locals := 224 }) s m ([.ref M.o_Vt, .int p0] : List Value).toArray below meth c H locs (G.gc - G0.gc) (G.gs - G0.gs) Q (F0 m 13 ls [.int z_1, .ref M.o_Vt]) := by
    intro y_1 y_2 z_1 Y G S H locs ls h m0 hP hD hS hl
    have mF := mo_Vt_write_13 h
    rw [f_Vt_write_13] at h
    obtain ⟨r_3, G_3, S_3, hc_3, h⟩ := lf_aO h
    have mc := mo_Vt_wantSoundTable hc_3
    have ml_3 := mo_Vt_wantSoundTable hc_3
    have mF1 := mo_Vt_write_16 h
    have hFc := lx_free hD hS hA
    refine va_callv (va_runV (As := [.int z_1]) (rest := []) ⟨hx, hb, hml, hown, hts⟩ (l_Vt_wantSoundTable l dC dI X _ hc_3) (cwV 1 hts (gwV good_Vq (u_Vq_Vt _ k_Vt_166) (u_Vq_Vt _ k_Vt_167) (u_Vq_Vt _ k_Vt_216) (u_Vq_Vt _ k_Vt_0) (wcs (u_Vq_Vt _ k_Vt_168) (fun _ h => h))) rfl rfl rfl (by decide +kernel) ⟨Nat.le_of_ble_eq_true rfl, Nat.le_of_ble_eq_true rfl⟩) (pv_ofE (X.same _) (fun U z1 z2 => X.mono _ _ U hFc (hEw _ _ hS U z1 z2)) hP hK hD (va_recv hK hP (ci := 11) (q0 := 0) rfl rfl)) rfl rfl hl.1 rfl (lv_room (Nat.le_of_ble_eq_true rfl)) d_Vt_write_13 ⟨ly_c1 m0.1 mc.1 mF1.1, ly_c1 m0.2 mc.2 mF1.2⟩) hS (fun q _ h => hFc q h) hFc (fun Y_3 t H locs ht hvm hw hB hz1 hk1 hS => ?_)
    obtain ⟨hP, -, hD⟩ := hB
    rw [ht] at hP
    have hD := lx_dj hD hFc
    refine W.widen (k := G_3.gc - G0.gc) (n := G_3.gs - G0.gs) (ly_c2 m0.1 mc.1) (ly_c2 m0.2 mc.2) ?_
    have m0 := CG.le_tr m0 mc
    exact hB_16 y_1 y_2 Y_3 G_3 S_3 _ _ _ h m0 hP hD hS (lv_sub hl [0, 1, 2] rfl)
  have m0 : CG.le G0 G0 := ⟨Nat.le_refl _, Nat.le_refl _⟩
  have mF := mo_Vt_write h
  refine W.widen (k := G0.gc - G0.gc) (n := G0.gs - G0.gs) (Nat.zero_le _) (Nat.zero_le _) ?_
  rw [f_Vt_write] at h
  refine lv_aload_n hx hb d_Vt_write_0 rfl (lv_at hl 0 rfl) ?_
  refine va_get (D := (dC, dI)) (ci := 11) (v := .ref M.o_Tp) (C := R_Vt) (T := F_Vt) (N := 16) hx hb hts (fun w h => u_Vq_Vt w (i_Vt w h)) hown hK hP 0 rfl rfl 1 (by decide) (hts _ (u_Vq_Vt _ k_Vt_30)) (fun _ h9 => h9) rfl d_Vt_write_1 ?_
  obtain ⟨r_1, S_1, hc_1, h⟩ := lf_cE h
  have hFc := lx_free hD hS hA
  refine va_calli (va_runV (As := []) (rest := []) ⟨hx, hb, hml, hown, hts⟩ (l_Tp_useUp l dC dI X _ hc_1) (cwV 0 hts (gwV good_Vq (u_Vq_Vt _ k_Vt_56) (u_Vq_Tp _ k_Tp_16) (u_Vq_Tp _ k_Tp_17) (u_Vq_Tp _ k_Tp_0) (wcs (u_Vq_Tp _ k_Tp_18) (fun _ h => h))) rfl rfl rfl (by decide +kernel) ⟨Nat.le_of_ble_eq_true rfl, Nat.le_of_ble_eq_true rfl⟩) (pv_ofE (X.same _) (fun U z1 z2 => X.mono _ _ U hFc (hEw _ _ hS U z1 z2)) hP hK hD (va_recv hK hP (ci := 3) (q0 := 2) rfl rfl)) rfl rfl hl.1 rfl (lv_room (Nat.le_of_ble_eq_true rfl)) d_Vt_write_4 ⟨ly_c0 mF.1, ly_c0 mF.2⟩) hS (fun q _ h => hFc q h) hFc (fun r_ u t H locs ht hvm hw hB hz1 hk1 hS => ?_)
  rw [hw]
  obtain ⟨hP, -, hD⟩ := hB
  rw [ht] at hP
  have hD := lx_dj hD hFc
  refine lv_istore_n (lv' := [(2, .int r_1), (0, .ref M.o_Vt), (1, .int p0)]) hx hb d_Vt_write_7 rfl hl (by decide) rfl (fun ls hl => ?_)
  refine lv_aload_n hx hb d_Vt_write_8 rfl (lv_at hl 1 rfl) ?_
  refine lv_aload_n hx hb d_Vt_write_9 rfl (lv_at hl 1 rfl) ?_
  obtain ⟨r_2, G_2, S_2, hc_2, h⟩ := lf_nE h
  have mc := mo_Vt_look hc_2
  have ml_2 := mo_Vt_look hc_2
  have mF1 := mo_Vt_write_13 h
  have hFc := lx_free hD hS hA
  refine va_calli (va_runV (As := []) (rest := [.ref M.o_Vt]) ⟨hx, hb, hml, hown, hts⟩ (l_Vt_look l dC dI X _ hc_2) (cwV 0 hts (gwV good_Vq (u_Vq_Vt _ k_Vt_68) (u_Vq_Vt _ k_Vt_69) (u_Vq_Vt _ k_Vt_214) (u_Vq_Vt _ k_Vt_0) (wcs (u_Vq_Vt _ k_Vt_70) (fun _ h => h))) rfl rfl rfl (by decide +kernel) ⟨Nat.le_of_ble_eq_true rfl, Nat.le_of_ble_eq_true rfl⟩) (pv_ofE (X.same _) (fun U z1 z2 => X.mono _ _ U hFc (hEw _ _ hS U z1 z2)) hP hK hD (va_recv hK hP (ci := 11) (q0 := 0) rfl rfl)) rfl rfl hl.1 rfl (lv_room (Nat.le_of_ble_eq_true rfl)) d_Vt_write_10 ⟨ly_c1 m0.1 mc.1 mF1.1, ly_c1 m0.2 mc.2 mF1.2⟩) hS (fun q _ h => hFc q h) hFc (fun r_ Y_2 t H locs ht hvm hw hB hz1 hk1 hS => ?_)
  rw [hw]
  obtain ⟨hP, -, hD⟩ := hB
  rw [ht] at hP
  have hD := lx_dj hD hFc
  refine W.widen (k := G_2.gc - G0.gc) (n := G_2.gs - G0.gs) (ly_c2 m0.1 mc.1) (ly_c2 m0.2 mc.2) ?_
  have m0 := CG.le_tr m0 mc
  exact hB_13 p0 r_1 r_2 Y_2 G_2 S_2 _ _ _ h m0 hP hD hS (lv_sub hl [1, 2, 0] rfl)
set_option maxHeartbeats 4000000 in
set_option maxRecDepth 100000 in
theorem lt_Vt_write_0 (l : Launch) (hfl : l.flags = pinnedFlags ++ [noTraceFlag]) (dC : Nat → ClassId) (dI : Nat → Nat → Nat) {K : Nat} {M : CA} {E : (Nat → Prop) → State → Prop} (X : ly_X l dC dI K M E) (sz : Nat) {Y : CT} {G0 G' : CG} {S S' : CS} {p0 : Int32} (h : f_Vt_write K G0 S p0 = some (.error 0, G', S')) : MetX l y_Vt_write (.code y_Vt_write cb_Vt_write 7 (some .int) :: V_Vq) ({ frames := 8, cells := G'.gc - G0.gc, slots := G'.gs - G0.gs, locals := 224 }) (va_Pc [.ref M.o_Vt, .int p0] (fun U => U.heap.size = sz ∧ at_ (dC, dI) (fun _ => True) (wV M Y G0 S) (tV M) U ∧ E (va_A (wV M Y G0 S) sz) U)) (fun _ _ _ _ => False) (x_Q "java/lang/IllegalArgumentException" (va_A (wV M Y G0 S) sz) (fun t => ∃ u : CT, at_ (dC, dI) (va_A (wV M Y G0 S) sz) (wV M u G' S') (tV M) t)) (G'.gc - G0.gc) (G'.gs - G0.gs) (va_A (wV M Y G0 S) sz) := by
  refine MetX.ofW (cc := cb_Vt_write) (maxL := 7) (ret := (some .int)) (by decide) rfl ?_
  intro p e s m args below meth c s₁ B hml hv
  obtain ⟨rfl, hsz, ⟨hP, hK, hD0⟩, hE⟩ := hv
  have hx := B.exec
  have hb := B.bytes
  have hr := B.returns
  have hts0 := atoms_spec (ws := .code y_Vt_write cb_Vt_write 7 (some .int) :: V_Vq) B.pre
  have hts : ∀ w ∈ V_Vq, w.before ([.ref M.o_Vt, .int p0] : List Value).toArray s = true := fun w h => hts0 w (List.mem_cons_of_mem _ h)
  have hown : s.vm.findClass R_Vt = some m.cls := findClass_of_methodNamed B.named
  have hlocks := B.notSynchronized
  have hout := x_table B (hts0 _ List.mem_cons_self)
  subst hsz
  have hD := hD0.self (sz := s.heap.size)
  generalize hAe : va_A (wV M Y G0 S) s.heap.size = A at hD hE ⊢
  have hA : ∀ q : Nat, s.heap.size ≤ q → A q := fun q h => by rw [← hAe]; exact Or.inr h
  have hS : va_S A s.heap s.heap [] := va_S.rf
  have hP : va_P (dC, dI) classes (wV M Y G0 S) s.heap := hP
  have hK : va_K (dC, dI) classes (tV M) s := hK
  have hEw : ∀ (H : Heap) (locs : List Loc), va_S A s.heap H locs → ∀ U : State, U.heap = H → s.WarmedH U.vm → E A U := fun H locs hS U hU hW => X.kept A s U H locs hE hS hU hW
  have hl := lv_entry ([.ref M.o_Vt, .int p0]) (n := 7) (Nat.le_of_ble_eq_true rfl)
  rw [lg_entry_eq]
  generalize (lg_sl ([.ref M.o_Vt, .int p0]) ++ List.replicate (7 - (lg_sl ([.ref M.o_Vt, .int p0])).length) Slot.unset).toArray = ls at hl ⊢
  have hl : lv_has ls 7 [(0, .ref M.o_Vt), (1, .int p0)] := hl
  refine qabs (fun Q hQ => ?_)
  have hB_46 : ∀ (k : Nat), ∀ (y_2 : Int32) (y_4 : Int32) (y_5 : Int32) (y_6 : Int32) (Y : CT) (G : CG) (S : CS) (H : Heap) (locs : List Loc) (ls : Array Slot), f_Vt_write_46 K k y_2 y_4 y_5 y_6 G S = some (.error 0, G', S') → CG.le G0 G → va_P (dC, dI) classes (wV M Y G S) H → va_D A (wV M Y G S) → va_S A s.heap H locs → lv_has ls 7 [(0, .ref M.o_Vt), (2, .int y_2), (4, .int y_4), (5, .int y_5), (6, .int y_6)] → W p l e ({ frames := 8, cells := G'.gc - G0.gc, slots := G'.gs - G0.gs, locals := 224 }) s m ([.ref M.o_Vt, .int p0] : List Value).toArray below meth c H locs (G.gc - G0.gc) (G.gs - G0.gs) Q (F0 m 46 ls []) := by
    intro k
    induction k with
    | zero => intro y_2 y_4 y_5 y_6 Y G S H locs ls h; exact lf_no h
    | succ k hr_46 =>
      intro y_2 y_4 y_5 y_6 Y G S H locs ls h m0 hP hD hS hl
      have mF := mo_Vt_write_46 (k + 1) y_2 y_4 y_5 y_6 G S h
      have hm_46 : ∀ (y_2 : Int32) (y_4 : Int32) (y_5 : Int32) (y_6 : Int32) (G : CG) (S : CS) {x : Except Nat Int32} {G1 : CG} {S1 : CS}, f_Vt_write_46 K k y_2 y_4 y_5 y_6 G S = some (x, G1, S1) → CG.le G G1 := fun y_2 y_4 y_5 y_6 G S => mo_Vt_write_46 k y_2 y_4 y_5 y_6 G S
      rw [f_Vt_write_46] at h
      refine lv_iload hx hb d_Vt_write_46 (lv_at hl 4 rfl) ?_
      refine lv_iload_n hx hb d_Vt_write_48 rfl (lv_at hl 1 rfl) ?_
      refine lv_icmp_ge (tgt := 92) hx hb d_Vt_write_49 (by decide) (fun c_7 => ?_) (fun c_7 => ?_)
      · have h := lf_t h c_7
        refine lv_iload hx hb d_Vt_write_92 (lv_at hl 2 rfl) ?_
        refine lv_iload_n hx hb d_Vt_write_94 rfl (lv_at hl 1 rfl) ?_
        refine lv_iadd hx hb d_Vt_write_95 ?_
        exact lf_xo h
      · have h := lf_f h c_7
        refine lv_aload_n hx hb d_Vt_write_52 rfl (lv_at hl 0 rfl) ?_
        refine va_get (D := (dC, dI)) (ci := 11) (v := .ref M.o_Ed) (C := R_Vt) (T := F_Vt) (N := 16) hx hb hts (fun w h => u_Vq_Vt w (i_Vt w h)) hown hK hP 0 rfl rfl 5 (by decide) (hts _ (u_Vq_Vt _ k_Vt_34)) (fun _ h9 => h9) rfl d_Vt_write_53 ?_
        refine lv_iload hx hb d_Vt_write_56 (lv_at hl 3 rfl) ?_
        refine lv_iload hx hb d_Vt_write_58 (lv_at hl 2 rfl) ?_
        refine lv_iload hx hb d_Vt_write_60 (lv_at hl 4 rfl) ?_
        refine lv_iadd hx hb d_Vt_write_62 ?_
        obtain ⟨r_8, S_8, hc_8, h⟩ := lf_cE h
        have hFc := lx_free hD hS hA
        refine va_calli (va_runV (As := [.int y_5, .int (y_4 + y_6)]) (rest := []) ⟨hx, hb, hml, hown, hts⟩ (l_Ed_placeBehind l dC dI X _ hc_8) (cwV 2 hts (gwV good_Vq (u_Vq_Vt _ k_Vt_188) (u_Vq_Ed _ k_Ed_116) (u_Vq_Ed _ k_Ed_117) (u_Vq_Ed _ k_Ed_0) (wcs (u_Vq_Ed _ k_Ed_118) (fun _ h => h))) rfl rfl rfl (by decide +kernel) ⟨Nat.le_of_ble_eq_true rfl, Nat.le_of_ble_eq_true rfl⟩) (pv_ofE (X.same _) (fun U z1 z2 => X.mono _ _ U hFc (hEw _ _ hS U z1 z2)) hP hK hD (va_recv hK hP (ci := 8) (q0 := 6) rfl rfl)) rfl rfl hl.1 rfl (lv_room (Nat.le_of_ble_eq_true rfl)) d_Vt_write_63 ⟨ly_c0 mF.1, ly_c0 mF.2⟩) hS (fun q _ h => hFc q h) hFc (fun r_ u t H locs ht hvm hw hB hz1 hk1 hS => ?_)
        rw [hw]
        obtain ⟨hP, -, hD⟩ := hB
        rw [ht] at hP
        have hD := lx_dj hD hFc
        refine lv_istore (lv' := [(5, .int r_8), (0, .ref M.o_Vt), (2, .int y_2), (4, .int y_4), (6, .int y_6)]) hx hb d_Vt_write_66 hl (by decide) rfl (fun ls hl => ?_)
        refine lv_aload_n hx hb d_Vt_write_68 rfl (lv_at hl 1 rfl) ?_
        refine va_get (D := (dC, dI)) (ci := 11) (v := .ref M.o_Dk) (C := R_Vt) (T := F_Vt) (N := 16) hx hb hts (fun w h => u_Vq_Vt w (i_Vt w h)) hown hK hP 0 rfl rfl 0 (by decide) (hts _ (u_Vq_Vt _ k_Vt_29)) (fun _ h9 => h9) rfl d_Vt_write_69 ?_
        refine lv_iload hx hb d_Vt_write_72 (lv_at hl 0 rfl) ?_
        refine lv_aload_n hx hb d_Vt_write_74 rfl (lv_at hl 1 rfl) ?_
        refine va_get (D := (dC, dI)) (ci := 11) (v := .ref M.o_Tp) (C := R_Vt) (T := F_Vt) (N := 16) hx hb hts (fun w h => u_Vq_Vt w (i_Vt w h)) hown hK hP 0 rfl rfl 1 (by decide) (hts _ (u_Vq_Vt _ k_Vt_30)) (fun _ h9 => h9) rfl d_Vt_write_75 ?_
        refine lv_iload hx hb d_Vt_write_78 (lv_at hl 4 rfl) ?_
        obtain ⟨r_9, S_9, hc_9, h⟩ := lf_cE h
        have hFc := lx_free hD hS hA
        refine va_calli (va_runV (As := [.int y_6]) (rest := [.int r_8, .ref M.o_Dk]) ⟨hx, hb, hml, hown, hts⟩ (l_Tp_one l dC dI X _ hc_9) (cwV 1 hts (gwV good_Vq (u_Vq_Vt _ k_Vt_189) (u_Vq_Tp _ k_Tp_23) (u_Vq_Tp _ k_Tp_24) (u_Vq_Tp _ k_Tp_0) (wcs (u_Vq_Tp _ k_Tp_25) (fun _ h => h))) rfl rfl rfl (by decide +kernel) ⟨Nat.le_of_ble_eq_true rfl, Nat.le_of_ble_eq_true rfl⟩) (pv_ofE (X.same _) (fun U z1 z2 => X.mono _ _ U hFc (hEw _ _ hS U z1 z2)) hP hK hD (va_recv hK hP (ci := 3) (q0 := 2) rfl rfl)) rfl rfl hl.1 rfl (lv_room (Nat.le_of_ble_eq_true rfl)) d_Vt_write_80 ⟨ly_c0 mF.1, ly_c0 mF.2⟩) hS (fun q _ h => hFc q h) hFc (fun r_ u t H locs ht hvm hw hB hz1 hk1 hS => ?_)
        rw [hw]
        obtain ⟨hP, -, hD⟩ := hB
        rw [ht] at hP
        have hD := lx_dj hD hFc
        obtain ⟨S_10, hc_10, h⟩ := lf_bE h
        have hFc := lx_free hD hS hA
        refine va_callv (va_runV (As := [.int r_8, .int r_9]) (rest := []) ⟨hx, hb, hml, hown, hts⟩ (l_Dk_putOne l dC dI X _ hc_10) (cwV 2 hts (gwV good_Vq (u_Vq_Vt _ k_Vt_61) (u_Vq_Dk _ k_Dk_11) (u_Vq_Dk _ k_Dk_12) (u_Vq_Dk _ k_Dk_0) (wcs (u_Vq_Dk _ k_Dk_13) (fun _ h => h))) rfl rfl rfl (by decide +kernel) ⟨Nat.le_of_ble_eq_true rfl, Nat.le_of_ble_eq_true rfl⟩) (pv_ofE (X.same _) (fun U z1 z2 => X.mono _ _ U hFc (hEw _ _ hS U z1 z2)) hP hK hD (va_recv hK hP (ci := 0) (q0 := 1) rfl rfl)) rfl rfl hl.1 rfl (lv_room (Nat.le_of_ble_eq_true rfl)) d_Vt_write_83 ⟨ly_c0 mF.1, ly_c0 mF.2⟩) hS (fun q _ h => hFc q h) hFc (fun u t H locs ht hvm hw hB hz1 hk1 hS => ?_)
        obtain ⟨hP, -, hD⟩ := hB
        rw [ht] at hP
        have hD := lx_dj hD hFc
        obtain ⟨x_11, ex_11, h⟩ := lf_lX h
        refine lv_iinc (v := x_11) (lv' := [(6, .int x_11), (5, .int r_8), (0, .ref M.o_Vt), (2, .int y_2), (4, .int y_4)]) hx hb d_Vt_write_86 hl (k := 4) rfl (by rw [ex_11]; rfl) (by decide) rfl (fun ls hl => ?_)
        refine lv_goto (tgt := 46) hx hb d_Vt_write_89 (by decide) ?_
        exact hr_46 y_2 y_4 r_8 x_11 Y G S_10 _ _ _ h m0 hP hD hS (lv_sub hl [2, 3, 4, 1, 0] rfl)
  have hB_28 : ∀ (y_2 : Int32) (z_0 : Int32) (Y : CT) (G : CG) (S : CS) (H : Heap) (locs : List Loc) (ls : Array Slot), f_Vt_write_28 K y_2 z_0 G S = some (.error 0, G', S') → CG.le G0 G → va_P (dC, dI) classes (wV M Y G S) H → va_D A (wV M Y G S) → va_S A s.heap H locs → lv_has ls 7 [(0, .ref M.o_Vt), (2, .int y_2)] → W p l e ({ frames := 8, cells := G'.gc - G0.gc, slots := G'.gs - G0.gs, locals := 224 }) s m ([.ref M.o_Vt, .int p0] : List Value).toArray below meth c H locs (G.gc - G0.gc) (G.gs - G0.gs) Q (F0 m 28 ls [.int z_0]) := by
    intro y_2 z_0 Y G S H locs ls h m0 hP hD hS hl
    have mF := mo_Vt_write_28 h
    rw [f_Vt_write_28] at h
    refine lv_istore (lv' := [(4, .int z_0), (0, .ref M.o_Vt), (2, .int y_2)]) hx hb d_Vt_write_28 hl (by decide) rfl (fun ls hl => ?_)
    refine lv_aload_n hx hb d_Vt_write_30 rfl (lv_at hl 1 rfl) ?_
    refine va_get (D := (dC, dI)) (ci := 11) (v := .ref M.o_Ed) (C := R_Vt) (T := F_Vt) (N := 16) hx hb hts (fun w h => u_Vq_Vt w (i_Vt w h)) hown hK hP 0 rfl rfl 5 (by decide) (hts _ (u_Vq_Vt _ k_Vt_34)) (fun _ h9 => h9) rfl d_Vt_write_31 ?_
    refine lv_iload hx hb d_Vt_write_34 (lv_at hl 0 rfl) ?_
    refine lv_iconst (v := 1) hx hb d_Vt_write_36 (by decide) ?_
    refine lv_isub hx hb d_Vt_write_37 ?_
    obtain ⟨r_6, S_6, hc_6, h⟩ := lf_cE h
    have hFc := lx_free hD hS hA
    refine va_calli (va_runV (As := [.int (z_0 - 1)]) (rest := []) ⟨hx, hb, hml, hown, hts⟩ (l_Ed_placeOnRoad l dC dI X _ hc_6) (cwV 1 hts (gwV good_Vq (u_Vq_Vt _ k_Vt_187) (u_Vq_Ed _ k_Ed_33) (u_Vq_Ed _ k_Ed_34) (u_Vq_Ed _ k_Ed_0) (wcs (u_Vq_Ed _ k_Ed_35) (fun _ h => h))) rfl rfl rfl (by decide +kernel) ⟨Nat.le_of_ble_eq_true rfl, Nat.le_of_ble_eq_true rfl⟩) (pv_ofE (X.same _) (fun U z1 z2 => X.mono _ _ U hFc (hEw _ _ hS U z1 z2)) hP hK hD (va_recv hK hP (ci := 8) (q0 := 6) rfl rfl)) rfl rfl hl.1 rfl (lv_room (Nat.le_of_ble_eq_true rfl)) d_Vt_write_38 ⟨ly_c0 mF.1, ly_c0 mF.2⟩) hS (fun q _ h => hFc q h) hFc (fun r_ u t H locs ht hvm hw hB hz1 hk1 hS => ?_)
    rw [hw]
    obtain ⟨hP, -, hD⟩ := hB
    rw [ht] at hP
    have hD := lx_dj hD hFc
    refine lv_istore (lv' := [(5, .int r_6), (4, .int z_0), (0, .ref M.o_Vt), (2, .int y_2)]) hx hb d_Vt_write_41 hl (by decide) rfl (fun ls hl => ?_)
    refine lv_iconst (v := 0) hx hb d_Vt_write_43 (by decide) ?_
    refine lv_istore (lv' := [(6, .int 0), (5, .int r_6), (4, .int z_0), (0, .ref M.o_Vt), (2, .int y_2)]) hx hb d_Vt_write_44 hl (by decide) rfl (fun ls hl => ?_)
    exact hB_46 K y_2 z_0 r_6 0 Y G S_6 _ _ _ h m0 hP hD hS (lv_sub hl [3, 4, 2, 1, 0] rfl)
  have hB_21 : ∀ (y_2 : Int32) (z_0 : Int32) (Y : CT) (G : CG) (S : CS) (H : Heap) (locs : List Loc) (ls : Array Slot), f_Vt_write_21 K y_2 z_0 G S = some (.error 0, G', S') → CG.le G0 G → va_P (dC, dI) classes (wV M Y G S) H → va_D A (wV M Y G S) → va_S A s.heap H locs → lv_has ls 7 [(0, .ref M.o_Vt), (2, .int y_2)] → W p l e ({ frames := 8, cells := G'.gc - G0.gc, slots := G'.gs - G0.gs, locals := 224 }) s m ([.ref M.o_Vt, .int p0] : List Value).toArray below meth c H locs (G.gc - G0.gc) (G.gs - G0.gs) Q (F0 m 21 ls [.int z_0]) := by
    intro y_2 z_0 Y G S H locs ls h m0 hP hD hS hl
    have mF := mo_Vt_write_21 h
    rw [f_Vt_write_21] at h
    refine lv_istore_n (lv' := [(3, .int z_0), (0, .ref M.o_Vt), (2, .int y_2)]) hx hb d_Vt_write_21 rfl hl (by decide) rfl (fun ls hl => ?_)
    refine lv_aload_n hx hb d_Vt_write_22 rfl (lv_at hl 1 rfl) ?_
    refine lv_iload_n hx hb d_Vt_write_23 rfl (lv_at hl 0 rfl) ?_
    refine lv_iload_n hx hb d_Vt_write_24 rfl (lv_at hl 2 rfl) ?_
    rcases lf_aT h with ⟨r_5, G_5, S_5, hc_5, h⟩ | h9
    · have mc := mo_Vt_lengthen hc_5
      have ml_5 := mo_Vt_lengthen hc_5
      have mF1 := mo_Vt_write_28 h
      have hFc := lx_free hD hS hA
      refine va_calli (va_runV (As := [.int z_0, .int y_2]) (rest := []) ⟨hx, hb, hml, hown, hts⟩ (l_Vt_lengthen l dC dI X _ hc_5) (cwV 2 hts (gwV good_Vq (u_Vq_Vt _ k_Vt_182) (u_Vq_Vt _ k_Vt_183) (u_Vq_Vt _ k_Vt_220) (u_Vq_Vt _ k_Vt_0) (wcs (u_Vq_Vt _ k_Vt_184) (fun _ h => h))) rfl rfl rfl (by decide +kernel) ⟨Nat.le_of_ble_eq_true rfl, Nat.le_of_ble_eq_true rfl⟩) (pv_ofE (X.same _) (fun U z1 z2 => X.mono _ _ U hFc (hEw _ _ hS U z1 z2)) hP hK hD (va_recv hK hP (ci := 11) (q0 := 0) rfl rfl)) rfl rfl hl.1 rfl (lv_room (Nat.le_of_ble_eq_true rfl)) d_Vt_write_25 ⟨ly_c1 m0.1 mc.1 mF1.1, ly_c1 m0.2 mc.2 mF1.2⟩) hS (fun q _ h => hFc q h) hFc (fun r_ Y_5 t H locs ht hvm hw hB hz1 hk1 hS => ?_)
      rw [hw]
      obtain ⟨hP, -, hD⟩ := hB
      rw [ht] at hP
      have hD := lx_dj hD hFc
      refine W.widen (k := G_5.gc - G0.gc) (n := G_5.gs - G0.gs) (ly_c2 m0.1 mc.1) (ly_c2 m0.2 mc.2) ?_
      have m0 := CG.le_tr m0 mc
      exact hB_28 y_2 r_5 Y_5 G_5 S_5 _ _ _ h m0 hP hD hS (lv_sub hl [1, 2] rfl)
    · exact absurd (th_Vt_lengthen h9) (by decide)
  have hB_16 : ∀ (y_1 : Int32) (y_2 : Int32) (Y : CT) (G : CG) (S : CS) (H : Heap) (locs : List Loc) (ls : Array Slot), f_Vt_write_16 K y_1 y_2 G S = some (.error 0, G', S') → CG.le G0 G → va_P (dC, dI) classes (wV M Y G S) H → va_D A (wV M Y G S) → va_S A s.heap H locs → lv_has ls 7 [(0, .ref M.o_Vt), (1, .int y_1), (2, .int y_2)] → W p l e ({ frames := 8, cells := G'.gc - G0.gc, slots := G'.gs - G0.gs, locals := 224 }) s m ([.ref M.o_Vt, .int p0] : List Value).toArray below meth c H locs (G.gc - G0.gc) (G.gs - G0.gs) Q (F0 m 16 ls []) := by
    intro y_1 y_2 Y G S H locs ls h m0 hP hD hS hl
    have mF := mo_Vt_write_16 h
    rw [f_Vt_write_16] at h
    refine lv_aload_n hx hb d_Vt_write_16 rfl (lv_at hl 0 rfl) ?_
    refine lv_iload_n hx hb d_Vt_write_17 rfl (lv_at hl 1 rfl) ?_
    rcases lf_aT h with ⟨r_4, G_4, S_4, hc_4, h⟩ | h9
    · have mc := mo_Vt_fileHere hc_4
      have ml_4 := mo_Vt_fileHere hc_4
      have mF1 := mo_Vt_write_21 h
      have hFc := lx_free hD hS hA
      refine va_calli (va_runV (As := [.int y_1]) (rest := []) ⟨hx, hb, hml, hown, hts⟩ (l_Vt_fileHere l dC dI X _ hc_4) (cwV 1 hts (gwV good_Vq (u_Vq_Vt _ k_Vt_179) (u_Vq_Vt _ k_Vt_180) (u_Vq_Vt _ k_Vt_219) (u_Vq_Vt _ k_Vt_0) (wcs (u_Vq_Vt _ k_Vt_181) (fun _ h => h))) rfl rfl rfl (by decide +kernel) ⟨Nat.le_of_ble_eq_true rfl, Nat.le_of_ble_eq_true rfl⟩) (pv_ofE (X.same _) (fun U z1 z2 => X.mono _ _ U hFc (hEw _ _ hS U z1 z2)) hP hK hD (va_recv hK hP (ci := 11) (q0 := 0) rfl rfl)) rfl rfl hl.1 rfl (lv_room (Nat.le_of_ble_eq_true rfl)) d_Vt_write_18 ⟨ly_c1 m0.1 mc.1 mF1.1, ly_c1 m0.2 mc.2 mF1.2⟩) hS (fun q _ h => hFc q h) hFc (fun r_ Y_4 t H locs ht hvm hw hB hz1 hk1 hS => ?_)
      rw [hw]
      obtain ⟨hP, -, hD⟩ := hB
      rw [ht] at hP
      have hD := lx_dj hD hFc
      refine W.widen (k := G_4.gc - G0.gc) (n := G_4.gs - G0.gs) (ly_c2 m0.1 mc.1) (ly_c2 m0.2 mc.2) ?_
      have m0 := CG.le_tr m0 mc
      exact hB_21 y_2 r_4 Y_4 G_4 S_4 _ _ _ h m0 hP hD hS (lv_sub hl [0, 2] rfl)
    · have mc := mo_Vt_fileHere h9
      have hFc := lx_free hD hS hA
      rw [hQ]
      exact x_outV (n := 1) (As := [.int y_1]) (rest := []) (b := M.o_Vt) (st0 := [.int y_1, .ref M.o_Vt]) ⟨hx, hb, hml, hown, hts⟩ (lt_Vt_fileHere_0 l hfl dC dI X _ h9) (cwV 1 hts (gwV good_Vq (u_Vq_Vt _ k_Vt_179) (u_Vq_Vt _ k_Vt_180) (u_Vq_Vt _ k_Vt_219) (u_Vq_Vt _ k_Vt_0) (wcs (u_Vq_Vt _ k_Vt_181) (fun _ h => h))) rfl rfl rfl (by decide +kernel) ⟨Nat.le_of_ble_eq_true rfl, Nat.le_of_ble_eq_true rfl⟩) (pv_ofE (X.same _) (fun U z1 z2 => X.mono _ _ U hFc (hEw _ _ hS U z1 z2)) hP hK hD (va_recv hK hP (ci := 11) (q0 := 0) rfl rfl)) rfl hl.1 rfl (Nat.le_of_ble_eq_true rfl) d_Vt_write_18 ⟨ly_c2 m0.1 mc.1, ly_c2 m0.2 mc.2⟩ hlocks hout ⟨ly_c2 m0.1 mc.1, ly_c2 m0.2 mc.2⟩ (fun E st t U z1 z2 z3 z4 z5 => ly_outQ hS hK hFc z1 z3 z4 z5) ⟨hS.2.2, fun z h => hFc z h⟩
  have hB_13 : ∀ (y_1 : Int32) (y_2 : Int32) (z_1 : Int32) (Y : CT) (G : CG) (S : CS) (H : Heap) (locs : List Loc) (ls : Array Slot), f_Vt_write_13 K y_1 y_2 z_1 G S = some (.error 0, G', S') → CG.le G0 G → va_P (dC, dI) classes (wV M Y G S) H → va_D A (wV M Y G S) → va_S A s.heap H locs → lv_has ls 7 [(0, .ref M.o_Vt), (1, .int y_1), (2, .int y_2)] → W p l e ({ frames := 8, cells := G'.gc - G0.gc, slots := G'.gs - G0.gs, locals := 224 }) s m ([.ref M.o_Vt, .int p0] : List Value).toArray below meth c H locs (G.gc - G0.gc) (G.gs - G0.gs) Q (F0 m 13 ls [.int z_1, .ref M.o_Vt]) := by
    intro y_1 y_2 z_1 Y G S H locs ls h m0 hP hD hS hl
    have mF := mo_Vt_write_13 h
    rw [f_Vt_write_13] at h
    rcases lf_aT h with ⟨r_3, G_3, S_3, hc_3, h⟩ | h9
    · have mc := mo_Vt_wantSoundTable hc_3
      have ml_3 := mo_Vt_wantSoundTable hc_3
      have mF1 := mo_Vt_write_16 h
      have hFc := lx_free hD hS hA
      refine va_callv (va_runV (As := [.int z_1]) (rest := []) ⟨hx, hb, hml, hown, hts⟩ (l_Vt_wantSoundTable l dC dI X _ hc_3) (cwV 1 hts (gwV good_Vq (u_Vq_Vt _ k_Vt_166) (u_Vq_Vt _ k_Vt_167) (u_Vq_Vt _ k_Vt_216) (u_Vq_Vt _ k_Vt_0) (wcs (u_Vq_Vt _ k_Vt_168) (fun _ h => h))) rfl rfl rfl (by decide +kernel) ⟨Nat.le_of_ble_eq_true rfl, Nat.le_of_ble_eq_true rfl⟩) (pv_ofE (X.same _) (fun U z1 z2 => X.mono _ _ U hFc (hEw _ _ hS U z1 z2)) hP hK hD (va_recv hK hP (ci := 11) (q0 := 0) rfl rfl)) rfl rfl hl.1 rfl (lv_room (Nat.le_of_ble_eq_true rfl)) d_Vt_write_13 ⟨ly_c1 m0.1 mc.1 mF1.1, ly_c1 m0.2 mc.2 mF1.2⟩) hS (fun q _ h => hFc q h) hFc (fun Y_3 t H locs ht hvm hw hB hz1 hk1 hS => ?_)
      obtain ⟨hP, -, hD⟩ := hB
      rw [ht] at hP
      have hD := lx_dj hD hFc
      refine W.widen (k := G_3.gc - G0.gc) (n := G_3.gs - G0.gs) (ly_c2 m0.1 mc.1) (ly_c2 m0.2 mc.2) ?_
      have m0 := CG.le_tr m0 mc
      exact hB_16 y_1 y_2 Y_3 G_3 S_3 _ _ _ h m0 hP hD hS (lv_sub hl [0, 1, 2] rfl)
    · exact absurd (th_Vt_wantSoundTable h9) (by decide)
  have m0 : CG.le G0 G0 := ⟨Nat.le_refl _, Nat.le_refl _⟩
  have mF := mo_Vt_write h
  refine W.widen (k := G0.gc - G0.gc) (n := G0.gs - G0.gs) (Nat.zero_le _) (Nat.zero_le _) ?_
  rw [f_Vt_write] at h
  refine lv_aload_n hx hb d_Vt_write_0 rfl (lv_at hl 0 rfl) ?_
  refine va_get (D := (dC, dI)) (ci := 11) (v := .ref M.o_Tp) (C := R_Vt) (T := F_Vt) (N := 16) hx hb hts (fun w h => u_Vq_Vt w (i_Vt w h)) hown hK hP 0 rfl rfl 1 (by decide) (hts _ (u_Vq_Vt _ k_Vt_30)) (fun _ h9 => h9) rfl d_Vt_write_1 ?_
  obtain ⟨r_1, S_1, hc_1, h⟩ := lf_cE h
  have hFc := lx_free hD hS hA
  refine va_calli (va_runV (As := []) (rest := []) ⟨hx, hb, hml, hown, hts⟩ (l_Tp_useUp l dC dI X _ hc_1) (cwV 0 hts (gwV good_Vq (u_Vq_Vt _ k_Vt_56) (u_Vq_Tp _ k_Tp_16) (u_Vq_Tp _ k_Tp_17) (u_Vq_Tp _ k_Tp_0) (wcs (u_Vq_Tp _ k_Tp_18) (fun _ h => h))) rfl rfl rfl (by decide +kernel) ⟨Nat.le_of_ble_eq_true rfl, Nat.le_of_ble_eq_true rfl⟩) (pv_ofE (X.same _) (fun U z1 z2 => X.mono _ _ U hFc (hEw _ _ hS U z1 z2)) hP hK hD (va_recv hK hP (ci := 3) (q0 := 2) rfl rfl)) rfl rfl hl.1 rfl (lv_room (Nat.le_of_ble_eq_true rfl)) d_Vt_write_4 ⟨ly_c0 mF.1, ly_c0 mF.2⟩) hS (fun q _ h => hFc q h) hFc (fun r_ u t H locs ht hvm hw hB hz1 hk1 hS => ?_)
  rw [hw]
  obtain ⟨hP, -, hD⟩ := hB
  rw [ht] at hP
  have hD := lx_dj hD hFc
  refine lv_istore_n (lv' := [(2, .int r_1), (0, .ref M.o_Vt), (1, .int p0)]) hx hb d_Vt_write_7 rfl hl (by decide) rfl (fun ls hl => ?_)
  refine lv_aload_n hx hb d_Vt_write_8 rfl (lv_at hl 1 rfl) ?_
  refine lv_aload_n hx hb d_Vt_write_9 rfl (lv_at hl 1 rfl) ?_
  obtain ⟨r_2, G_2, S_2, hc_2, h⟩ := lf_nE h
  have mc := mo_Vt_look hc_2
  have ml_2 := mo_Vt_look hc_2
  have mF1 := mo_Vt_write_13 h
  have hFc := lx_free hD hS hA
  refine va_calli (va_runV (As := []) (rest := [.ref M.o_Vt]) ⟨hx, hb, hml, hown, hts⟩ (l_Vt_look l dC dI X _ hc_2) (cwV 0 hts (gwV good_Vq (u_Vq_Vt _ k_Vt_68) (u_Vq_Vt _ k_Vt_69) (u_Vq_Vt _ k_Vt_214) (u_Vq_Vt _ k_Vt_0) (wcs (u_Vq_Vt _ k_Vt_70) (fun _ h => h))) rfl rfl rfl (by decide +kernel) ⟨Nat.le_of_ble_eq_true rfl, Nat.le_of_ble_eq_true rfl⟩) (pv_ofE (X.same _) (fun U z1 z2 => X.mono _ _ U hFc (hEw _ _ hS U z1 z2)) hP hK hD (va_recv hK hP (ci := 11) (q0 := 0) rfl rfl)) rfl rfl hl.1 rfl (lv_room (Nat.le_of_ble_eq_true rfl)) d_Vt_write_10 ⟨ly_c1 m0.1 mc.1 mF1.1, ly_c1 m0.2 mc.2 mF1.2⟩) hS (fun q _ h => hFc q h) hFc (fun r_ Y_2 t H locs ht hvm hw hB hz1 hk1 hS => ?_)
  rw [hw]
  obtain ⟨hP, -, hD⟩ := hB
  rw [ht] at hP
  have hD := lx_dj hD hFc
  refine W.widen (k := G_2.gc - G0.gc) (n := G_2.gs - G0.gs) (ly_c2 m0.1 mc.1) (ly_c2 m0.2 mc.2) ?_
  have m0 := CG.le_tr m0 mc
  exact hB_13 p0 r_1 r_2 Y_2 G_2 S_2 _ _ _ h m0 hP hD hS (lv_sub hl [1, 2, 0] rfl)
set_option maxHeartbeats 4000000 in
set_option maxRecDepth 100000 in
theorem lt_Vt_write_1 (l : Launch) (hfl : l.flags = pinnedFlags ++ [noTraceFlag]) (dC : Nat → ClassId) (dI : Nat → Nat → Nat) {K : Nat} {M : CA} {E : (Nat → Prop) → State → Prop} (X : ly_X l dC dI K M E) (sz : Nat) {Y : CT} {G0 G' : CG} {S S' : CS} {p0 : Int32} (h : f_Vt_write K G0 S p0 = some (.error 1, G', S')) : MetX l y_Vt_write (.code y_Vt_write cb_Vt_write 7 (some .int) :: V_Vq) ({ frames := 8, cells := G'.gc - G0.gc, slots := G'.gs - G0.gs, locals := 224 }) (va_Pc [.ref M.o_Vt, .int p0] (fun U => U.heap.size = sz ∧ at_ (dC, dI) (fun _ => True) (wV M Y G0 S) (tV M) U ∧ E (va_A (wV M Y G0 S) sz) U)) (fun _ _ _ _ => False) (x_Q "java/lang/IllegalStateException" (va_A (wV M Y G0 S) sz) (fun t => ∃ u : CT, at_ (dC, dI) (va_A (wV M Y G0 S) sz) (wV M u G' S') (tV M) t)) (G'.gc - G0.gc) (G'.gs - G0.gs) (va_A (wV M Y G0 S) sz) := by
  refine MetX.ofW (cc := cb_Vt_write) (maxL := 7) (ret := (some .int)) (by decide) rfl ?_
  intro p e s m args below meth c s₁ B hml hv
  obtain ⟨rfl, hsz, ⟨hP, hK, hD0⟩, hE⟩ := hv
  have hx := B.exec
  have hb := B.bytes
  have hr := B.returns
  have hts0 := atoms_spec (ws := .code y_Vt_write cb_Vt_write 7 (some .int) :: V_Vq) B.pre
  have hts : ∀ w ∈ V_Vq, w.before ([.ref M.o_Vt, .int p0] : List Value).toArray s = true := fun w h => hts0 w (List.mem_cons_of_mem _ h)
  have hown : s.vm.findClass R_Vt = some m.cls := findClass_of_methodNamed B.named
  have hlocks := B.notSynchronized
  have hout := x_table B (hts0 _ List.mem_cons_self)
  subst hsz
  have hD := hD0.self (sz := s.heap.size)
  generalize hAe : va_A (wV M Y G0 S) s.heap.size = A at hD hE ⊢
  have hA : ∀ q : Nat, s.heap.size ≤ q → A q := fun q h => by rw [← hAe]; exact Or.inr h
  have hS : va_S A s.heap s.heap [] := va_S.rf
  have hP : va_P (dC, dI) classes (wV M Y G0 S) s.heap := hP
  have hK : va_K (dC, dI) classes (tV M) s := hK
  have hEw : ∀ (H : Heap) (locs : List Loc), va_S A s.heap H locs → ∀ U : State, U.heap = H → s.WarmedH U.vm → E A U := fun H locs hS U hU hW => X.kept A s U H locs hE hS hU hW
  have hl := lv_entry ([.ref M.o_Vt, .int p0]) (n := 7) (Nat.le_of_ble_eq_true rfl)
  rw [lg_entry_eq]
  generalize (lg_sl ([.ref M.o_Vt, .int p0]) ++ List.replicate (7 - (lg_sl ([.ref M.o_Vt, .int p0])).length) Slot.unset).toArray = ls at hl ⊢
  have hl : lv_has ls 7 [(0, .ref M.o_Vt), (1, .int p0)] := hl
  refine qabs (fun Q hQ => ?_)
  have hB_46 : ∀ (k : Nat), ∀ (y_2 : Int32) (y_4 : Int32) (y_5 : Int32) (y_6 : Int32) (Y : CT) (G : CG) (S : CS) (H : Heap) (locs : List Loc) (ls : Array Slot), f_Vt_write_46 K k y_2 y_4 y_5 y_6 G S = some (.error 1, G', S') → CG.le G0 G → va_P (dC, dI) classes (wV M Y G S) H → va_D A (wV M Y G S) → va_S A s.heap H locs → lv_has ls 7 [(0, .ref M.o_Vt), (2, .int y_2), (4, .int y_4), (5, .int y_5), (6, .int y_6)] → W p l e ({ frames := 8, cells := G'.gc - G0.gc, slots := G'.gs - G0.gs, locals := 224 }) s m ([.ref M.o_Vt, .int p0] : List Value).toArray below meth c H locs (G.gc - G0.gc) (G.gs - G0.gs) Q (F0 m 46 ls []) := by
    intro k
    induction k with
    | zero => intro y_2 y_4 y_5 y_6 Y G S H locs ls h; exact lf_no h
    | succ k hr_46 =>
      intro y_2 y_4 y_5 y_6 Y G S H locs ls h m0 hP hD hS hl
      have mF := mo_Vt_write_46 (k + 1) y_2 y_4 y_5 y_6 G S h
      have hm_46 : ∀ (y_2 : Int32) (y_4 : Int32) (y_5 : Int32) (y_6 : Int32) (G : CG) (S : CS) {x : Except Nat Int32} {G1 : CG} {S1 : CS}, f_Vt_write_46 K k y_2 y_4 y_5 y_6 G S = some (x, G1, S1) → CG.le G G1 := fun y_2 y_4 y_5 y_6 G S => mo_Vt_write_46 k y_2 y_4 y_5 y_6 G S
      rw [f_Vt_write_46] at h
      refine lv_iload hx hb d_Vt_write_46 (lv_at hl 4 rfl) ?_
      refine lv_iload_n hx hb d_Vt_write_48 rfl (lv_at hl 1 rfl) ?_
      refine lv_icmp_ge (tgt := 92) hx hb d_Vt_write_49 (by decide) (fun c_7 => ?_) (fun c_7 => ?_)
      · have h := lf_t h c_7
        refine lv_iload hx hb d_Vt_write_92 (lv_at hl 2 rfl) ?_
        refine lv_iload_n hx hb d_Vt_write_94 rfl (lv_at hl 1 rfl) ?_
        refine lv_iadd hx hb d_Vt_write_95 ?_
        exact lf_xo h
      · have h := lf_f h c_7
        refine lv_aload_n hx hb d_Vt_write_52 rfl (lv_at hl 0 rfl) ?_
        refine va_get (D := (dC, dI)) (ci := 11) (v := .ref M.o_Ed) (C := R_Vt) (T := F_Vt) (N := 16) hx hb hts (fun w h => u_Vq_Vt w (i_Vt w h)) hown hK hP 0 rfl rfl 5 (by decide) (hts _ (u_Vq_Vt _ k_Vt_34)) (fun _ h9 => h9) rfl d_Vt_write_53 ?_
        refine lv_iload hx hb d_Vt_write_56 (lv_at hl 3 rfl) ?_
        refine lv_iload hx hb d_Vt_write_58 (lv_at hl 2 rfl) ?_
        refine lv_iload hx hb d_Vt_write_60 (lv_at hl 4 rfl) ?_
        refine lv_iadd hx hb d_Vt_write_62 ?_
        obtain ⟨r_8, S_8, hc_8, h⟩ := lf_cE h
        have hFc := lx_free hD hS hA
        refine va_calli (va_runV (As := [.int y_5, .int (y_4 + y_6)]) (rest := []) ⟨hx, hb, hml, hown, hts⟩ (l_Ed_placeBehind l dC dI X _ hc_8) (cwV 2 hts (gwV good_Vq (u_Vq_Vt _ k_Vt_188) (u_Vq_Ed _ k_Ed_116) (u_Vq_Ed _ k_Ed_117) (u_Vq_Ed _ k_Ed_0) (wcs (u_Vq_Ed _ k_Ed_118) (fun _ h => h))) rfl rfl rfl (by decide +kernel) ⟨Nat.le_of_ble_eq_true rfl, Nat.le_of_ble_eq_true rfl⟩) (pv_ofE (X.same _) (fun U z1 z2 => X.mono _ _ U hFc (hEw _ _ hS U z1 z2)) hP hK hD (va_recv hK hP (ci := 8) (q0 := 6) rfl rfl)) rfl rfl hl.1 rfl (lv_room (Nat.le_of_ble_eq_true rfl)) d_Vt_write_63 ⟨ly_c0 mF.1, ly_c0 mF.2⟩) hS (fun q _ h => hFc q h) hFc (fun r_ u t H locs ht hvm hw hB hz1 hk1 hS => ?_)
        rw [hw]
        obtain ⟨hP, -, hD⟩ := hB
        rw [ht] at hP
        have hD := lx_dj hD hFc
        refine lv_istore (lv' := [(5, .int r_8), (0, .ref M.o_Vt), (2, .int y_2), (4, .int y_4), (6, .int y_6)]) hx hb d_Vt_write_66 hl (by decide) rfl (fun ls hl => ?_)
        refine lv_aload_n hx hb d_Vt_write_68 rfl (lv_at hl 1 rfl) ?_
        refine va_get (D := (dC, dI)) (ci := 11) (v := .ref M.o_Dk) (C := R_Vt) (T := F_Vt) (N := 16) hx hb hts (fun w h => u_Vq_Vt w (i_Vt w h)) hown hK hP 0 rfl rfl 0 (by decide) (hts _ (u_Vq_Vt _ k_Vt_29)) (fun _ h9 => h9) rfl d_Vt_write_69 ?_
        refine lv_iload hx hb d_Vt_write_72 (lv_at hl 0 rfl) ?_
        refine lv_aload_n hx hb d_Vt_write_74 rfl (lv_at hl 1 rfl) ?_
        refine va_get (D := (dC, dI)) (ci := 11) (v := .ref M.o_Tp) (C := R_Vt) (T := F_Vt) (N := 16) hx hb hts (fun w h => u_Vq_Vt w (i_Vt w h)) hown hK hP 0 rfl rfl 1 (by decide) (hts _ (u_Vq_Vt _ k_Vt_30)) (fun _ h9 => h9) rfl d_Vt_write_75 ?_
        refine lv_iload hx hb d_Vt_write_78 (lv_at hl 4 rfl) ?_
        obtain ⟨r_9, S_9, hc_9, h⟩ := lf_cE h
        have hFc := lx_free hD hS hA
        refine va_calli (va_runV (As := [.int y_6]) (rest := [.int r_8, .ref M.o_Dk]) ⟨hx, hb, hml, hown, hts⟩ (l_Tp_one l dC dI X _ hc_9) (cwV 1 hts (gwV good_Vq (u_Vq_Vt _ k_Vt_189) (u_Vq_Tp _ k_Tp_23) (u_Vq_Tp _ k_Tp_24) (u_Vq_Tp _ k_Tp_0) (wcs (u_Vq_Tp _ k_Tp_25) (fun _ h => h))) rfl rfl rfl (by decide +kernel) ⟨Nat.le_of_ble_eq_true rfl, Nat.le_of_ble_eq_true rfl⟩) (pv_ofE (X.same _) (fun U z1 z2 => X.mono _ _ U hFc (hEw _ _ hS U z1 z2)) hP hK hD (va_recv hK hP (ci := 3) (q0 := 2) rfl rfl)) rfl rfl hl.1 rfl (lv_room (Nat.le_of_ble_eq_true rfl)) d_Vt_write_80 ⟨ly_c0 mF.1, ly_c0 mF.2⟩) hS (fun q _ h => hFc q h) hFc (fun r_ u t H locs ht hvm hw hB hz1 hk1 hS => ?_)
        rw [hw]
        obtain ⟨hP, -, hD⟩ := hB
        rw [ht] at hP
        have hD := lx_dj hD hFc
        obtain ⟨S_10, hc_10, h⟩ := lf_bE h
        have hFc := lx_free hD hS hA
        refine va_callv (va_runV (As := [.int r_8, .int r_9]) (rest := []) ⟨hx, hb, hml, hown, hts⟩ (l_Dk_putOne l dC dI X _ hc_10) (cwV 2 hts (gwV good_Vq (u_Vq_Vt _ k_Vt_61) (u_Vq_Dk _ k_Dk_11) (u_Vq_Dk _ k_Dk_12) (u_Vq_Dk _ k_Dk_0) (wcs (u_Vq_Dk _ k_Dk_13) (fun _ h => h))) rfl rfl rfl (by decide +kernel) ⟨Nat.le_of_ble_eq_true rfl, Nat.le_of_ble_eq_true rfl⟩) (pv_ofE (X.same _) (fun U z1 z2 => X.mono _ _ U hFc (hEw _ _ hS U z1 z2)) hP hK hD (va_recv hK hP (ci := 0) (q0 := 1) rfl rfl)) rfl rfl hl.1 rfl (lv_room (Nat.le_of_ble_eq_true rfl)) d_Vt_write_83 ⟨ly_c0 mF.1, ly_c0 mF.2⟩) hS (fun q _ h => hFc q h) hFc (fun u t H locs ht hvm hw hB hz1 hk1 hS => ?_)
        obtain ⟨hP, -, hD⟩ := hB
        rw [ht] at hP
        have hD := lx_dj hD hFc
        obtain ⟨x_11, ex_11, h⟩ := lf_lX h
        refine lv_iinc (v := x_11) (lv' := [(6, .int x_11), (5, .int r_8), (0, .ref M.o_Vt), (2, .int y_2), (4, .int y_4)]) hx hb d_Vt_write_86 hl (k := 4) rfl (by rw [ex_11]; rfl) (by decide) rfl (fun ls hl => ?_)
        refine lv_goto (tgt := 46) hx hb d_Vt_write_89 (by decide) ?_
        exact hr_46 y_2 y_4 r_8 x_11 Y G S_10 _ _ _ h m0 hP hD hS (lv_sub hl [2, 3, 4, 1, 0] rfl)
  have hB_28 : ∀ (y_2 : Int32) (z_0 : Int32) (Y : CT) (G : CG) (S : CS) (H : Heap) (locs : List Loc) (ls : Array Slot), f_Vt_write_28 K y_2 z_0 G S = some (.error 1, G', S') → CG.le G0 G → va_P (dC, dI) classes (wV M Y G S) H → va_D A (wV M Y G S) → va_S A s.heap H locs → lv_has ls 7 [(0, .ref M.o_Vt), (2, .int y_2)] → W p l e ({ frames := 8, cells := G'.gc - G0.gc, slots := G'.gs - G0.gs, locals := 224 }) s m ([.ref M.o_Vt, .int p0] : List Value).toArray below meth c H locs (G.gc - G0.gc) (G.gs - G0.gs) Q (F0 m 28 ls [.int z_0]) := by
    intro y_2 z_0 Y G S H locs ls h m0 hP hD hS hl
    have mF := mo_Vt_write_28 h
    rw [f_Vt_write_28] at h
    refine lv_istore (lv' := [(4, .int z_0), (0, .ref M.o_Vt), (2, .int y_2)]) hx hb d_Vt_write_28 hl (by decide) rfl (fun ls hl => ?_)
    refine lv_aload_n hx hb d_Vt_write_30 rfl (lv_at hl 1 rfl) ?_
    refine va_get (D := (dC, dI)) (ci := 11) (v := .ref M.o_Ed) (C := R_Vt) (T := F_Vt) (N := 16) hx hb hts (fun w h => u_Vq_Vt w (i_Vt w h)) hown hK hP 0 rfl rfl 5 (by decide) (hts _ (u_Vq_Vt _ k_Vt_34)) (fun _ h9 => h9) rfl d_Vt_write_31 ?_
    refine lv_iload hx hb d_Vt_write_34 (lv_at hl 0 rfl) ?_
    refine lv_iconst (v := 1) hx hb d_Vt_write_36 (by decide) ?_
    refine lv_isub hx hb d_Vt_write_37 ?_
    obtain ⟨r_6, S_6, hc_6, h⟩ := lf_cE h
    have hFc := lx_free hD hS hA
    refine va_calli (va_runV (As := [.int (z_0 - 1)]) (rest := []) ⟨hx, hb, hml, hown, hts⟩ (l_Ed_placeOnRoad l dC dI X _ hc_6) (cwV 1 hts (gwV good_Vq (u_Vq_Vt _ k_Vt_187) (u_Vq_Ed _ k_Ed_33) (u_Vq_Ed _ k_Ed_34) (u_Vq_Ed _ k_Ed_0) (wcs (u_Vq_Ed _ k_Ed_35) (fun _ h => h))) rfl rfl rfl (by decide +kernel) ⟨Nat.le_of_ble_eq_true rfl, Nat.le_of_ble_eq_true rfl⟩) (pv_ofE (X.same _) (fun U z1 z2 => X.mono _ _ U hFc (hEw _ _ hS U z1 z2)) hP hK hD (va_recv hK hP (ci := 8) (q0 := 6) rfl rfl)) rfl rfl hl.1 rfl (lv_room (Nat.le_of_ble_eq_true rfl)) d_Vt_write_38 ⟨ly_c0 mF.1, ly_c0 mF.2⟩) hS (fun q _ h => hFc q h) hFc (fun r_ u t H locs ht hvm hw hB hz1 hk1 hS => ?_)
    rw [hw]
    obtain ⟨hP, -, hD⟩ := hB
    rw [ht] at hP
    have hD := lx_dj hD hFc
    refine lv_istore (lv' := [(5, .int r_6), (4, .int z_0), (0, .ref M.o_Vt), (2, .int y_2)]) hx hb d_Vt_write_41 hl (by decide) rfl (fun ls hl => ?_)
    refine lv_iconst (v := 0) hx hb d_Vt_write_43 (by decide) ?_
    refine lv_istore (lv' := [(6, .int 0), (5, .int r_6), (4, .int z_0), (0, .ref M.o_Vt), (2, .int y_2)]) hx hb d_Vt_write_44 hl (by decide) rfl (fun ls hl => ?_)
    exact hB_46 K y_2 z_0 r_6 0 Y G S_6 _ _ _ h m0 hP hD hS (lv_sub hl [3, 4, 2, 1, 0] rfl)
  have hB_21 : ∀ (y_2 : Int32) (z_0 : Int32) (Y : CT) (G : CG) (S : CS) (H : Heap) (locs : List Loc) (ls : Array Slot), f_Vt_write_21 K y_2 z_0 G S = some (.error 1, G', S') → CG.le G0 G → va_P (dC, dI) classes (wV M Y G S) H → va_D A (wV M Y G S) → va_S A s.heap H locs → lv_has ls 7 [(0, .ref M.o_Vt), (2, .int y_2)] → W p l e ({ frames := 8, cells := G'.gc - G0.gc, slots := G'.gs - G0.gs, locals := 224 }) s m ([.ref M.o_Vt, .int p0] : List Value).toArray below meth c H locs (G.gc - G0.gc) (G.gs - G0.gs) Q (F0 m 21 ls [.int z_0]) := by
    intro y_2 z_0 Y G S H locs ls h m0 hP hD hS hl
    have mF := mo_Vt_write_21 h
    rw [f_Vt_write_21] at h
    refine lv_istore_n (lv' := [(3, .int z_0), (0, .ref M.o_Vt), (2, .int y_2)]) hx hb d_Vt_write_21 rfl hl (by decide) rfl (fun ls hl => ?_)
    refine lv_aload_n hx hb d_Vt_write_22 rfl (lv_at hl 1 rfl) ?_
    refine lv_iload_n hx hb d_Vt_write_23 rfl (lv_at hl 0 rfl) ?_
    refine lv_iload_n hx hb d_Vt_write_24 rfl (lv_at hl 2 rfl) ?_
    rcases lf_aT h with ⟨r_5, G_5, S_5, hc_5, h⟩ | h9
    · have mc := mo_Vt_lengthen hc_5
      have ml_5 := mo_Vt_lengthen hc_5
      have mF1 := mo_Vt_write_28 h
      have hFc := lx_free hD hS hA
      refine va_calli (va_runV (As := [.int z_0, .int y_2]) (rest := []) ⟨hx, hb, hml, hown, hts⟩ (l_Vt_lengthen l dC dI X _ hc_5) (cwV 2 hts (gwV good_Vq (u_Vq_Vt _ k_Vt_182) (u_Vq_Vt _ k_Vt_183) (u_Vq_Vt _ k_Vt_220) (u_Vq_Vt _ k_Vt_0) (wcs (u_Vq_Vt _ k_Vt_184) (fun _ h => h))) rfl rfl rfl (by decide +kernel) ⟨Nat.le_of_ble_eq_true rfl, Nat.le_of_ble_eq_true rfl⟩) (pv_ofE (X.same _) (fun U z1 z2 => X.mono _ _ U hFc (hEw _ _ hS U z1 z2)) hP hK hD (va_recv hK hP (ci := 11) (q0 := 0) rfl rfl)) rfl rfl hl.1 rfl (lv_room (Nat.le_of_ble_eq_true rfl)) d_Vt_write_25 ⟨ly_c1 m0.1 mc.1 mF1.1, ly_c1 m0.2 mc.2 mF1.2⟩) hS (fun q _ h => hFc q h) hFc (fun r_ Y_5 t H locs ht hvm hw hB hz1 hk1 hS => ?_)
      rw [hw]
      obtain ⟨hP, -, hD⟩ := hB
      rw [ht] at hP
      have hD := lx_dj hD hFc
      refine W.widen (k := G_5.gc - G0.gc) (n := G_5.gs - G0.gs) (ly_c2 m0.1 mc.1) (ly_c2 m0.2 mc.2) ?_
      have m0 := CG.le_tr m0 mc
      exact hB_28 y_2 r_5 Y_5 G_5 S_5 _ _ _ h m0 hP hD hS (lv_sub hl [1, 2] rfl)
    · exact absurd (th_Vt_lengthen h9) (by decide)
  have hB_16 : ∀ (y_1 : Int32) (y_2 : Int32) (Y : CT) (G : CG) (S : CS) (H : Heap) (locs : List Loc) (ls : Array Slot), f_Vt_write_16 K y_1 y_2 G S = some (.error 1, G', S') → CG.le G0 G → va_P (dC, dI) classes (wV M Y G S) H → va_D A (wV M Y G S) → va_S A s.heap H locs → lv_has ls 7 [(0, .ref M.o_Vt), (1, .int y_1), (2, .int y_2)] → W p l e ({ frames := 8, cells := G'.gc - G0.gc, slots := G'.gs - G0.gs, locals := 224 }) s m ([.ref M.o_Vt, .int p0] : List Value).toArray below meth c H locs (G.gc - G0.gc) (G.gs - G0.gs) Q (F0 m 16 ls []) := by
    intro y_1 y_2 Y G S H locs ls h m0 hP hD hS hl
    have mF := mo_Vt_write_16 h
    rw [f_Vt_write_16] at h
    refine lv_aload_n hx hb d_Vt_write_16 rfl (lv_at hl 0 rfl) ?_
    refine lv_iload_n hx hb d_Vt_write_17 rfl (lv_at hl 1 rfl) ?_
    rcases lf_aT h with ⟨r_4, G_4, S_4, hc_4, h⟩ | h9
    · have mc := mo_Vt_fileHere hc_4
      have ml_4 := mo_Vt_fileHere hc_4
      have mF1 := mo_Vt_write_21 h
      have hFc := lx_free hD hS hA
      refine va_calli (va_runV (As := [.int y_1]) (rest := []) ⟨hx, hb, hml, hown, hts⟩ (l_Vt_fileHere l dC dI X _ hc_4) (cwV 1 hts (gwV good_Vq (u_Vq_Vt _ k_Vt_179) (u_Vq_Vt _ k_Vt_180) (u_Vq_Vt _ k_Vt_219) (u_Vq_Vt _ k_Vt_0) (wcs (u_Vq_Vt _ k_Vt_181) (fun _ h => h))) rfl rfl rfl (by decide +kernel) ⟨Nat.le_of_ble_eq_true rfl, Nat.le_of_ble_eq_true rfl⟩) (pv_ofE (X.same _) (fun U z1 z2 => X.mono _ _ U hFc (hEw _ _ hS U z1 z2)) hP hK hD (va_recv hK hP (ci := 11) (q0 := 0) rfl rfl)) rfl rfl hl.1 rfl (lv_room (Nat.le_of_ble_eq_true rfl)) d_Vt_write_18 ⟨ly_c1 m0.1 mc.1 mF1.1, ly_c1 m0.2 mc.2 mF1.2⟩) hS (fun q _ h => hFc q h) hFc (fun r_ Y_4 t H locs ht hvm hw hB hz1 hk1 hS => ?_)
      rw [hw]
      obtain ⟨hP, -, hD⟩ := hB
      rw [ht] at hP
      have hD := lx_dj hD hFc
      refine W.widen (k := G_4.gc - G0.gc) (n := G_4.gs - G0.gs) (ly_c2 m0.1 mc.1) (ly_c2 m0.2 mc.2) ?_
      have m0 := CG.le_tr m0 mc
      exact hB_21 y_2 r_4 Y_4 G_4 S_4 _ _ _ h m0 hP hD hS (lv_sub hl [0, 2] rfl)
    · exact absurd (th_Vt_fileHere h9) (by decide)
  have hB_13 : ∀ (y_1 : Int32) (y_2 : Int32) (z_1 : Int32) (Y : CT) (G : CG) (S : CS) (H : Heap) (locs : List Loc) (ls : Array Slot), f_Vt_write_13 K y_1 y_2 z_1 G S = some (.error 1, G', S') → CG.le G0 G → va_P (dC, dI) classes (wV M Y G S) H → va_D A (wV M Y G S) → va_S A s.heap H locs → lv_has ls 7 [(0, .ref M.o_Vt), (1, .int y_1), (2, .int y_2)] → W p l e ({ frames := 8, cells := G'.gc - G0.gc, slots := G'.gs - G0.gs, locals := 224 }) s m ([.ref M.o_Vt, .int p0] : List Value).toArray below meth c H locs (G.gc - G0.gc) (G.gs - G0.gs) Q (F0 m 13 ls [.int z_1, .ref M.o_Vt]) := by
    intro y_1 y_2 z_1 Y G S H locs ls h m0 hP hD hS hl
    have mF := mo_Vt_write_13 h
    rw [f_Vt_write_13] at h
    rcases lf_aT h with ⟨r_3, G_3, S_3, hc_3, h⟩ | h9
    · have mc := mo_Vt_wantSoundTable hc_3
      have ml_3 := mo_Vt_wantSoundTable hc_3
      have mF1 := mo_Vt_write_16 h
      have hFc := lx_free hD hS hA
      refine va_callv (va_runV (As := [.int z_1]) (rest := []) ⟨hx, hb, hml, hown, hts⟩ (l_Vt_wantSoundTable l dC dI X _ hc_3) (cwV 1 hts (gwV good_Vq (u_Vq_Vt _ k_Vt_166) (u_Vq_Vt _ k_Vt_167) (u_Vq_Vt _ k_Vt_216) (u_Vq_Vt _ k_Vt_0) (wcs (u_Vq_Vt _ k_Vt_168) (fun _ h => h))) rfl rfl rfl (by decide +kernel) ⟨Nat.le_of_ble_eq_true rfl, Nat.le_of_ble_eq_true rfl⟩) (pv_ofE (X.same _) (fun U z1 z2 => X.mono _ _ U hFc (hEw _ _ hS U z1 z2)) hP hK hD (va_recv hK hP (ci := 11) (q0 := 0) rfl rfl)) rfl rfl hl.1 rfl (lv_room (Nat.le_of_ble_eq_true rfl)) d_Vt_write_13 ⟨ly_c1 m0.1 mc.1 mF1.1, ly_c1 m0.2 mc.2 mF1.2⟩) hS (fun q _ h => hFc q h) hFc (fun Y_3 t H locs ht hvm hw hB hz1 hk1 hS => ?_)
      obtain ⟨hP, -, hD⟩ := hB
      rw [ht] at hP
      have hD := lx_dj hD hFc
      refine W.widen (k := G_3.gc - G0.gc) (n := G_3.gs - G0.gs) (ly_c2 m0.1 mc.1) (ly_c2 m0.2 mc.2) ?_
      have m0 := CG.le_tr m0 mc
      exact hB_16 y_1 y_2 Y_3 G_3 S_3 _ _ _ h m0 hP hD hS (lv_sub hl [0, 1, 2] rfl)
    · have mc := mo_Vt_wantSoundTable h9
      have hFc := lx_free hD hS hA
      rw [hQ]
      exact x_outV (n := 1) (As := [.int z_1]) (rest := []) (b := M.o_Vt) (st0 := [.int z_1, .ref M.o_Vt]) ⟨hx, hb, hml, hown, hts⟩ (lt_Vt_wantSoundTable_1 l hfl dC dI X _ h9) (cwV 1 hts (gwV good_Vq (u_Vq_Vt _ k_Vt_166) (u_Vq_Vt _ k_Vt_167) (u_Vq_Vt _ k_Vt_216) (u_Vq_Vt _ k_Vt_0) (wcs (u_Vq_Vt _ k_Vt_168) (fun _ h => h))) rfl rfl rfl (by decide +kernel) ⟨Nat.le_of_ble_eq_true rfl, Nat.le_of_ble_eq_true rfl⟩) (pv_ofE (X.same _) (fun U z1 z2 => X.mono _ _ U hFc (hEw _ _ hS U z1 z2)) hP hK hD (va_recv hK hP (ci := 11) (q0 := 0) rfl rfl)) rfl hl.1 rfl (Nat.le_of_ble_eq_true rfl) d_Vt_write_13 ⟨ly_c2 m0.1 mc.1, ly_c2 m0.2 mc.2⟩ hlocks hout ⟨ly_c2 m0.1 mc.1, ly_c2 m0.2 mc.2⟩ (fun E st t U z1 z2 z3 z4 z5 => ly_outQ hS hK hFc z1 z3 z4 z5) ⟨hS.2.2, fun z h => hFc z h⟩
  have m0 : CG.le G0 G0 := ⟨Nat.le_refl _, Nat.le_refl _⟩
  have mF := mo_Vt_write h
  refine W.widen (k := G0.gc - G0.gc) (n := G0.gs - G0.gs) (Nat.zero_le _) (Nat.zero_le _) ?_
  rw [f_Vt_write] at h
  refine lv_aload_n hx hb d_Vt_write_0 rfl (lv_at hl 0 rfl) ?_
  refine va_get (D := (dC, dI)) (ci := 11) (v := .ref M.o_Tp) (C := R_Vt) (T := F_Vt) (N := 16) hx hb hts (fun w h => u_Vq_Vt w (i_Vt w h)) hown hK hP 0 rfl rfl 1 (by decide) (hts _ (u_Vq_Vt _ k_Vt_30)) (fun _ h9 => h9) rfl d_Vt_write_1 ?_
  obtain ⟨r_1, S_1, hc_1, h⟩ := lf_cE h
  have hFc := lx_free hD hS hA
  refine va_calli (va_runV (As := []) (rest := []) ⟨hx, hb, hml, hown, hts⟩ (l_Tp_useUp l dC dI X _ hc_1) (cwV 0 hts (gwV good_Vq (u_Vq_Vt _ k_Vt_56) (u_Vq_Tp _ k_Tp_16) (u_Vq_Tp _ k_Tp_17) (u_Vq_Tp _ k_Tp_0) (wcs (u_Vq_Tp _ k_Tp_18) (fun _ h => h))) rfl rfl rfl (by decide +kernel) ⟨Nat.le_of_ble_eq_true rfl, Nat.le_of_ble_eq_true rfl⟩) (pv_ofE (X.same _) (fun U z1 z2 => X.mono _ _ U hFc (hEw _ _ hS U z1 z2)) hP hK hD (va_recv hK hP (ci := 3) (q0 := 2) rfl rfl)) rfl rfl hl.1 rfl (lv_room (Nat.le_of_ble_eq_true rfl)) d_Vt_write_4 ⟨ly_c0 mF.1, ly_c0 mF.2⟩) hS (fun q _ h => hFc q h) hFc (fun r_ u t H locs ht hvm hw hB hz1 hk1 hS => ?_)
  rw [hw]
  obtain ⟨hP, -, hD⟩ := hB
  rw [ht] at hP
  have hD := lx_dj hD hFc
  refine lv_istore_n (lv' := [(2, .int r_1), (0, .ref M.o_Vt), (1, .int p0)]) hx hb d_Vt_write_7 rfl hl (by decide) rfl (fun ls hl => ?_)
  refine lv_aload_n hx hb d_Vt_write_8 rfl (lv_at hl 1 rfl) ?_
  refine lv_aload_n hx hb d_Vt_write_9 rfl (lv_at hl 1 rfl) ?_
  obtain ⟨r_2, G_2, S_2, hc_2, h⟩ := lf_nE h
  have mc := mo_Vt_look hc_2
  have ml_2 := mo_Vt_look hc_2
  have mF1 := mo_Vt_write_13 h
  have hFc := lx_free hD hS hA
  refine va_calli (va_runV (As := []) (rest := [.ref M.o_Vt]) ⟨hx, hb, hml, hown, hts⟩ (l_Vt_look l dC dI X _ hc_2) (cwV 0 hts (gwV good_Vq (u_Vq_Vt _ k_Vt_68) (u_Vq_Vt _ k_Vt_69) (u_Vq_Vt _ k_Vt_214) (u_Vq_Vt _ k_Vt_0) (wcs (u_Vq_Vt _ k_Vt_70) (fun _ h => h))) rfl rfl rfl (by decide +kernel) ⟨Nat.le_of_ble_eq_true rfl, Nat.le_of_ble_eq_true rfl⟩) (pv_ofE (X.same _) (fun U z1 z2 => X.mono _ _ U hFc (hEw _ _ hS U z1 z2)) hP hK hD (va_recv hK hP (ci := 11) (q0 := 0) rfl rfl)) rfl rfl hl.1 rfl (lv_room (Nat.le_of_ble_eq_true rfl)) d_Vt_write_10 ⟨ly_c1 m0.1 mc.1 mF1.1, ly_c1 m0.2 mc.2 mF1.2⟩) hS (fun q _ h => hFc q h) hFc (fun r_ Y_2 t H locs ht hvm hw hB hz1 hk1 hS => ?_)
  rw [hw]
  obtain ⟨hP, -, hD⟩ := hB
  rw [ht] at hP
  have hD := lx_dj hD hFc
  refine W.widen (k := G_2.gc - G0.gc) (n := G_2.gs - G0.gs) (ly_c2 m0.1 mc.1) (ly_c2 m0.2 mc.2) ?_
  have m0 := CG.le_tr m0 mc
  exact hB_13 p0 r_1 r_2 Y_2 G_2 S_2 _ _ _ h m0 hP hD hS (lv_sub hl [1, 2, 0] rfl)
set_option maxHeartbeats 4000000 in
set_option maxRecDepth 100000 in
theorem lt_Vt_write_2 (l : Launch) (hfl : l.flags = pinnedFlags ++ [noTraceFlag]) (dC : Nat → ClassId) (dI : Nat → Nat → Nat) {K : Nat} {M : CA} {E : (Nat → Prop) → State → Prop} (X : ly_X l dC dI K M E) (sz : Nat) {Y : CT} {G0 G' : CG} {S S' : CS} {p0 : Int32} (h : f_Vt_write K G0 S p0 = some (.error 2, G', S')) : MetX l y_Vt_write (.code y_Vt_write cb_Vt_write 7 (some .int) :: V_Vq) ({ frames := 8, cells := G'.gc - G0.gc, slots := G'.gs - G0.gs, locals := 224 }) (va_Pc [.ref M.o_Vt, .int p0] (fun U => U.heap.size = sz ∧ at_ (dC, dI) (fun _ => True) (wV M Y G0 S) (tV M) U ∧ E (va_A (wV M Y G0 S) sz) U)) (fun _ _ _ _ => False) (x_Q "java/lang/IndexOutOfBoundsException" (va_A (wV M Y G0 S) sz) (fun t => ∃ u : CT, at_ (dC, dI) (va_A (wV M Y G0 S) sz) (wV M u G' S') (tV M) t)) (G'.gc - G0.gc) (G'.gs - G0.gs) (va_A (wV M Y G0 S) sz) := by
  refine MetX.ofW (cc := cb_Vt_write) (maxL := 7) (ret := (some .int)) (by decide) rfl ?_
  intro p e s m args below meth c s₁ B hml hv
  obtain ⟨rfl, hsz, ⟨hP, hK, hD0⟩, hE⟩ := hv
  have hx := B.exec
  have hb := B.bytes
  have hr := B.returns
  have hts0 := atoms_spec (ws := .code y_Vt_write cb_Vt_write 7 (some .int) :: V_Vq) B.pre
  have hts : ∀ w ∈ V_Vq, w.before ([.ref M.o_Vt, .int p0] : List Value).toArray s = true := fun w h => hts0 w (List.mem_cons_of_mem _ h)
  have hown : s.vm.findClass R_Vt = some m.cls := findClass_of_methodNamed B.named
  have hlocks := B.notSynchronized
  have hout := x_table B (hts0 _ List.mem_cons_self)
  subst hsz
  have hD := hD0.self (sz := s.heap.size)
  generalize hAe : va_A (wV M Y G0 S) s.heap.size = A at hD hE ⊢
  have hA : ∀ q : Nat, s.heap.size ≤ q → A q := fun q h => by rw [← hAe]; exact Or.inr h
  have hS : va_S A s.heap s.heap [] := va_S.rf
  have hP : va_P (dC, dI) classes (wV M Y G0 S) s.heap := hP
  have hK : va_K (dC, dI) classes (tV M) s := hK
  have hEw : ∀ (H : Heap) (locs : List Loc), va_S A s.heap H locs → ∀ U : State, U.heap = H → s.WarmedH U.vm → E A U := fun H locs hS U hU hW => X.kept A s U H locs hE hS hU hW
  have hl := lv_entry ([.ref M.o_Vt, .int p0]) (n := 7) (Nat.le_of_ble_eq_true rfl)
  rw [lg_entry_eq]
  generalize (lg_sl ([.ref M.o_Vt, .int p0]) ++ List.replicate (7 - (lg_sl ([.ref M.o_Vt, .int p0])).length) Slot.unset).toArray = ls at hl ⊢
  have hl : lv_has ls 7 [(0, .ref M.o_Vt), (1, .int p0)] := hl
  refine qabs (fun Q hQ => ?_)
  have hB_46 : ∀ (k : Nat), ∀ (y_2 : Int32) (y_4 : Int32) (y_5 : Int32) (y_6 : Int32) (Y : CT) (G : CG) (S : CS) (H : Heap) (locs : List Loc) (ls : Array Slot), f_Vt_write_46 K k y_2 y_4 y_5 y_6 G S = some (.error 2, G', S') → CG.le G0 G → va_P (dC, dI) classes (wV M Y G S) H → va_D A (wV M Y G S) → va_S A s.heap H locs → lv_has ls 7 [(0, .ref M.o_Vt), (2, .int y_2), (4, .int y_4), (5, .int y_5), (6, .int y_6)] → W p l e ({ frames := 8, cells := G'.gc - G0.gc, slots := G'.gs - G0.gs, locals := 224 }) s m ([.ref M.o_Vt, .int p0] : List Value).toArray below meth c H locs (G.gc - G0.gc) (G.gs - G0.gs) Q (F0 m 46 ls []) := by
    intro k
    induction k with
    | zero => intro y_2 y_4 y_5 y_6 Y G S H locs ls h; exact lf_no h
    | succ k hr_46 =>
      intro y_2 y_4 y_5 y_6 Y G S H locs ls h m0 hP hD hS hl
      have mF := mo_Vt_write_46 (k + 1) y_2 y_4 y_5 y_6 G S h
      have hm_46 : ∀ (y_2 : Int32) (y_4 : Int32) (y_5 : Int32) (y_6 : Int32) (G : CG) (S : CS) {x : Except Nat Int32} {G1 : CG} {S1 : CS}, f_Vt_write_46 K k y_2 y_4 y_5 y_6 G S = some (x, G1, S1) → CG.le G G1 := fun y_2 y_4 y_5 y_6 G S => mo_Vt_write_46 k y_2 y_4 y_5 y_6 G S
      rw [f_Vt_write_46] at h
      refine lv_iload hx hb d_Vt_write_46 (lv_at hl 4 rfl) ?_
      refine lv_iload_n hx hb d_Vt_write_48 rfl (lv_at hl 1 rfl) ?_
      refine lv_icmp_ge (tgt := 92) hx hb d_Vt_write_49 (by decide) (fun c_7 => ?_) (fun c_7 => ?_)
      · have h := lf_t h c_7
        refine lv_iload hx hb d_Vt_write_92 (lv_at hl 2 rfl) ?_
        refine lv_iload_n hx hb d_Vt_write_94 rfl (lv_at hl 1 rfl) ?_
        refine lv_iadd hx hb d_Vt_write_95 ?_
        exact lf_xo h
      · have h := lf_f h c_7
        refine lv_aload_n hx hb d_Vt_write_52 rfl (lv_at hl 0 rfl) ?_
        refine va_get (D := (dC, dI)) (ci := 11) (v := .ref M.o_Ed) (C := R_Vt) (T := F_Vt) (N := 16) hx hb hts (fun w h => u_Vq_Vt w (i_Vt w h)) hown hK hP 0 rfl rfl 5 (by decide) (hts _ (u_Vq_Vt _ k_Vt_34)) (fun _ h9 => h9) rfl d_Vt_write_53 ?_
        refine lv_iload hx hb d_Vt_write_56 (lv_at hl 3 rfl) ?_
        refine lv_iload hx hb d_Vt_write_58 (lv_at hl 2 rfl) ?_
        refine lv_iload hx hb d_Vt_write_60 (lv_at hl 4 rfl) ?_
        refine lv_iadd hx hb d_Vt_write_62 ?_
        obtain ⟨r_8, S_8, hc_8, h⟩ := lf_cE h
        have hFc := lx_free hD hS hA
        refine va_calli (va_runV (As := [.int y_5, .int (y_4 + y_6)]) (rest := []) ⟨hx, hb, hml, hown, hts⟩ (l_Ed_placeBehind l dC dI X _ hc_8) (cwV 2 hts (gwV good_Vq (u_Vq_Vt _ k_Vt_188) (u_Vq_Ed _ k_Ed_116) (u_Vq_Ed _ k_Ed_117) (u_Vq_Ed _ k_Ed_0) (wcs (u_Vq_Ed _ k_Ed_118) (fun _ h => h))) rfl rfl rfl (by decide +kernel) ⟨Nat.le_of_ble_eq_true rfl, Nat.le_of_ble_eq_true rfl⟩) (pv_ofE (X.same _) (fun U z1 z2 => X.mono _ _ U hFc (hEw _ _ hS U z1 z2)) hP hK hD (va_recv hK hP (ci := 8) (q0 := 6) rfl rfl)) rfl rfl hl.1 rfl (lv_room (Nat.le_of_ble_eq_true rfl)) d_Vt_write_63 ⟨ly_c0 mF.1, ly_c0 mF.2⟩) hS (fun q _ h => hFc q h) hFc (fun r_ u t H locs ht hvm hw hB hz1 hk1 hS => ?_)
        rw [hw]
        obtain ⟨hP, -, hD⟩ := hB
        rw [ht] at hP
        have hD := lx_dj hD hFc
        refine lv_istore (lv' := [(5, .int r_8), (0, .ref M.o_Vt), (2, .int y_2), (4, .int y_4), (6, .int y_6)]) hx hb d_Vt_write_66 hl (by decide) rfl (fun ls hl => ?_)
        refine lv_aload_n hx hb d_Vt_write_68 rfl (lv_at hl 1 rfl) ?_
        refine va_get (D := (dC, dI)) (ci := 11) (v := .ref M.o_Dk) (C := R_Vt) (T := F_Vt) (N := 16) hx hb hts (fun w h => u_Vq_Vt w (i_Vt w h)) hown hK hP 0 rfl rfl 0 (by decide) (hts _ (u_Vq_Vt _ k_Vt_29)) (fun _ h9 => h9) rfl d_Vt_write_69 ?_
        refine lv_iload hx hb d_Vt_write_72 (lv_at hl 0 rfl) ?_
        refine lv_aload_n hx hb d_Vt_write_74 rfl (lv_at hl 1 rfl) ?_
        refine va_get (D := (dC, dI)) (ci := 11) (v := .ref M.o_Tp) (C := R_Vt) (T := F_Vt) (N := 16) hx hb hts (fun w h => u_Vq_Vt w (i_Vt w h)) hown hK hP 0 rfl rfl 1 (by decide) (hts _ (u_Vq_Vt _ k_Vt_30)) (fun _ h9 => h9) rfl d_Vt_write_75 ?_
        refine lv_iload hx hb d_Vt_write_78 (lv_at hl 4 rfl) ?_
        obtain ⟨r_9, S_9, hc_9, h⟩ := lf_cE h
        have hFc := lx_free hD hS hA
        refine va_calli (va_runV (As := [.int y_6]) (rest := [.int r_8, .ref M.o_Dk]) ⟨hx, hb, hml, hown, hts⟩ (l_Tp_one l dC dI X _ hc_9) (cwV 1 hts (gwV good_Vq (u_Vq_Vt _ k_Vt_189) (u_Vq_Tp _ k_Tp_23) (u_Vq_Tp _ k_Tp_24) (u_Vq_Tp _ k_Tp_0) (wcs (u_Vq_Tp _ k_Tp_25) (fun _ h => h))) rfl rfl rfl (by decide +kernel) ⟨Nat.le_of_ble_eq_true rfl, Nat.le_of_ble_eq_true rfl⟩) (pv_ofE (X.same _) (fun U z1 z2 => X.mono _ _ U hFc (hEw _ _ hS U z1 z2)) hP hK hD (va_recv hK hP (ci := 3) (q0 := 2) rfl rfl)) rfl rfl hl.1 rfl (lv_room (Nat.le_of_ble_eq_true rfl)) d_Vt_write_80 ⟨ly_c0 mF.1, ly_c0 mF.2⟩) hS (fun q _ h => hFc q h) hFc (fun r_ u t H locs ht hvm hw hB hz1 hk1 hS => ?_)
        rw [hw]
        obtain ⟨hP, -, hD⟩ := hB
        rw [ht] at hP
        have hD := lx_dj hD hFc
        obtain ⟨S_10, hc_10, h⟩ := lf_bE h
        have hFc := lx_free hD hS hA
        refine va_callv (va_runV (As := [.int r_8, .int r_9]) (rest := []) ⟨hx, hb, hml, hown, hts⟩ (l_Dk_putOne l dC dI X _ hc_10) (cwV 2 hts (gwV good_Vq (u_Vq_Vt _ k_Vt_61) (u_Vq_Dk _ k_Dk_11) (u_Vq_Dk _ k_Dk_12) (u_Vq_Dk _ k_Dk_0) (wcs (u_Vq_Dk _ k_Dk_13) (fun _ h => h))) rfl rfl rfl (by decide +kernel) ⟨Nat.le_of_ble_eq_true rfl, Nat.le_of_ble_eq_true rfl⟩) (pv_ofE (X.same _) (fun U z1 z2 => X.mono _ _ U hFc (hEw _ _ hS U z1 z2)) hP hK hD (va_recv hK hP (ci := 0) (q0 := 1) rfl rfl)) rfl rfl hl.1 rfl (lv_room (Nat.le_of_ble_eq_true rfl)) d_Vt_write_83 ⟨ly_c0 mF.1, ly_c0 mF.2⟩) hS (fun q _ h => hFc q h) hFc (fun u t H locs ht hvm hw hB hz1 hk1 hS => ?_)
        obtain ⟨hP, -, hD⟩ := hB
        rw [ht] at hP
        have hD := lx_dj hD hFc
        obtain ⟨x_11, ex_11, h⟩ := lf_lX h
        refine lv_iinc (v := x_11) (lv' := [(6, .int x_11), (5, .int r_8), (0, .ref M.o_Vt), (2, .int y_2), (4, .int y_4)]) hx hb d_Vt_write_86 hl (k := 4) rfl (by rw [ex_11]; rfl) (by decide) rfl (fun ls hl => ?_)
        refine lv_goto (tgt := 46) hx hb d_Vt_write_89 (by decide) ?_
        exact hr_46 y_2 y_4 r_8 x_11 Y G S_10 _ _ _ h m0 hP hD hS (lv_sub hl [2, 3, 4, 1, 0] rfl)
  have hB_28 : ∀ (y_2 : Int32) (z_0 : Int32) (Y : CT) (G : CG) (S : CS) (H : Heap) (locs : List Loc) (ls : Array Slot), f_Vt_write_28 K y_2 z_0 G S = some (.error 2, G', S') → CG.le G0 G → va_P (dC, dI) classes (wV M Y G S) H → va_D A (wV M Y G S) → va_S A s.heap H locs → lv_has ls 7 [(0, .ref M.o_Vt), (2, .int y_2)] → W p l e ({ frames := 8, cells := G'.gc - G0.gc, slots := G'.gs - G0.gs, locals := 224 }) s m ([.ref M.o_Vt, .int p0] : List Value).toArray below meth c H locs (G.gc - G0.gc) (G.gs - G0.gs) Q (F0 m 28 ls [.int z_0]) := by
    intro y_2 z_0 Y G S H locs ls h m0 hP hD hS hl
    have mF := mo_Vt_write_28 h
    rw [f_Vt_write_28] at h
    refine lv_istore (lv' := [(4, .int z_0), (0, .ref M.o_Vt), (2, .int y_2)]) hx hb d_Vt_write_28 hl (by decide) rfl (fun ls hl => ?_)
    refine lv_aload_n hx hb d_Vt_write_30 rfl (lv_at hl 1 rfl) ?_
    refine va_get (D := (dC, dI)) (ci := 11) (v := .ref M.o_Ed) (C := R_Vt) (T := F_Vt) (N := 16) hx hb hts (fun w h => u_Vq_Vt w (i_Vt w h)) hown hK hP 0 rfl rfl 5 (by decide) (hts _ (u_Vq_Vt _ k_Vt_34)) (fun _ h9 => h9) rfl d_Vt_write_31 ?_
    refine lv_iload hx hb d_Vt_write_34 (lv_at hl 0 rfl) ?_
    refine lv_iconst (v := 1) hx hb d_Vt_write_36 (by decide) ?_
    refine lv_isub hx hb d_Vt_write_37 ?_
    obtain ⟨r_6, S_6, hc_6, h⟩ := lf_cE h
    have hFc := lx_free hD hS hA
    refine va_calli (va_runV (As := [.int (z_0 - 1)]) (rest := []) ⟨hx, hb, hml, hown, hts⟩ (l_Ed_placeOnRoad l dC dI X _ hc_6) (cwV 1 hts (gwV good_Vq (u_Vq_Vt _ k_Vt_187) (u_Vq_Ed _ k_Ed_33) (u_Vq_Ed _ k_Ed_34) (u_Vq_Ed _ k_Ed_0) (wcs (u_Vq_Ed _ k_Ed_35) (fun _ h => h))) rfl rfl rfl (by decide +kernel) ⟨Nat.le_of_ble_eq_true rfl, Nat.le_of_ble_eq_true rfl⟩) (pv_ofE (X.same _) (fun U z1 z2 => X.mono _ _ U hFc (hEw _ _ hS U z1 z2)) hP hK hD (va_recv hK hP (ci := 8) (q0 := 6) rfl rfl)) rfl rfl hl.1 rfl (lv_room (Nat.le_of_ble_eq_true rfl)) d_Vt_write_38 ⟨ly_c0 mF.1, ly_c0 mF.2⟩) hS (fun q _ h => hFc q h) hFc (fun r_ u t H locs ht hvm hw hB hz1 hk1 hS => ?_)
    rw [hw]
    obtain ⟨hP, -, hD⟩ := hB
    rw [ht] at hP
    have hD := lx_dj hD hFc
    refine lv_istore (lv' := [(5, .int r_6), (4, .int z_0), (0, .ref M.o_Vt), (2, .int y_2)]) hx hb d_Vt_write_41 hl (by decide) rfl (fun ls hl => ?_)
    refine lv_iconst (v := 0) hx hb d_Vt_write_43 (by decide) ?_
    refine lv_istore (lv' := [(6, .int 0), (5, .int r_6), (4, .int z_0), (0, .ref M.o_Vt), (2, .int y_2)]) hx hb d_Vt_write_44 hl (by decide) rfl (fun ls hl => ?_)
    exact hB_46 K y_2 z_0 r_6 0 Y G S_6 _ _ _ h m0 hP hD hS (lv_sub hl [3, 4, 2, 1, 0] rfl)
  have hB_21 : ∀ (y_2 : Int32) (z_0 : Int32) (Y : CT) (G : CG) (S : CS) (H : Heap) (locs : List Loc) (ls : Array Slot), f_Vt_write_21 K y_2 z_0 G S = some (.error 2, G', S') → CG.le G0 G → va_P (dC, dI) classes (wV M Y G S) H → va_D A (wV M Y G S) → va_S A s.heap H locs → lv_has ls 7 [(0, .ref M.o_Vt), (2, .int y_2)] → W p l e ({ frames := 8, cells := G'.gc - G0.gc, slots := G'.gs - G0.gs, locals := 224 }) s m ([.ref M.o_Vt, .int p0] : List Value).toArray below meth c H locs (G.gc - G0.gc) (G.gs - G0.gs) Q (F0 m 21 ls [.int z_0]) := by
    intro y_2 z_0 Y G S H locs ls h m0 hP hD hS hl
    have mF := mo_Vt_write_21 h
    rw [f_Vt_write_21] at h
    refine lv_istore_n (lv' := [(3, .int z_0), (0, .ref M.o_Vt), (2, .int y_2)]) hx hb d_Vt_write_21 rfl hl (by decide) rfl (fun ls hl => ?_)
    refine lv_aload_n hx hb d_Vt_write_22 rfl (lv_at hl 1 rfl) ?_
    refine lv_iload_n hx hb d_Vt_write_23 rfl (lv_at hl 0 rfl) ?_
    refine lv_iload_n hx hb d_Vt_write_24 rfl (lv_at hl 2 rfl) ?_
    rcases lf_aT h with ⟨r_5, G_5, S_5, hc_5, h⟩ | h9
    · have mc := mo_Vt_lengthen hc_5
      have ml_5 := mo_Vt_lengthen hc_5
      have mF1 := mo_Vt_write_28 h
      have hFc := lx_free hD hS hA
      refine va_calli (va_runV (As := [.int z_0, .int y_2]) (rest := []) ⟨hx, hb, hml, hown, hts⟩ (l_Vt_lengthen l dC dI X _ hc_5) (cwV 2 hts (gwV good_Vq (u_Vq_Vt _ k_Vt_182) (u_Vq_Vt _ k_Vt_183) (u_Vq_Vt _ k_Vt_220) (u_Vq_Vt _ k_Vt_0) (wcs (u_Vq_Vt _ k_Vt_184) (fun _ h => h))) rfl rfl rfl (by decide +kernel) ⟨Nat.le_of_ble_eq_true rfl, Nat.le_of_ble_eq_true rfl⟩) (pv_ofE (X.same _) (fun U z1 z2 => X.mono _ _ U hFc (hEw _ _ hS U z1 z2)) hP hK hD (va_recv hK hP (ci := 11) (q0 := 0) rfl rfl)) rfl rfl hl.1 rfl (lv_room (Nat.le_of_ble_eq_true rfl)) d_Vt_write_25 ⟨ly_c1 m0.1 mc.1 mF1.1, ly_c1 m0.2 mc.2 mF1.2⟩) hS (fun q _ h => hFc q h) hFc (fun r_ Y_5 t H locs ht hvm hw hB hz1 hk1 hS => ?_)
      rw [hw]
      obtain ⟨hP, -, hD⟩ := hB
      rw [ht] at hP
      have hD := lx_dj hD hFc
      refine W.widen (k := G_5.gc - G0.gc) (n := G_5.gs - G0.gs) (ly_c2 m0.1 mc.1) (ly_c2 m0.2 mc.2) ?_
      have m0 := CG.le_tr m0 mc
      exact hB_28 y_2 r_5 Y_5 G_5 S_5 _ _ _ h m0 hP hD hS (lv_sub hl [1, 2] rfl)
    · exact absurd (th_Vt_lengthen h9) (by decide)
  have hB_16 : ∀ (y_1 : Int32) (y_2 : Int32) (Y : CT) (G : CG) (S : CS) (H : Heap) (locs : List Loc) (ls : Array Slot), f_Vt_write_16 K y_1 y_2 G S = some (.error 2, G', S') → CG.le G0 G → va_P (dC, dI) classes (wV M Y G S) H → va_D A (wV M Y G S) → va_S A s.heap H locs → lv_has ls 7 [(0, .ref M.o_Vt), (1, .int y_1), (2, .int y_2)] → W p l e ({ frames := 8, cells := G'.gc - G0.gc, slots := G'.gs - G0.gs, locals := 224 }) s m ([.ref M.o_Vt, .int p0] : List Value).toArray below meth c H locs (G.gc - G0.gc) (G.gs - G0.gs) Q (F0 m 16 ls []) := by
    intro y_1 y_2 Y G S H locs ls h m0 hP hD hS hl
    have mF := mo_Vt_write_16 h
    rw [f_Vt_write_16] at h
    refine lv_aload_n hx hb d_Vt_write_16 rfl (lv_at hl 0 rfl) ?_
    refine lv_iload_n hx hb d_Vt_write_17 rfl (lv_at hl 1 rfl) ?_
    rcases lf_aT h with ⟨r_4, G_4, S_4, hc_4, h⟩ | h9
    · have mc := mo_Vt_fileHere hc_4
      have ml_4 := mo_Vt_fileHere hc_4
      have mF1 := mo_Vt_write_21 h
      have hFc := lx_free hD hS hA
      refine va_calli (va_runV (As := [.int y_1]) (rest := []) ⟨hx, hb, hml, hown, hts⟩ (l_Vt_fileHere l dC dI X _ hc_4) (cwV 1 hts (gwV good_Vq (u_Vq_Vt _ k_Vt_179) (u_Vq_Vt _ k_Vt_180) (u_Vq_Vt _ k_Vt_219) (u_Vq_Vt _ k_Vt_0) (wcs (u_Vq_Vt _ k_Vt_181) (fun _ h => h))) rfl rfl rfl (by decide +kernel) ⟨Nat.le_of_ble_eq_true rfl, Nat.le_of_ble_eq_true rfl⟩) (pv_ofE (X.same _) (fun U z1 z2 => X.mono _ _ U hFc (hEw _ _ hS U z1 z2)) hP hK hD (va_recv hK hP (ci := 11) (q0 := 0) rfl rfl)) rfl rfl hl.1 rfl (lv_room (Nat.le_of_ble_eq_true rfl)) d_Vt_write_18 ⟨ly_c1 m0.1 mc.1 mF1.1, ly_c1 m0.2 mc.2 mF1.2⟩) hS (fun q _ h => hFc q h) hFc (fun r_ Y_4 t H locs ht hvm hw hB hz1 hk1 hS => ?_)
      rw [hw]
      obtain ⟨hP, -, hD⟩ := hB
      rw [ht] at hP
      have hD := lx_dj hD hFc
      refine W.widen (k := G_4.gc - G0.gc) (n := G_4.gs - G0.gs) (ly_c2 m0.1 mc.1) (ly_c2 m0.2 mc.2) ?_
      have m0 := CG.le_tr m0 mc
      exact hB_21 y_2 r_4 Y_4 G_4 S_4 _ _ _ h m0 hP hD hS (lv_sub hl [0, 2] rfl)
    · have mc := mo_Vt_fileHere h9
      have hFc := lx_free hD hS hA
      rw [hQ]
      exact x_outV (n := 1) (As := [.int y_1]) (rest := []) (b := M.o_Vt) (st0 := [.int y_1, .ref M.o_Vt]) ⟨hx, hb, hml, hown, hts⟩ (lt_Vt_fileHere_2 l hfl dC dI X _ h9) (cwV 1 hts (gwV good_Vq (u_Vq_Vt _ k_Vt_179) (u_Vq_Vt _ k_Vt_180) (u_Vq_Vt _ k_Vt_219) (u_Vq_Vt _ k_Vt_0) (wcs (u_Vq_Vt _ k_Vt_181) (fun _ h => h))) rfl rfl rfl (by decide +kernel) ⟨Nat.le_of_ble_eq_true rfl, Nat.le_of_ble_eq_true rfl⟩) (pv_ofE (X.same _) (fun U z1 z2 => X.mono _ _ U hFc (hEw _ _ hS U z1 z2)) hP hK hD (va_recv hK hP (ci := 11) (q0 := 0) rfl rfl)) rfl hl.1 rfl (Nat.le_of_ble_eq_true rfl) d_Vt_write_18 ⟨ly_c2 m0.1 mc.1, ly_c2 m0.2 mc.2⟩ hlocks hout ⟨ly_c2 m0.1 mc.1, ly_c2 m0.2 mc.2⟩ (fun E st t U z1 z2 z3 z4 z5 => ly_outQ hS hK hFc z1 z3 z4 z5) ⟨hS.2.2, fun z h => hFc z h⟩
  have hB_13 : ∀ (y_1 : Int32) (y_2 : Int32) (z_1 : Int32) (Y : CT) (G : CG) (S : CS) (H : Heap) (locs : List Loc) (ls : Array Slot), f_Vt_write_13 K y_1 y_2 z_1 G S = some (.error 2, G', S') → CG.le G0 G → va_P (dC, dI) classes (wV M Y G S) H → va_D A (wV M Y G S) → va_S A s.heap H locs → lv_has ls 7 [(0, .ref M.o_Vt), (1, .int y_1), (2, .int y_2)] → W p l e ({ frames := 8, cells := G'.gc - G0.gc, slots := G'.gs - G0.gs, locals := 224 }) s m ([.ref M.o_Vt, .int p0] : List Value).toArray below meth c H locs (G.gc - G0.gc) (G.gs - G0.gs) Q (F0 m 13 ls [.int z_1, .ref M.o_Vt]) := by
    intro y_1 y_2 z_1 Y G S H locs ls h m0 hP hD hS hl
    have mF := mo_Vt_write_13 h
    rw [f_Vt_write_13] at h
    rcases lf_aT h with ⟨r_3, G_3, S_3, hc_3, h⟩ | h9
    · have mc := mo_Vt_wantSoundTable hc_3
      have ml_3 := mo_Vt_wantSoundTable hc_3
      have mF1 := mo_Vt_write_16 h
      have hFc := lx_free hD hS hA
      refine va_callv (va_runV (As := [.int z_1]) (rest := []) ⟨hx, hb, hml, hown, hts⟩ (l_Vt_wantSoundTable l dC dI X _ hc_3) (cwV 1 hts (gwV good_Vq (u_Vq_Vt _ k_Vt_166) (u_Vq_Vt _ k_Vt_167) (u_Vq_Vt _ k_Vt_216) (u_Vq_Vt _ k_Vt_0) (wcs (u_Vq_Vt _ k_Vt_168) (fun _ h => h))) rfl rfl rfl (by decide +kernel) ⟨Nat.le_of_ble_eq_true rfl, Nat.le_of_ble_eq_true rfl⟩) (pv_ofE (X.same _) (fun U z1 z2 => X.mono _ _ U hFc (hEw _ _ hS U z1 z2)) hP hK hD (va_recv hK hP (ci := 11) (q0 := 0) rfl rfl)) rfl rfl hl.1 rfl (lv_room (Nat.le_of_ble_eq_true rfl)) d_Vt_write_13 ⟨ly_c1 m0.1 mc.1 mF1.1, ly_c1 m0.2 mc.2 mF1.2⟩) hS (fun q _ h => hFc q h) hFc (fun Y_3 t H locs ht hvm hw hB hz1 hk1 hS => ?_)
      obtain ⟨hP, -, hD⟩ := hB
      rw [ht] at hP
      have hD := lx_dj hD hFc
      refine W.widen (k := G_3.gc - G0.gc) (n := G_3.gs - G0.gs) (ly_c2 m0.1 mc.1) (ly_c2 m0.2 mc.2) ?_
      have m0 := CG.le_tr m0 mc
      exact hB_16 y_1 y_2 Y_3 G_3 S_3 _ _ _ h m0 hP hD hS (lv_sub hl [0, 1, 2] rfl)
    · exact absurd (th_Vt_wantSoundTable h9) (by decide)
  have m0 : CG.le G0 G0 := ⟨Nat.le_refl _, Nat.le_refl _⟩
  have mF := mo_Vt_write h
  refine W.widen (k := G0.gc - G0.gc) (n := G0.gs - G0.gs) (Nat.zero_le _) (Nat.zero_le _) ?_
  rw [f_Vt_write] at h
  refine lv_aload_n hx hb d_Vt_write_0 rfl (lv_at hl 0 rfl) ?_
  refine va_get (D := (dC, dI)) (ci := 11) (v := .ref M.o_Tp) (C := R_Vt) (T := F_Vt) (N := 16) hx hb hts (fun w h => u_Vq_Vt w (i_Vt w h)) hown hK hP 0 rfl rfl 1 (by decide) (hts _ (u_Vq_Vt _ k_Vt_30)) (fun _ h9 => h9) rfl d_Vt_write_1 ?_
  obtain ⟨r_1, S_1, hc_1, h⟩ := lf_cE h
  have hFc := lx_free hD hS hA
  refine va_calli (va_runV (As := []) (rest := []) ⟨hx, hb, hml, hown, hts⟩ (l_Tp_useUp l dC dI X _ hc_1) (cwV 0 hts (gwV good_Vq (u_Vq_Vt _ k_Vt_56) (u_Vq_Tp _ k_Tp_16) (u_Vq_Tp _ k_Tp_17) (u_Vq_Tp _ k_Tp_0) (wcs (u_Vq_Tp _ k_Tp_18) (fun _ h => h))) rfl rfl rfl (by decide +kernel) ⟨Nat.le_of_ble_eq_true rfl, Nat.le_of_ble_eq_true rfl⟩) (pv_ofE (X.same _) (fun U z1 z2 => X.mono _ _ U hFc (hEw _ _ hS U z1 z2)) hP hK hD (va_recv hK hP (ci := 3) (q0 := 2) rfl rfl)) rfl rfl hl.1 rfl (lv_room (Nat.le_of_ble_eq_true rfl)) d_Vt_write_4 ⟨ly_c0 mF.1, ly_c0 mF.2⟩) hS (fun q _ h => hFc q h) hFc (fun r_ u t H locs ht hvm hw hB hz1 hk1 hS => ?_)
  rw [hw]
  obtain ⟨hP, -, hD⟩ := hB
  rw [ht] at hP
  have hD := lx_dj hD hFc
  refine lv_istore_n (lv' := [(2, .int r_1), (0, .ref M.o_Vt), (1, .int p0)]) hx hb d_Vt_write_7 rfl hl (by decide) rfl (fun ls hl => ?_)
  refine lv_aload_n hx hb d_Vt_write_8 rfl (lv_at hl 1 rfl) ?_
  refine lv_aload_n hx hb d_Vt_write_9 rfl (lv_at hl 1 rfl) ?_
  obtain ⟨r_2, G_2, S_2, hc_2, h⟩ := lf_nE h
  have mc := mo_Vt_look hc_2
  have ml_2 := mo_Vt_look hc_2
  have mF1 := mo_Vt_write_13 h
  have hFc := lx_free hD hS hA
  refine va_calli (va_runV (As := []) (rest := [.ref M.o_Vt]) ⟨hx, hb, hml, hown, hts⟩ (l_Vt_look l dC dI X _ hc_2) (cwV 0 hts (gwV good_Vq (u_Vq_Vt _ k_Vt_68) (u_Vq_Vt _ k_Vt_69) (u_Vq_Vt _ k_Vt_214) (u_Vq_Vt _ k_Vt_0) (wcs (u_Vq_Vt _ k_Vt_70) (fun _ h => h))) rfl rfl rfl (by decide +kernel) ⟨Nat.le_of_ble_eq_true rfl, Nat.le_of_ble_eq_true rfl⟩) (pv_ofE (X.same _) (fun U z1 z2 => X.mono _ _ U hFc (hEw _ _ hS U z1 z2)) hP hK hD (va_recv hK hP (ci := 11) (q0 := 0) rfl rfl)) rfl rfl hl.1 rfl (lv_room (Nat.le_of_ble_eq_true rfl)) d_Vt_write_10 ⟨ly_c1 m0.1 mc.1 mF1.1, ly_c1 m0.2 mc.2 mF1.2⟩) hS (fun q _ h => hFc q h) hFc (fun r_ Y_2 t H locs ht hvm hw hB hz1 hk1 hS => ?_)
  rw [hw]
  obtain ⟨hP, -, hD⟩ := hB
  rw [ht] at hP
  have hD := lx_dj hD hFc
  refine W.widen (k := G_2.gc - G0.gc) (n := G_2.gs - G0.gs) (ly_c2 m0.1 mc.1) (ly_c2 m0.2 mc.2) ?_
  have m0 := CG.le_tr m0 mc
  exact hB_13 p0 r_1 r_2 Y_2 G_2 S_2 _ _ _ h m0 hP hD hS (lv_sub hl [1, 2, 0] rfl)
set_option maxHeartbeats 4000000 in
set_option maxRecDepth 100000 in
theorem lt_Vt_write_3 (l : Launch) (hfl : l.flags = pinnedFlags ++ [noTraceFlag]) (dC : Nat → ClassId) (dI : Nat → Nat → Nat) {K : Nat} {M : CA} {E : (Nat → Prop) → State → Prop} (X : ly_X l dC dI K M E) (sz : Nat) {Y : CT} {G0 G' : CG} {S S' : CS} {p0 : Int32} (h : f_Vt_write K G0 S p0 = some (.error 3, G', S')) : MetX l y_Vt_write (.code y_Vt_write cb_Vt_write 7 (some .int) :: V_Vq) ({ frames := 8, cells := G'.gc - G0.gc, slots := G'.gs - G0.gs, locals := 224 }) (va_Pc [.ref M.o_Vt, .int p0] (fun U => U.heap.size = sz ∧ at_ (dC, dI) (fun _ => True) (wV M Y G0 S) (tV M) U ∧ E (va_A (wV M Y G0 S) sz) U)) (fun _ _ _ _ => False) (x_Q "java/lang/UnsupportedOperationException" (va_A (wV M Y G0 S) sz) (fun t => ∃ u : CT, at_ (dC, dI) (va_A (wV M Y G0 S) sz) (wV M u G' S') (tV M) t)) (G'.gc - G0.gc) (G'.gs - G0.gs) (va_A (wV M Y G0 S) sz) := by
  refine MetX.ofW (cc := cb_Vt_write) (maxL := 7) (ret := (some .int)) (by decide) rfl ?_
  intro p e s m args below meth c s₁ B hml hv
  obtain ⟨rfl, hsz, ⟨hP, hK, hD0⟩, hE⟩ := hv
  have hx := B.exec
  have hb := B.bytes
  have hr := B.returns
  have hts0 := atoms_spec (ws := .code y_Vt_write cb_Vt_write 7 (some .int) :: V_Vq) B.pre
  have hts : ∀ w ∈ V_Vq, w.before ([.ref M.o_Vt, .int p0] : List Value).toArray s = true := fun w h => hts0 w (List.mem_cons_of_mem _ h)
  have hown : s.vm.findClass R_Vt = some m.cls := findClass_of_methodNamed B.named
  have hlocks := B.notSynchronized
  have hout := x_table B (hts0 _ List.mem_cons_self)
  subst hsz
  have hD := hD0.self (sz := s.heap.size)
  generalize hAe : va_A (wV M Y G0 S) s.heap.size = A at hD hE ⊢
  have hA : ∀ q : Nat, s.heap.size ≤ q → A q := fun q h => by rw [← hAe]; exact Or.inr h
  have hS : va_S A s.heap s.heap [] := va_S.rf
  have hP : va_P (dC, dI) classes (wV M Y G0 S) s.heap := hP
  have hK : va_K (dC, dI) classes (tV M) s := hK
  have hEw : ∀ (H : Heap) (locs : List Loc), va_S A s.heap H locs → ∀ U : State, U.heap = H → s.WarmedH U.vm → E A U := fun H locs hS U hU hW => X.kept A s U H locs hE hS hU hW
  have hl := lv_entry ([.ref M.o_Vt, .int p0]) (n := 7) (Nat.le_of_ble_eq_true rfl)
  rw [lg_entry_eq]
  generalize (lg_sl ([.ref M.o_Vt, .int p0]) ++ List.replicate (7 - (lg_sl ([.ref M.o_Vt, .int p0])).length) Slot.unset).toArray = ls at hl ⊢
  have hl : lv_has ls 7 [(0, .ref M.o_Vt), (1, .int p0)] := hl
  refine qabs (fun Q hQ => ?_)
  have hB_46 : ∀ (k : Nat), ∀ (y_2 : Int32) (y_4 : Int32) (y_5 : Int32) (y_6 : Int32) (Y : CT) (G : CG) (S : CS) (H : Heap) (locs : List Loc) (ls : Array Slot), f_Vt_write_46 K k y_2 y_4 y_5 y_6 G S = some (.error 3, G', S') → CG.le G0 G → va_P (dC, dI) classes (wV M Y G S) H → va_D A (wV M Y G S) → va_S A s.heap H locs → lv_has ls 7 [(0, .ref M.o_Vt), (2, .int y_2), (4, .int y_4), (5, .int y_5), (6, .int y_6)] → W p l e ({ frames := 8, cells := G'.gc - G0.gc, slots := G'.gs - G0.gs, locals := 224 }) s m ([.ref M.o_Vt, .int p0] : List Value).toArray below meth c H locs (G.gc - G0.gc) (G.gs - G0.gs) Q (F0 m 46 ls []) := by
    intro k
    induction k with
    | zero => intro y_2 y_4 y_5 y_6 Y G S H locs ls h; exact lf_no h
    | succ k hr_46 =>
      intro y_2 y_4 y_5 y_6 Y G S H locs ls h m0 hP hD hS hl
      have mF := mo_Vt_write_46 (k + 1) y_2 y_4 y_5 y_6 G S h
      have hm_46 : ∀ (y_2 : Int32) (y_4 : Int32) (y_5 : Int32) (y_6 : Int32) (G : CG) (S : CS) {x : Except Nat Int32} {G1 : CG} {S1 : CS}, f_Vt_write_46 K k y_2 y_4 y_5 y_6 G S = some (x, G1, S1) → CG.le G G1 := fun y_2 y_4 y_5 y_6 G S => mo_Vt_write_46 k y_2 y_4 y_5 y_6 G S
      rw [f_Vt_write_46] at h
      refine lv_iload hx hb d_Vt_write_46 (lv_at hl 4 rfl) ?_
      refine lv_iload_n hx hb d_Vt_write_48 rfl (lv_at hl 1 rfl) ?_
      refine lv_icmp_ge (tgt := 92) hx hb d_Vt_write_49 (by decide) (fun c_7 => ?_) (fun c_7 => ?_)
      · have h := lf_t h c_7
        refine lv_iload hx hb d_Vt_write_92 (lv_at hl 2 rfl) ?_
        refine lv_iload_n hx hb d_Vt_write_94 rfl (lv_at hl 1 rfl) ?_
        refine lv_iadd hx hb d_Vt_write_95 ?_
        exact lf_xo h
      · have h := lf_f h c_7
        refine lv_aload_n hx hb d_Vt_write_52 rfl (lv_at hl 0 rfl) ?_
        refine va_get (D := (dC, dI)) (ci := 11) (v := .ref M.o_Ed) (C := R_Vt) (T := F_Vt) (N := 16) hx hb hts (fun w h => u_Vq_Vt w (i_Vt w h)) hown hK hP 0 rfl rfl 5 (by decide) (hts _ (u_Vq_Vt _ k_Vt_34)) (fun _ h9 => h9) rfl d_Vt_write_53 ?_
        refine lv_iload hx hb d_Vt_write_56 (lv_at hl 3 rfl) ?_
        refine lv_iload hx hb d_Vt_write_58 (lv_at hl 2 rfl) ?_
        refine lv_iload hx hb d_Vt_write_60 (lv_at hl 4 rfl) ?_
        refine lv_iadd hx hb d_Vt_write_62 ?_
        obtain ⟨r_8, S_8, hc_8, h⟩ := lf_cE h
        have hFc := lx_free hD hS hA
        refine va_calli (va_runV (As := [.int y_5, .int (y_4 + y_6)]) (rest := []) ⟨hx, hb, hml, hown, hts⟩ (l_Ed_placeBehind l dC dI X _ hc_8) (cwV 2 hts (gwV good_Vq (u_Vq_Vt _ k_Vt_188) (u_Vq_Ed _ k_Ed_116) (u_Vq_Ed _ k_Ed_117) (u_Vq_Ed _ k_Ed_0) (wcs (u_Vq_Ed _ k_Ed_118) (fun _ h => h))) rfl rfl rfl (by decide +kernel) ⟨Nat.le_of_ble_eq_true rfl, Nat.le_of_ble_eq_true rfl⟩) (pv_ofE (X.same _) (fun U z1 z2 => X.mono _ _ U hFc (hEw _ _ hS U z1 z2)) hP hK hD (va_recv hK hP (ci := 8) (q0 := 6) rfl rfl)) rfl rfl hl.1 rfl (lv_room (Nat.le_of_ble_eq_true rfl)) d_Vt_write_63 ⟨ly_c0 mF.1, ly_c0 mF.2⟩) hS (fun q _ h => hFc q h) hFc (fun r_ u t H locs ht hvm hw hB hz1 hk1 hS => ?_)
        rw [hw]
        obtain ⟨hP, -, hD⟩ := hB
        rw [ht] at hP
        have hD := lx_dj hD hFc
        refine lv_istore (lv' := [(5, .int r_8), (0, .ref M.o_Vt), (2, .int y_2), (4, .int y_4), (6, .int y_6)]) hx hb d_Vt_write_66 hl (by decide) rfl (fun ls hl => ?_)
        refine lv_aload_n hx hb d_Vt_write_68 rfl (lv_at hl 1 rfl) ?_
        refine va_get (D := (dC, dI)) (ci := 11) (v := .ref M.o_Dk) (C := R_Vt) (T := F_Vt) (N := 16) hx hb hts (fun w h => u_Vq_Vt w (i_Vt w h)) hown hK hP 0 rfl rfl 0 (by decide) (hts _ (u_Vq_Vt _ k_Vt_29)) (fun _ h9 => h9) rfl d_Vt_write_69 ?_
        refine lv_iload hx hb d_Vt_write_72 (lv_at hl 0 rfl) ?_
        refine lv_aload_n hx hb d_Vt_write_74 rfl (lv_at hl 1 rfl) ?_
        refine va_get (D := (dC, dI)) (ci := 11) (v := .ref M.o_Tp) (C := R_Vt) (T := F_Vt) (N := 16) hx hb hts (fun w h => u_Vq_Vt w (i_Vt w h)) hown hK hP 0 rfl rfl 1 (by decide) (hts _ (u_Vq_Vt _ k_Vt_30)) (fun _ h9 => h9) rfl d_Vt_write_75 ?_
        refine lv_iload hx hb d_Vt_write_78 (lv_at hl 4 rfl) ?_
        obtain ⟨r_9, S_9, hc_9, h⟩ := lf_cE h
        have hFc := lx_free hD hS hA
        refine va_calli (va_runV (As := [.int y_6]) (rest := [.int r_8, .ref M.o_Dk]) ⟨hx, hb, hml, hown, hts⟩ (l_Tp_one l dC dI X _ hc_9) (cwV 1 hts (gwV good_Vq (u_Vq_Vt _ k_Vt_189) (u_Vq_Tp _ k_Tp_23) (u_Vq_Tp _ k_Tp_24) (u_Vq_Tp _ k_Tp_0) (wcs (u_Vq_Tp _ k_Tp_25) (fun _ h => h))) rfl rfl rfl (by decide +kernel) ⟨Nat.le_of_ble_eq_true rfl, Nat.le_of_ble_eq_true rfl⟩) (pv_ofE (X.same _) (fun U z1 z2 => X.mono _ _ U hFc (hEw _ _ hS U z1 z2)) hP hK hD (va_recv hK hP (ci := 3) (q0 := 2) rfl rfl)) rfl rfl hl.1 rfl (lv_room (Nat.le_of_ble_eq_true rfl)) d_Vt_write_80 ⟨ly_c0 mF.1, ly_c0 mF.2⟩) hS (fun q _ h => hFc q h) hFc (fun r_ u t H locs ht hvm hw hB hz1 hk1 hS => ?_)
        rw [hw]
        obtain ⟨hP, -, hD⟩ := hB
        rw [ht] at hP
        have hD := lx_dj hD hFc
        obtain ⟨S_10, hc_10, h⟩ := lf_bE h
        have hFc := lx_free hD hS hA
        refine va_callv (va_runV (As := [.int r_8, .int r_9]) (rest := []) ⟨hx, hb, hml, hown, hts⟩ (l_Dk_putOne l dC dI X _ hc_10) (cwV 2 hts (gwV good_Vq (u_Vq_Vt _ k_Vt_61) (u_Vq_Dk _ k_Dk_11) (u_Vq_Dk _ k_Dk_12) (u_Vq_Dk _ k_Dk_0) (wcs (u_Vq_Dk _ k_Dk_13) (fun _ h => h))) rfl rfl rfl (by decide +kernel) ⟨Nat.le_of_ble_eq_true rfl, Nat.le_of_ble_eq_true rfl⟩) (pv_ofE (X.same _) (fun U z1 z2 => X.mono _ _ U hFc (hEw _ _ hS U z1 z2)) hP hK hD (va_recv hK hP (ci := 0) (q0 := 1) rfl rfl)) rfl rfl hl.1 rfl (lv_room (Nat.le_of_ble_eq_true rfl)) d_Vt_write_83 ⟨ly_c0 mF.1, ly_c0 mF.2⟩) hS (fun q _ h => hFc q h) hFc (fun u t H locs ht hvm hw hB hz1 hk1 hS => ?_)
        obtain ⟨hP, -, hD⟩ := hB
        rw [ht] at hP
        have hD := lx_dj hD hFc
        obtain ⟨x_11, ex_11, h⟩ := lf_lX h
        refine lv_iinc (v := x_11) (lv' := [(6, .int x_11), (5, .int r_8), (0, .ref M.o_Vt), (2, .int y_2), (4, .int y_4)]) hx hb d_Vt_write_86 hl (k := 4) rfl (by rw [ex_11]; rfl) (by decide) rfl (fun ls hl => ?_)
        refine lv_goto (tgt := 46) hx hb d_Vt_write_89 (by decide) ?_
        exact hr_46 y_2 y_4 r_8 x_11 Y G S_10 _ _ _ h m0 hP hD hS (lv_sub hl [2, 3, 4, 1, 0] rfl)
  have hB_28 : ∀ (y_2 : Int32) (z_0 : Int32) (Y : CT) (G : CG) (S : CS) (H : Heap) (locs : List Loc) (ls : Array Slot), f_Vt_write_28 K y_2 z_0 G S = some (.error 3, G', S') → CG.le G0 G → va_P (dC, dI) classes (wV M Y G S) H → va_D A (wV M Y G S) → va_S A s.heap H locs → lv_has ls 7 [(0, .ref M.o_Vt), (2, .int y_2)] → W p l e ({ frames := 8, cells := G'.gc - G0.gc, slots := G'.gs - G0.gs, locals := 224 }) s m ([.ref M.o_Vt, .int p0] : List Value).toArray below meth c H locs (G.gc - G0.gc) (G.gs - G0.gs) Q (F0 m 28 ls [.int z_0]) := by
    intro y_2 z_0 Y G S H locs ls h m0 hP hD hS hl
    have mF := mo_Vt_write_28 h
    rw [f_Vt_write_28] at h
    refine lv_istore (lv' := [(4, .int z_0), (0, .ref M.o_Vt), (2, .int y_2)]) hx hb d_Vt_write_28 hl (by decide) rfl (fun ls hl => ?_)
    refine lv_aload_n hx hb d_Vt_write_30 rfl (lv_at hl 1 rfl) ?_
    refine va_get (D := (dC, dI)) (ci := 11) (v := .ref M.o_Ed) (C := R_Vt) (T := F_Vt) (N := 16) hx hb hts (fun w h => u_Vq_Vt w (i_Vt w h)) hown hK hP 0 rfl rfl 5 (by decide) (hts _ (u_Vq_Vt _ k_Vt_34)) (fun _ h9 => h9) rfl d_Vt_write_31 ?_
    refine lv_iload hx hb d_Vt_write_34 (lv_at hl 0 rfl) ?_
    refine lv_iconst (v := 1) hx hb d_Vt_write_36 (by decide) ?_
    refine lv_isub hx hb d_Vt_write_37 ?_
    obtain ⟨r_6, S_6, hc_6, h⟩ := lf_cE h
    have hFc := lx_free hD hS hA
    refine va_calli (va_runV (As := [.int (z_0 - 1)]) (rest := []) ⟨hx, hb, hml, hown, hts⟩ (l_Ed_placeOnRoad l dC dI X _ hc_6) (cwV 1 hts (gwV good_Vq (u_Vq_Vt _ k_Vt_187) (u_Vq_Ed _ k_Ed_33) (u_Vq_Ed _ k_Ed_34) (u_Vq_Ed _ k_Ed_0) (wcs (u_Vq_Ed _ k_Ed_35) (fun _ h => h))) rfl rfl rfl (by decide +kernel) ⟨Nat.le_of_ble_eq_true rfl, Nat.le_of_ble_eq_true rfl⟩) (pv_ofE (X.same _) (fun U z1 z2 => X.mono _ _ U hFc (hEw _ _ hS U z1 z2)) hP hK hD (va_recv hK hP (ci := 8) (q0 := 6) rfl rfl)) rfl rfl hl.1 rfl (lv_room (Nat.le_of_ble_eq_true rfl)) d_Vt_write_38 ⟨ly_c0 mF.1, ly_c0 mF.2⟩) hS (fun q _ h => hFc q h) hFc (fun r_ u t H locs ht hvm hw hB hz1 hk1 hS => ?_)
    rw [hw]
    obtain ⟨hP, -, hD⟩ := hB
    rw [ht] at hP
    have hD := lx_dj hD hFc
    refine lv_istore (lv' := [(5, .int r_6), (4, .int z_0), (0, .ref M.o_Vt), (2, .int y_2)]) hx hb d_Vt_write_41 hl (by decide) rfl (fun ls hl => ?_)
    refine lv_iconst (v := 0) hx hb d_Vt_write_43 (by decide) ?_
    refine lv_istore (lv' := [(6, .int 0), (5, .int r_6), (4, .int z_0), (0, .ref M.o_Vt), (2, .int y_2)]) hx hb d_Vt_write_44 hl (by decide) rfl (fun ls hl => ?_)
    exact hB_46 K y_2 z_0 r_6 0 Y G S_6 _ _ _ h m0 hP hD hS (lv_sub hl [3, 4, 2, 1, 0] rfl)
  have hB_21 : ∀ (y_2 : Int32) (z_0 : Int32) (Y : CT) (G : CG) (S : CS) (H : Heap) (locs : List Loc) (ls : Array Slot), f_Vt_write_21 K y_2 z_0 G S = some (.error 3, G', S') → CG.le G0 G → va_P (dC, dI) classes (wV M Y G S) H → va_D A (wV M Y G S) → va_S A s.heap H locs → lv_has ls 7 [(0, .ref M.o_Vt), (2, .int y_2)] → W p l e ({ frames := 8, cells := G'.gc - G0.gc, slots := G'.gs - G0.gs, locals := 224 }) s m ([.ref M.o_Vt, .int p0] : List Value).toArray below meth c H locs (G.gc - G0.gc) (G.gs - G0.gs) Q (F0 m 21 ls [.int z_0]) := by
    intro y_2 z_0 Y G S H locs ls h m0 hP hD hS hl
    have mF := mo_Vt_write_21 h
    rw [f_Vt_write_21] at h
    refine lv_istore_n (lv' := [(3, .int z_0), (0, .ref M.o_Vt), (2, .int y_2)]) hx hb d_Vt_write_21 rfl hl (by decide) rfl (fun ls hl => ?_)
    refine lv_aload_n hx hb d_Vt_write_22 rfl (lv_at hl 1 rfl) ?_
    refine lv_iload_n hx hb d_Vt_write_23 rfl (lv_at hl 0 rfl) ?_
    refine lv_iload_n hx hb d_Vt_write_24 rfl (lv_at hl 2 rfl) ?_
    rcases lf_aT h with ⟨r_5, G_5, S_5, hc_5, h⟩ | h9
    · have mc := mo_Vt_lengthen hc_5
      have ml_5 := mo_Vt_lengthen hc_5
      have mF1 := mo_Vt_write_28 h
      have hFc := lx_free hD hS hA
      refine va_calli (va_runV (As := [.int z_0, .int y_2]) (rest := []) ⟨hx, hb, hml, hown, hts⟩ (l_Vt_lengthen l dC dI X _ hc_5) (cwV 2 hts (gwV good_Vq (u_Vq_Vt _ k_Vt_182) (u_Vq_Vt _ k_Vt_183) (u_Vq_Vt _ k_Vt_220) (u_Vq_Vt _ k_Vt_0) (wcs (u_Vq_Vt _ k_Vt_184) (fun _ h => h))) rfl rfl rfl (by decide +kernel) ⟨Nat.le_of_ble_eq_true rfl, Nat.le_of_ble_eq_true rfl⟩) (pv_ofE (X.same _) (fun U z1 z2 => X.mono _ _ U hFc (hEw _ _ hS U z1 z2)) hP hK hD (va_recv hK hP (ci := 11) (q0 := 0) rfl rfl)) rfl rfl hl.1 rfl (lv_room (Nat.le_of_ble_eq_true rfl)) d_Vt_write_25 ⟨ly_c1 m0.1 mc.1 mF1.1, ly_c1 m0.2 mc.2 mF1.2⟩) hS (fun q _ h => hFc q h) hFc (fun r_ Y_5 t H locs ht hvm hw hB hz1 hk1 hS => ?_)
      rw [hw]
      obtain ⟨hP, -, hD⟩ := hB
      rw [ht] at hP
      have hD := lx_dj hD hFc
      refine W.widen (k := G_5.gc - G0.gc) (n := G_5.gs - G0.gs) (ly_c2 m0.1 mc.1) (ly_c2 m0.2 mc.2) ?_
      have m0 := CG.le_tr m0 mc
      exact hB_28 y_2 r_5 Y_5 G_5 S_5 _ _ _ h m0 hP hD hS (lv_sub hl [1, 2] rfl)
    · have mc := mo_Vt_lengthen h9
      have hFc := lx_free hD hS hA
      rw [hQ]
      exact x_outV (n := 2) (As := [.int z_0, .int y_2]) (rest := []) (b := M.o_Vt) (st0 := [.int y_2, .int z_0, .ref M.o_Vt]) ⟨hx, hb, hml, hown, hts⟩ (lt_Vt_lengthen_3 l hfl dC dI X _ h9) (cwV 2 hts (gwV good_Vq (u_Vq_Vt _ k_Vt_182) (u_Vq_Vt _ k_Vt_183) (u_Vq_Vt _ k_Vt_220) (u_Vq_Vt _ k_Vt_0) (wcs (u_Vq_Vt _ k_Vt_184) (fun _ h => h))) rfl rfl rfl (by decide +kernel) ⟨Nat.le_of_ble_eq_true rfl, Nat.le_of_ble_eq_true rfl⟩) (pv_ofE (X.same _) (fun U z1 z2 => X.mono _ _ U hFc (hEw _ _ hS U z1 z2)) hP hK hD (va_recv hK hP (ci := 11) (q0 := 0) rfl rfl)) rfl hl.1 rfl (Nat.le_of_ble_eq_true rfl) d_Vt_write_25 ⟨ly_c2 m0.1 mc.1, ly_c2 m0.2 mc.2⟩ hlocks hout ⟨ly_c2 m0.1 mc.1, ly_c2 m0.2 mc.2⟩ (fun E st t U z1 z2 z3 z4 z5 => ly_outQ hS hK hFc z1 z3 z4 z5) ⟨hS.2.2, fun z h => hFc z h⟩
  have hB_16 : ∀ (y_1 : Int32) (y_2 : Int32) (Y : CT) (G : CG) (S : CS) (H : Heap) (locs : List Loc) (ls : Array Slot), f_Vt_write_16 K y_1 y_2 G S = some (.error 3, G', S') → CG.le G0 G → va_P (dC, dI) classes (wV M Y G S) H → va_D A (wV M Y G S) → va_S A s.heap H locs → lv_has ls 7 [(0, .ref M.o_Vt), (1, .int y_1), (2, .int y_2)] → W p l e ({ frames := 8, cells := G'.gc - G0.gc, slots := G'.gs - G0.gs, locals := 224 }) s m ([.ref M.o_Vt, .int p0] : List Value).toArray below meth c H locs (G.gc - G0.gc) (G.gs - G0.gs) Q (F0 m 16 ls []) := by
    intro y_1 y_2 Y G S H locs ls h m0 hP hD hS hl
    have mF := mo_Vt_write_16 h
    rw [f_Vt_write_16] at h
    refine lv_aload_n hx hb d_Vt_write_16 rfl (lv_at hl 0 rfl) ?_
    refine lv_iload_n hx hb d_Vt_write_17 rfl (lv_at hl 1 rfl) ?_
    rcases lf_aT h with ⟨r_4, G_4, S_4, hc_4, h⟩ | h9
    · have mc := mo_Vt_fileHere hc_4
      have ml_4 := mo_Vt_fileHere hc_4
      have mF1 := mo_Vt_write_21 h
      have hFc := lx_free hD hS hA
      refine va_calli (va_runV (As := [.int y_1]) (rest := []) ⟨hx, hb, hml, hown, hts⟩ (l_Vt_fileHere l dC dI X _ hc_4) (cwV 1 hts (gwV good_Vq (u_Vq_Vt _ k_Vt_179) (u_Vq_Vt _ k_Vt_180) (u_Vq_Vt _ k_Vt_219) (u_Vq_Vt _ k_Vt_0) (wcs (u_Vq_Vt _ k_Vt_181) (fun _ h => h))) rfl rfl rfl (by decide +kernel) ⟨Nat.le_of_ble_eq_true rfl, Nat.le_of_ble_eq_true rfl⟩) (pv_ofE (X.same _) (fun U z1 z2 => X.mono _ _ U hFc (hEw _ _ hS U z1 z2)) hP hK hD (va_recv hK hP (ci := 11) (q0 := 0) rfl rfl)) rfl rfl hl.1 rfl (lv_room (Nat.le_of_ble_eq_true rfl)) d_Vt_write_18 ⟨ly_c1 m0.1 mc.1 mF1.1, ly_c1 m0.2 mc.2 mF1.2⟩) hS (fun q _ h => hFc q h) hFc (fun r_ Y_4 t H locs ht hvm hw hB hz1 hk1 hS => ?_)
      rw [hw]
      obtain ⟨hP, -, hD⟩ := hB
      rw [ht] at hP
      have hD := lx_dj hD hFc
      refine W.widen (k := G_4.gc - G0.gc) (n := G_4.gs - G0.gs) (ly_c2 m0.1 mc.1) (ly_c2 m0.2 mc.2) ?_
      have m0 := CG.le_tr m0 mc
      exact hB_21 y_2 r_4 Y_4 G_4 S_4 _ _ _ h m0 hP hD hS (lv_sub hl [0, 2] rfl)
    · exact absurd (th_Vt_fileHere h9) (by decide)
  have hB_13 : ∀ (y_1 : Int32) (y_2 : Int32) (z_1 : Int32) (Y : CT) (G : CG) (S : CS) (H : Heap) (locs : List Loc) (ls : Array Slot), f_Vt_write_13 K y_1 y_2 z_1 G S = some (.error 3, G', S') → CG.le G0 G → va_P (dC, dI) classes (wV M Y G S) H → va_D A (wV M Y G S) → va_S A s.heap H locs → lv_has ls 7 [(0, .ref M.o_Vt), (1, .int y_1), (2, .int y_2)] → W p l e ({ frames := 8, cells := G'.gc - G0.gc, slots := G'.gs - G0.gs, locals := 224 }) s m ([.ref M.o_Vt, .int p0] : List Value).toArray below meth c H locs (G.gc - G0.gc) (G.gs - G0.gs) Q (F0 m 13 ls [.int z_1, .ref M.o_Vt]) := by
    intro y_1 y_2 z_1 Y G S H locs ls h m0 hP hD hS hl
    have mF := mo_Vt_write_13 h
    rw [f_Vt_write_13] at h
    rcases lf_aT h with ⟨r_3, G_3, S_3, hc_3, h⟩ | h9
    · have mc := mo_Vt_wantSoundTable hc_3
      have ml_3 := mo_Vt_wantSoundTable hc_3
      have mF1 := mo_Vt_write_16 h
      have hFc := lx_free hD hS hA
      refine va_callv (va_runV (As := [.int z_1]) (rest := []) ⟨hx, hb, hml, hown, hts⟩ (l_Vt_wantSoundTable l dC dI X _ hc_3) (cwV 1 hts (gwV good_Vq (u_Vq_Vt _ k_Vt_166) (u_Vq_Vt _ k_Vt_167) (u_Vq_Vt _ k_Vt_216) (u_Vq_Vt _ k_Vt_0) (wcs (u_Vq_Vt _ k_Vt_168) (fun _ h => h))) rfl rfl rfl (by decide +kernel) ⟨Nat.le_of_ble_eq_true rfl, Nat.le_of_ble_eq_true rfl⟩) (pv_ofE (X.same _) (fun U z1 z2 => X.mono _ _ U hFc (hEw _ _ hS U z1 z2)) hP hK hD (va_recv hK hP (ci := 11) (q0 := 0) rfl rfl)) rfl rfl hl.1 rfl (lv_room (Nat.le_of_ble_eq_true rfl)) d_Vt_write_13 ⟨ly_c1 m0.1 mc.1 mF1.1, ly_c1 m0.2 mc.2 mF1.2⟩) hS (fun q _ h => hFc q h) hFc (fun Y_3 t H locs ht hvm hw hB hz1 hk1 hS => ?_)
      obtain ⟨hP, -, hD⟩ := hB
      rw [ht] at hP
      have hD := lx_dj hD hFc
      refine W.widen (k := G_3.gc - G0.gc) (n := G_3.gs - G0.gs) (ly_c2 m0.1 mc.1) (ly_c2 m0.2 mc.2) ?_
      have m0 := CG.le_tr m0 mc
      exact hB_16 y_1 y_2 Y_3 G_3 S_3 _ _ _ h m0 hP hD hS (lv_sub hl [0, 1, 2] rfl)
    · exact absurd (th_Vt_wantSoundTable h9) (by decide)
  have m0 : CG.le G0 G0 := ⟨Nat.le_refl _, Nat.le_refl _⟩
  have mF := mo_Vt_write h
  refine W.widen (k := G0.gc - G0.gc) (n := G0.gs - G0.gs) (Nat.zero_le _) (Nat.zero_le _) ?_
  rw [f_Vt_write] at h
  refine lv_aload_n hx hb d_Vt_write_0 rfl (lv_at hl 0 rfl) ?_
  refine va_get (D := (dC, dI)) (ci := 11) (v := .ref M.o_Tp) (C := R_Vt) (T := F_Vt) (N := 16) hx hb hts (fun w h => u_Vq_Vt w (i_Vt w h)) hown hK hP 0 rfl rfl 1 (by decide) (hts _ (u_Vq_Vt _ k_Vt_30)) (fun _ h9 => h9) rfl d_Vt_write_1 ?_
  obtain ⟨r_1, S_1, hc_1, h⟩ := lf_cE h
  have hFc := lx_free hD hS hA
  refine va_calli (va_runV (As := []) (rest := []) ⟨hx, hb, hml, hown, hts⟩ (l_Tp_useUp l dC dI X _ hc_1) (cwV 0 hts (gwV good_Vq (u_Vq_Vt _ k_Vt_56) (u_Vq_Tp _ k_Tp_16) (u_Vq_Tp _ k_Tp_17) (u_Vq_Tp _ k_Tp_0) (wcs (u_Vq_Tp _ k_Tp_18) (fun _ h => h))) rfl rfl rfl (by decide +kernel) ⟨Nat.le_of_ble_eq_true rfl, Nat.le_of_ble_eq_true rfl⟩) (pv_ofE (X.same _) (fun U z1 z2 => X.mono _ _ U hFc (hEw _ _ hS U z1 z2)) hP hK hD (va_recv hK hP (ci := 3) (q0 := 2) rfl rfl)) rfl rfl hl.1 rfl (lv_room (Nat.le_of_ble_eq_true rfl)) d_Vt_write_4 ⟨ly_c0 mF.1, ly_c0 mF.2⟩) hS (fun q _ h => hFc q h) hFc (fun r_ u t H locs ht hvm hw hB hz1 hk1 hS => ?_)
  rw [hw]
  obtain ⟨hP, -, hD⟩ := hB
  rw [ht] at hP
  have hD := lx_dj hD hFc
  refine lv_istore_n (lv' := [(2, .int r_1), (0, .ref M.o_Vt), (1, .int p0)]) hx hb d_Vt_write_7 rfl hl (by decide) rfl (fun ls hl => ?_)
  refine lv_aload_n hx hb d_Vt_write_8 rfl (lv_at hl 1 rfl) ?_
  refine lv_aload_n hx hb d_Vt_write_9 rfl (lv_at hl 1 rfl) ?_
  obtain ⟨r_2, G_2, S_2, hc_2, h⟩ := lf_nE h
  have mc := mo_Vt_look hc_2
  have ml_2 := mo_Vt_look hc_2
  have mF1 := mo_Vt_write_13 h
  have hFc := lx_free hD hS hA
  refine va_calli (va_runV (As := []) (rest := [.ref M.o_Vt]) ⟨hx, hb, hml, hown, hts⟩ (l_Vt_look l dC dI X _ hc_2) (cwV 0 hts (gwV good_Vq (u_Vq_Vt _ k_Vt_68) (u_Vq_Vt _ k_Vt_69) (u_Vq_Vt _ k_Vt_214) (u_Vq_Vt _ k_Vt_0) (wcs (u_Vq_Vt _ k_Vt_70) (fun _ h => h))) rfl rfl rfl (by decide +kernel) ⟨Nat.le_of_ble_eq_true rfl, Nat.le_of_ble_eq_true rfl⟩) (pv_ofE (X.same _) (fun U z1 z2 => X.mono _ _ U hFc (hEw _ _ hS U z1 z2)) hP hK hD (va_recv hK hP (ci := 11) (q0 := 0) rfl rfl)) rfl rfl hl.1 rfl (lv_room (Nat.le_of_ble_eq_true rfl)) d_Vt_write_10 ⟨ly_c1 m0.1 mc.1 mF1.1, ly_c1 m0.2 mc.2 mF1.2⟩) hS (fun q _ h => hFc q h) hFc (fun r_ Y_2 t H locs ht hvm hw hB hz1 hk1 hS => ?_)
  rw [hw]
  obtain ⟨hP, -, hD⟩ := hB
  rw [ht] at hP
  have hD := lx_dj hD hFc
  refine W.widen (k := G_2.gc - G0.gc) (n := G_2.gs - G0.gs) (ly_c2 m0.1 mc.1) (ly_c2 m0.2 mc.2) ?_
  have m0 := CG.le_tr m0 mc
  exact hB_13 p0 r_1 r_2 Y_2 G_2 S_2 _ _ _ h m0 hP hD hS (lv_sub hl [1, 2, 0] rfl)
