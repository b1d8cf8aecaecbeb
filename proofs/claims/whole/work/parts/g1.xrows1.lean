set_option maxHeartbeats 4000000 in
set_option maxRecDepth 100000 in
theorem l_Vt_format (l : Launch) (dC : Nat → ClassId) (dI : Nat → Nat → Nat) {K : Nat} {M : CA} {E : (Nat → Prop) → State → Prop} (X : ly_X l dC dI K M E) (sz : Nat) {Y : CT} {G0 G' : CG} {S S' : CS} {p0 : Int32} {p1 : Int32} {p2 : Int32} {p3 : Int32} {r : Int32} (h : f_Vt_format K G0 S p0 p1 p2 p3 = some (.ok r, G', S')) : Met l y_Vt_format (.code y_Vt_format cb_Vt_format 7 (some .int) :: V_Vq) ({ frames := 6, cells := G'.gc - G0.gc, slots := G'.gs - G0.gs, locals := 90 }) (va_Pc [.ref M.o_Vt, .int p0, .int p1, .int p2, .int p3] (fun U => U.heap.size = sz ∧ at_ (dC, dI) (fun _ => True) (wV M Y G0 S) (tV M) U ∧ E (va_A (wV M Y G0 S) sz) U)) (va_Qi (fun (r_ : Int32) (u : CT) => r_ = r) (fun (u : CT) t => at_ (dC, dI) (va_A (wV M Y G0 S) sz) (wV M u G' S') (tV M) t) (va_A (wV M Y G0 S) sz)) (G'.gc - G0.gc) (G'.gs - G0.gs) (va_A (wV M Y G0 S) sz) := by
  refine Met.ofW (cc := cb_Vt_format) (maxL := 7) (ret := (some .int)) (by decide) rfl ?_
  intro p e s m args below meth c s₁ B hml hv
  obtain ⟨rfl, hsz, ⟨hP, hK, hD0⟩, hE⟩ := hv
  have hx := B.exec
  have hb := B.bytes
  have hr := B.returns
  have hts0 := atoms_spec (ws := .code y_Vt_format cb_Vt_format 7 (some .int) :: V_Vq) B.pre
  have hts : ∀ w ∈ V_Vq, w.before ([.ref M.o_Vt, .int p0, .int p1, .int p2, .int p3] : List Value).toArray s = true := fun w h => hts0 w (List.mem_cons_of_mem _ h)
  have hown : s.vm.findClass R_Vt = some m.cls := findClass_of_methodNamed B.named
  subst hsz
  have hD := hD0.self (sz := s.heap.size)
  generalize hAe : va_A (wV M Y G0 S) s.heap.size = A at hD hE ⊢
  have hA : ∀ q : Nat, s.heap.size ≤ q → A q := fun q h => by rw [← hAe]; exact Or.inr h
  have hS : va_S A s.heap s.heap [] := va_S.rf
  have hP : va_P (dC, dI) classes (wV M Y G0 S) s.heap := hP
  have hK : va_K (dC, dI) classes (tV M) s := hK
  have hEw : ∀ (H : Heap) (locs : List Loc), va_S A s.heap H locs → ∀ U : State, U.heap = H → s.WarmedH U.vm → E A U := fun H locs hS U hU hW => X.kept A s U H locs hE hS hU hW
  have hl := lv_entry ([.ref M.o_Vt, .int p0, .int p1, .int p2, .int p3]) (n := 7) (Nat.le_of_ble_eq_true rfl)
  rw [lg_entry_eq]
  generalize (lg_sl ([.ref M.o_Vt, .int p0, .int p1, .int p2, .int p3]) ++ List.replicate (7 - (lg_sl ([.ref M.o_Vt, .int p0, .int p1, .int p2, .int p3])).length) Slot.unset).toArray = ls at hl ⊢
  have hl : lv_has ls 7 [(0, .ref M.o_Vt), (1, .int p0), (2, .int p1), (3, .int p2), (4, .int p3)] := hl
  refine qabs (fun Q hQ => ?_)
  have hB_39 : ∀ (Y : CT) (G : CG) (S : CS) (H : Heap) (locs : List Loc) (ls : Array Slot), f_Vt_format_39 K G S = some (.ok r, G', S') → CG.le G0 G → va_P (dC, dI) classes (wV M Y G S) H → va_D A (wV M Y G S) → va_S A s.heap H locs → lv_has ls 7 [] → W p l e ({ frames := 6, cells := G'.gc - G0.gc, slots := G'.gs - G0.gs, locals := 90 }) s m ([.ref M.o_Vt, .int p0, .int p1, .int p2, .int p3] : List Value).toArray below meth c H locs (G.gc - G0.gc) (G.gs - G0.gs) Q (F0 m 39 ls []) := by
    intro Y G S H locs ls h m0 hP hD hS hl
    have mF := mo_Vt_format_39 h
    rw [f_Vt_format_39] at h
    exact lf_xe h
  have hB_115 : ∀ (Y : CT) (G : CG) (S : CS) (H : Heap) (locs : List Loc) (ls : Array Slot), f_Vt_format_115 K G S = some (.ok r, G', S') → CG.le G0 G → va_P (dC, dI) classes (wV M Y G S) H → va_D A (wV M Y G S) → va_S A s.heap H locs → lv_has ls 7 [(0, .ref M.o_Vt)] → W p l e ({ frames := 6, cells := G'.gc - G0.gc, slots := G'.gs - G0.gs, locals := 90 }) s m ([.ref M.o_Vt, .int p0, .int p1, .int p2, .int p3] : List Value).toArray below meth c H locs (G.gc - G0.gc) (G.gs - G0.gs) Q (F0 m 115 ls []) := by
    intro Y G S H locs ls h m0 hP hD hS hl
    have mF := mo_Vt_format_115 h
    rw [f_Vt_format_115] at h
    refine lv_aload_n hx hb d_Vt_format_115 rfl (lv_at hl 0 rfl) ?_
    refine lv_iconst (v := 0) hx hb d_Vt_format_116 (by decide) ?_
    refine va_put (D := (dC, dI)) (ci := 11) (v := .int 0) (ty := .boolean) (C := R_Vt) (T := F_Vt) (N := 16) hx hb hts (fun w h => u_Vq_Vt w (i_Vt w h)) t_Vt t_Vt_ok n_Vt hown hK hP hD hS 0 rfl rfl 15 (by decide) (hts _ (u_Vq_Vt _ k_Vt_44)) (fun _ h9 => h9) rfl (by decide +kernel) rfl rfl (Nat.le_of_ble_eq_true rfl) d_Vt_format_117 (fun H locs hP hD hS => ?_)
    obtain ⟨S_12, eS_12, h⟩ := lf_lX h
    have hP := ly_newP eS_12 hP
    have hD := ly_newD eS_12 hD
    refine lv_aload_n hx hb d_Vt_format_120 rfl (lv_at hl 0 rfl) ?_
    obtain ⟨S_13, hc_13, h⟩ := lf_bE h
    have hFc := lx_free hD hS hA
    refine va_callv (va_runV (As := []) (rest := []) ⟨hx, hb, hml, hown, hts⟩ (l_Vt_changed l dC dI X _ hc_13) (cwV 0 hts (gwV good_Vq (u_Vq_Vt _ k_Vt_62) (u_Vq_Vt _ k_Vt_63) (u_Vq_Vt _ k_Vt_213) (u_Vq_Vt _ k_Vt_0) (wcs (u_Vq_Vt _ k_Vt_64) (fun _ h => h))) rfl rfl rfl (by decide +kernel) ⟨Nat.le_of_ble_eq_true rfl, Nat.le_of_ble_eq_true rfl⟩) (pv_ofE (X.same _) (fun U z1 z2 => X.mono _ _ U hFc (hEw _ _ hS U z1 z2)) hP hK hD (va_recv hK hP (ci := 11) (q0 := 0) rfl rfl)) rfl rfl hl.1 rfl (lv_room (Nat.le_of_ble_eq_true rfl)) d_Vt_format_121 ⟨ly_c0 mF.1, ly_c0 mF.2⟩) hS (fun q _ h => hFc q h) hFc (fun u t H locs ht hvm hw hB hz1 hk1 hS => ?_)
    obtain ⟨hP, -, hD⟩ := hB
    rw [ht] at hP
    have hD := lx_dj hD hFc
    refine lv_aload_n hx hb d_Vt_format_124 rfl (lv_at hl 0 rfl) ?_
    refine lv_iconst (v := 0) hx hb d_Vt_format_125 (by decide) ?_
    refine va_put (D := (dC, dI)) (ci := 11) (v := .int 0) (ty := .int) (C := R_Vt) (T := F_Vt) (N := 16) hx hb hts (fun w h => u_Vq_Vt w (i_Vt w h)) t_Vt t_Vt_ok n_Vt hown hK hP hD hS 0 rfl rfl 12 (by decide) (hts _ (u_Vq_Vt _ k_Vt_41)) (fun _ h9 => h9) rfl (by decide +kernel) rfl rfl (Nat.le_of_ble_eq_true rfl) d_Vt_format_126 (fun H locs hP hD hS => ?_)
    obtain ⟨S_14, eS_14, h⟩ := lf_lX h
    have hP := ly_newP eS_14 hP
    have hD := ly_newD eS_14 hD
    refine lv_aload_n hx hb d_Vt_format_129 rfl (lv_at hl 0 rfl) ?_
    refine va_get (D := (dC, dI)) (ci := 11) (v := .ref M.o_Tb) (C := R_Vt) (T := F_Vt) (N := 16) hx hb hts (fun w h => u_Vq_Vt w (i_Vt w h)) hown hK hP 0 rfl rfl 2 (by decide) (hts _ (u_Vq_Vt _ k_Vt_31)) (fun _ h9 => h9) rfl d_Vt_format_130 ?_
    refine va_get (D := (dC, dI)) (ci := 4) (v := .int S_14.v_Tb_clusters) (C := R_Tb) (T := F_Tb) (N := 10) hx hb hts (fun w h => u_Vq_Tb w (i_Tb w h)) hown hK hP 3 rfl rfl 7 (by decide) (hts _ (u_Vq_Vt _ k_Vt_17)) (fun _ h9 => h9) rfl d_Vt_format_133 ?_
    rw [hQ]
    have e1 : S_14.v_Tb_clusters = r := Except.ok.inj (congrArg (fun z => z.1) (Option.some.inj h))
    have e2 : G = G' := congrArg (fun z => z.2.1) (Option.some.inj h)
    have e3 : S_14 = S' := congrArg (fun z => z.2.2) (Option.some.inj h)
    have hP := ly_newP3 e2.symm e3.symm hP
    have hD := ly_newD3 e2.symm e3.symm hD
    refine W.widen (k := G'.gc - G0.gc) (n := G'.gs - G0.gs) (ly_wc e2) (ly_ws e2) ?_
    exact W.iret (v := S_14.v_Tb_clusters) hx hb hr (fun t ht hW => ⟨⟨S_14.v_Tb_clusters, Y, rfl, e1, by rw [ht]; exact hP, va_K.moved hW.alike hK, hD⟩, hS.F ht⟩) hS.2.2 d_Vt_format_136
  have m0 : CG.le G0 G0 := ⟨Nat.le_refl _, Nat.le_refl _⟩
  have mF := mo_Vt_format h
  refine W.widen (k := G0.gc - G0.gc) (n := G0.gs - G0.gs) (Nat.zero_le _) (Nat.zero_le _) ?_
  rw [f_Vt_format] at h
  refine lv_aload_n hx hb d_Vt_format_0 rfl (lv_at hl 0 rfl) ?_
  refine va_get (D := (dC, dI)) (ci := 11) (v := .ref M.o_Tp) (C := R_Vt) (T := F_Vt) (N := 16) hx hb hts (fun w h => u_Vq_Vt w (i_Vt w h)) hown hK hP 0 rfl rfl 1 (by decide) (hts _ (u_Vq_Vt _ k_Vt_30)) (fun _ h9 => h9) rfl d_Vt_format_1 ?_
  obtain ⟨r_1, S_1, hc_1, h⟩ := lf_cE h
  have hFc := lx_free hD hS hA
  refine va_calli (va_runV (As := []) (rest := []) ⟨hx, hb, hml, hown, hts⟩ (l_Tp_useUp l dC dI X _ hc_1) (cwV 0 hts (gwV good_Vq (u_Vq_Vt _ k_Vt_56) (u_Vq_Tp _ k_Tp_16) (u_Vq_Tp _ k_Tp_17) (u_Vq_Tp _ k_Tp_0) (wcs (u_Vq_Tp _ k_Tp_18) (fun _ h => h))) rfl rfl rfl (by decide +kernel) ⟨Nat.le_of_ble_eq_true rfl, Nat.le_of_ble_eq_true rfl⟩) (pv_ofE (X.same _) (fun U z1 z2 => X.mono _ _ U hFc (hEw _ _ hS U z1 z2)) hP hK hD (va_recv hK hP (ci := 3) (q0 := 2) rfl rfl)) rfl rfl hl.1 rfl (lv_room (Nat.le_of_ble_eq_true rfl)) d_Vt_format_4 ⟨ly_c0 mF.1, ly_c0 mF.2⟩) hS (fun q _ h => hFc q h) hFc (fun r_ u t H locs ht hvm hw hB hz1 hk1 hS => ?_)
  rw [hw]
  obtain ⟨hP, -, hD⟩ := hB
  rw [ht] at hP
  have hD := lx_dj hD hFc
  refine lv_istore (lv' := [(5, .int r_1), (0, .ref M.o_Vt), (1, .int p0), (2, .int p1), (3, .int p2), (4, .int p3)]) hx hb d_Vt_format_7 hl (by decide) rfl (fun ls hl => ?_)
  refine lv_aload_n hx hb d_Vt_format_9 rfl (lv_at hl 1 rfl) ?_
  refine va_get (D := (dC, dI)) (ci := 11) (v := .ref M.o_Tb) (C := R_Vt) (T := F_Vt) (N := 16) hx hb hts (fun w h => u_Vq_Vt w (i_Vt w h)) hown hK hP 0 rfl rfl 2 (by decide) (hts _ (u_Vq_Vt _ k_Vt_31)) (fun _ h9 => h9) rfl d_Vt_format_10 ?_
  refine lv_iload_n hx hb d_Vt_format_13 rfl (lv_at hl 2 rfl) ?_
  refine lv_iload_n hx hb d_Vt_format_14 rfl (lv_at hl 3 rfl) ?_
  refine lv_iload_n hx hb d_Vt_format_15 rfl (lv_at hl 4 rfl) ?_
  obtain ⟨r_2, S_2, hc_2, h⟩ := lf_cE h
  have hFc := lx_free hD hS hA
  refine va_calli (va_runV (As := [.int p0, .int p1, .int p2]) (rest := []) ⟨hx, hb, hml, hown, hts⟩ (l_Tb_leastLength l dC dI X _ hc_2) (cwV 3 hts (gwV good_Vq (u_Vq_Vt _ k_Vt_98) (u_Vq_Tb _ k_Tb_76) (u_Vq_Tb _ k_Tb_77) (u_Vq_Tb _ k_Tb_0) (wcs (u_Vq_Tb _ k_Tb_78) (fun _ h => h))) rfl rfl rfl (by decide +kernel) ⟨Nat.le_of_ble_eq_true rfl, Nat.le_of_ble_eq_true rfl⟩) (pv_ofE (X.same _) (fun U z1 z2 => X.mono _ _ U hFc (hEw _ _ hS U z1 z2)) hP hK hD (va_recv hK hP (ci := 4) (q0 := 3) rfl rfl)) rfl rfl hl.1 rfl (lv_room (Nat.le_of_ble_eq_true rfl)) d_Vt_format_16 ⟨ly_c0 mF.1, ly_c0 mF.2⟩) hS (fun q _ h => hFc q h) hFc (fun r_ u t H locs ht hvm hw hB hz1 hk1 hS => ?_)
  rw [hw]
  obtain ⟨hP, -, hD⟩ := hB
  rw [ht] at hP
  have hD := lx_dj hD hFc
  refine lv_istore (lv' := [(6, .int r_2), (5, .int r_1), (0, .ref M.o_Vt), (1, .int p0), (2, .int p1), (3, .int p2), (4, .int p3)]) hx hb d_Vt_format_19 hl (by decide) rfl (fun ls hl => ?_)
  refine lv_iload hx hb d_Vt_format_21 (lv_at hl 0 rfl) ?_
  refine lv_iconst (v := (-1)) hx hb d_Vt_format_23 (by decide) ?_
  refine lv_icmp_eq (tgt := 39) hx hb d_Vt_format_24 (by decide) (fun c_3 => ?_) (fun c_3 => ?_)
  · have h := lf_t h c_3
    exact hB_39 Y G0 S_2 _ _ _ h m0 hP hD hS (lv_sub hl [] rfl)
  · have h := lf_f h c_3
    refine lv_aload_n hx hb d_Vt_format_27 rfl (lv_at hl 2 rfl) ?_
    refine va_get (D := (dC, dI)) (ci := 11) (v := .ref M.o_Tp) (C := R_Vt) (T := F_Vt) (N := 16) hx hb hts (fun w h => u_Vq_Vt w (i_Vt w h)) hown hK hP 0 rfl rfl 1 (by decide) (hts _ (u_Vq_Vt _ k_Vt_30)) (fun _ h9 => h9) rfl d_Vt_format_28 ?_
    refine lv_iload hx hb d_Vt_format_31 (lv_at hl 1 rfl) ?_
    obtain ⟨r_4, S_4, hc_4, h⟩ := lf_cE h
    have hFc := lx_free hD hS hA
    refine va_calli (va_runV (As := [.int r_1]) (rest := []) ⟨hx, hb, hml, hown, hts⟩ (l_Tp_isLabel l dC dI X _ hc_4) (cwV 1 hts (gwV good_Vq (u_Vq_Vt _ k_Vt_99) (u_Vq_Tp _ k_Tp_19) (u_Vq_Tp _ k_Tp_20) (u_Vq_Tp _ k_Tp_0) (wcs (u_Vq_Tp _ k_Tp_21) (fun _ h => h))) rfl rfl rfl (by decide +kernel) ⟨Nat.le_of_ble_eq_true rfl, Nat.le_of_ble_eq_true rfl⟩) (pv_ofE (X.same _) (fun U z1 z2 => X.mono _ _ U hFc (hEw _ _ hS U z1 z2)) hP hK hD (va_recv hK hP (ci := 3) (q0 := 2) rfl rfl)) rfl rfl hl.1 rfl (lv_room (Nat.le_of_ble_eq_true rfl)) d_Vt_format_33 ⟨ly_c0 mF.1, ly_c0 mF.2⟩) hS (fun q _ h => hFc q h) hFc (fun r_ u t H locs ht hvm hw hB hz1 hk1 hS => ?_)
    rw [hw]
    obtain ⟨hP, -, hD⟩ := hB
    rw [ht] at hP
    have hD := lx_dj hD hFc
    refine lv_if_ne (tgt := 49) hx hb d_Vt_format_36 (by decide) (fun c_5 => ?_) (fun c_5 => ?_)
    · have h := lf_f h c_5
      refine lv_aload_n hx hb d_Vt_format_49 rfl (lv_at hl 2 rfl) ?_
      refine va_get (D := (dC, dI)) (ci := 11) (v := .ref M.o_Dk) (C := R_Vt) (T := F_Vt) (N := 16) hx hb hts (fun w h => u_Vq_Vt w (i_Vt w h)) hown hK hP 0 rfl rfl 0 (by decide) (hts _ (u_Vq_Vt _ k_Vt_29)) (fun _ h9 => h9) rfl d_Vt_format_50 ?_
      refine lv_iconst (v := 0) hx hb d_Vt_format_53 (by decide) ?_
      refine lv_aload_n hx hb d_Vt_format_54 rfl (lv_at hl 2 rfl) ?_
      refine va_get (D := (dC, dI)) (ci := 11) (v := .ref M.o_Dk) (C := R_Vt) (T := F_Vt) (N := 16) hx hb hts (fun w h => u_Vq_Vt w (i_Vt w h)) hown hK hP 0 rfl rfl 0 (by decide) (hts _ (u_Vq_Vt _ k_Vt_29)) (fun _ h9 => h9) rfl d_Vt_format_55 ?_
      refine va_get (D := (dC, dI)) (ci := 0) (v := .int S_4.v_Dk_sectors) (C := R_Dk) (T := F_Dk) (N := 3) hx hb hts (fun w h => u_Vq_Dk w (i_Dk w h)) hown hK hP 1 rfl rfl 0 (by decide) (hts _ (u_Vq_Vt _ k_Vt_13)) (fun _ h9 => h9) rfl d_Vt_format_58 ?_
      refine lv_sipush (v := 512) hx hb d_Vt_format_61 (by decide) ?_
      refine lv_imul hx hb d_Vt_format_64 ?_
      obtain ⟨S_6, hc_6, h⟩ := lf_bE h
      have hFc := lx_free hD hS hA
      refine va_callv (va_runV (As := [.int 0, .int (S_4.v_Dk_sectors * 512)]) (rest := []) ⟨hx, hb, hml, hown, hts⟩ (l_Dk_zero l dC dI X _ hc_6) (cwV 2 hts (gwV good_Vq (u_Vq_Vt _ k_Vt_103) (u_Vq_Dk _ k_Dk_23) (u_Vq_Dk _ k_Dk_24) (u_Vq_Dk _ k_Dk_0) (wcs (u_Vq_Dk _ k_Dk_25) (fun _ h => h))) rfl rfl rfl (by decide +kernel) ⟨Nat.le_of_ble_eq_true rfl, Nat.le_of_ble_eq_true rfl⟩) (pv_ofE (X.same _) (fun U z1 z2 => X.mono _ _ U hFc (hEw _ _ hS U z1 z2)) hP hK hD (va_recv hK hP (ci := 0) (q0 := 1) rfl rfl)) rfl rfl hl.1 rfl (lv_room (Nat.le_of_ble_eq_true rfl)) d_Vt_format_65 ⟨ly_c0 mF.1, ly_c0 mF.2⟩) hS (fun q _ h => hFc q h) hFc (fun u t H locs ht hvm hw hB hz1 hk1 hS => ?_)
      obtain ⟨hP, -, hD⟩ := hB
      rw [ht] at hP
      have hD := lx_dj hD hFc
      refine lv_aload_n hx hb d_Vt_format_68 rfl (lv_at hl 2 rfl) ?_
      refine va_get (D := (dC, dI)) (ci := 11) (v := .ref M.o_Tb) (C := R_Vt) (T := F_Vt) (N := 16) hx hb hts (fun w h => u_Vq_Vt w (i_Vt w h)) hown hK hP 0 rfl rfl 2 (by decide) (hts _ (u_Vq_Vt _ k_Vt_31)) (fun _ h9 => h9) rfl d_Vt_format_69 ?_
      refine lv_iload_n hx hb d_Vt_format_72 rfl (lv_at hl 3 rfl) ?_
      refine lv_iload_n hx hb d_Vt_format_73 rfl (lv_at hl 4 rfl) ?_
      refine lv_iload_n hx hb d_Vt_format_74 rfl (lv_at hl 5 rfl) ?_
      refine lv_iload hx hb d_Vt_format_75 (lv_at hl 0 rfl) ?_
      refine lv_iload hx hb d_Vt_format_77 (lv_at hl 6 rfl) ?_
      obtain ⟨S_7, hc_7, h⟩ := lf_bE h
      have hFc := lx_free hD hS hA
      refine va_callv (va_runV (As := [.int p0, .int p1, .int p2, .int r_2, .int p3]) (rest := []) ⟨hx, hb, hml, hown, hts⟩ (l_Tb_writeFirstSectors l dC dI X _ hc_7) (cwV 5 hts (gwV good_Vq (u_Vq_Vt _ k_Vt_104) (u_Vq_Tb _ k_Tb_79) (u_Vq_Tb _ k_Tb_80) (u_Vq_Tb _ k_Tb_0) (wcs (u_Vq_Tb _ k_Tb_81) (fun _ h => h))) rfl rfl rfl (by decide +kernel) ⟨Nat.le_of_ble_eq_true rfl, Nat.le_of_ble_eq_true rfl⟩) (pv_ofE (X.same _) (fun U z1 z2 => X.mono _ _ U hFc (hEw _ _ hS U z1 z2)) hP hK hD (va_recv hK hP (ci := 4) (q0 := 3) rfl rfl)) rfl rfl hl.1 rfl (lv_room (Nat.le_of_ble_eq_true rfl)) d_Vt_format_79 ⟨ly_c0 mF.1, ly_c0 mF.2⟩) hS (fun q _ h => hFc q h) hFc (fun u t H locs ht hvm hw hB hz1 hk1 hS => ?_)
      obtain ⟨hP, -, hD⟩ := hB
      rw [ht] at hP
      have hD := lx_dj hD hFc
      refine lv_aload_n hx hb d_Vt_format_82 rfl (lv_at hl 2 rfl) ?_
      refine va_get (D := (dC, dI)) (ci := 11) (v := .ref M.o_Tb) (C := R_Vt) (T := F_Vt) (N := 16) hx hb hts (fun w h => u_Vq_Vt w (i_Vt w h)) hown hK hP 0 rfl rfl 2 (by decide) (hts _ (u_Vq_Vt _ k_Vt_31)) (fun _ h9 => h9) rfl d_Vt_format_83 ?_
      obtain ⟨r_8, S_8, hc_8, h⟩ := lf_cE h
      have hFc := lx_free hD hS hA
      refine va_calli (va_runV (As := []) (rest := []) ⟨hx, hb, hml, hown, hts⟩ (l_Tb_read l dC dI X _ hc_8) (cwV 0 hts (gwV good_Vq (u_Vq_Vt _ k_Vt_105) (u_Vq_Tb _ k_Tb_19) (u_Vq_Tb _ k_Tb_20) (u_Vq_Tb _ k_Tb_0) (wcs (u_Vq_Tb _ k_Tb_21) (fun _ h => h))) rfl rfl rfl (by decide +kernel) ⟨Nat.le_of_ble_eq_true rfl, Nat.le_of_ble_eq_true rfl⟩) (pv_ofE (X.same _) (fun U z1 z2 => X.mono _ _ U hFc (hEw _ _ hS U z1 z2)) hP hK hD (va_recv hK hP (ci := 4) (q0 := 3) rfl rfl)) rfl rfl hl.1 rfl (lv_room (Nat.le_of_ble_eq_true rfl)) d_Vt_format_86 ⟨ly_c0 mF.1, ly_c0 mF.2⟩) hS (fun q _ h => hFc q h) hFc (fun r_ u t H locs ht hvm hw hB hz1 hk1 hS => ?_)
      rw [hw]
      obtain ⟨hP, -, hD⟩ := hB
      rw [ht] at hP
      have hD := lx_dj hD hFc
      refine lv_pop hx hb d_Vt_format_89 rfl ?_
      refine lv_aload_n hx hb d_Vt_format_90 rfl (lv_at hl 2 rfl) ?_
      refine va_get (D := (dC, dI)) (ci := 11) (v := .ref M.o_Tb) (C := R_Vt) (T := F_Vt) (N := 16) hx hb hts (fun w h => u_Vq_Vt w (i_Vt w h)) hown hK hP 0 rfl rfl 2 (by decide) (hts _ (u_Vq_Vt _ k_Vt_31)) (fun _ h9 => h9) rfl d_Vt_format_91 ?_
      obtain ⟨S_9, hc_9, h⟩ := lf_bE h
      have hFc := lx_free hD hS hA
      refine va_callv (va_runV (As := []) (rest := []) ⟨hx, hb, hml, hown, hts⟩ (l_Tb_startTables l dC dI X _ hc_9) (cwV 0 hts (gwV good_Vq (u_Vq_Vt _ k_Vt_106) (u_Vq_Tb _ k_Tb_88) (u_Vq_Tb _ k_Tb_89) (u_Vq_Tb _ k_Tb_0) (wcs (u_Vq_Tb _ k_Tb_90) (fun _ h => h))) rfl rfl rfl (by decide +kernel) ⟨Nat.le_of_ble_eq_true rfl, Nat.le_of_ble_eq_true rfl⟩) (pv_ofE (X.same _) (fun U z1 z2 => X.mono _ _ U hFc (hEw _ _ hS U z1 z2)) hP hK hD (va_recv hK hP (ci := 4) (q0 := 3) rfl rfl)) rfl rfl hl.1 rfl (lv_room (Nat.le_of_ble_eq_true rfl)) d_Vt_format_94 ⟨ly_c0 mF.1, ly_c0 mF.2⟩) hS (fun q _ h => hFc q h) hFc (fun u t H locs ht hvm hw hB hz1 hk1 hS => ?_)
      obtain ⟨hP, -, hD⟩ := hB
      rw [ht] at hP
      have hD := lx_dj hD hFc
      refine lv_iload hx hb d_Vt_format_97 (lv_at hl 1 rfl) ?_
      refine lv_if_le (tgt := 115) hx hb d_Vt_format_99 (by decide) (fun c_10 => ?_) (fun c_10 => ?_)
      · have h := lf_t h c_10
        exact hB_115 Y G0 S_9 _ _ _ h m0 hP hD hS (lv_sub hl [2] rfl)
      · have h := lf_f h c_10
        refine lv_aload_n hx hb d_Vt_format_102 rfl (lv_at hl 2 rfl) ?_
        refine va_get (D := (dC, dI)) (ci := 11) (v := .ref M.o_Ed) (C := R_Vt) (T := F_Vt) (N := 16) hx hb hts (fun w h => u_Vq_Vt w (i_Vt w h)) hown hK hP 0 rfl rfl 5 (by decide) (hts _ (u_Vq_Vt _ k_Vt_34)) (fun _ h9 => h9) rfl d_Vt_format_103 ?_
        refine lv_aload_n hx hb d_Vt_format_106 rfl (lv_at hl 2 rfl) ?_
        refine va_get (D := (dC, dI)) (ci := 11) (v := .ref M.o_Tp) (C := R_Vt) (T := F_Vt) (N := 16) hx hb hts (fun w h => u_Vq_Vt w (i_Vt w h)) hown hK hP 0 rfl rfl 1 (by decide) (hts _ (u_Vq_Vt _ k_Vt_30)) (fun _ h9 => h9) rfl d_Vt_format_107 ?_
        refine lv_iload hx hb d_Vt_format_110 (lv_at hl 1 rfl) ?_
        obtain ⟨S_11, hc_11, h⟩ := lf_bE h
        have hFc := lx_free hD hS hA
        refine va_callv (va_runV (As := [.ref M.o_Tp, .int r_1]) (rest := []) ⟨hx, hb, hml, hown, hts⟩ (l_Ed_writeLabel l dC dI X _ hc_11) (cwV 2 hts (gwV good_Vq (u_Vq_Vt _ k_Vt_107) (u_Vq_Ed _ k_Ed_20) (u_Vq_Ed _ k_Ed_21) (u_Vq_Ed _ k_Ed_0) (wcs (u_Vq_Ed _ k_Ed_22) (fun _ h => h))) rfl rfl rfl (by decide +kernel) ⟨Nat.le_of_ble_eq_true rfl, Nat.le_of_ble_eq_true rfl⟩) (pv_ofE (X.same _) (fun U z1 z2 => X.mono _ _ U hFc (hEw _ _ hS U z1 z2)) hP hK hD (va_recv hK hP (ci := 8) (q0 := 6) rfl rfl)) rfl rfl hl.1 rfl (lv_room (Nat.le_of_ble_eq_true rfl)) d_Vt_format_112 ⟨ly_c0 mF.1, ly_c0 mF.2⟩) hS (fun q _ h => hFc q h) hFc (fun u t H locs ht hvm hw hB hz1 hk1 hS => ?_)
        obtain ⟨hP, -, hD⟩ := hB
        rw [ht] at hP
        have hD := lx_dj hD hFc
        exact hB_115 Y G0 S_11 _ _ _ h m0 hP hD hS (lv_sub hl [2] rfl)
    · have h := lf_t h c_5
      exact hB_39 Y G0 S_4 _ _ _ h m0 hP hD hS (lv_sub hl [] rfl)
set_option maxHeartbeats 4000000 in
set_option maxRecDepth 100000 in
theorem lt_Vt_format_0 (l : Launch) (hfl : l.flags = pinnedFlags ++ [noTraceFlag]) (dC : Nat → ClassId) (dI : Nat → Nat → Nat) {K : Nat} {M : CA} {E : (Nat → Prop) → State → Prop} (X : ly_X l dC dI K M E) (sz : Nat) {Y : CT} {G0 G' : CG} {S S' : CS} {p0 : Int32} {p1 : Int32} {p2 : Int32} {p3 : Int32} (h : f_Vt_format K G0 S p0 p1 p2 p3 = some (.error 0, G', S')) : MetX l y_Vt_format (.code y_Vt_format cb_Vt_format 7 (some .int) :: V_Vq) ({ frames := 6, cells := G'.gc - G0.gc, slots := G'.gs - G0.gs, locals := 90 }) (va_Pc [.ref M.o_Vt, .int p0, .int p1, .int p2, .int p3] (fun U => U.heap.size = sz ∧ at_ (dC, dI) (fun _ => True) (wV M Y G0 S) (tV M) U ∧ E (va_A (wV M Y G0 S) sz) U)) (fun _ _ _ _ => False) (x_Q "java/lang/IllegalArgumentException" (va_A (wV M Y G0 S) sz) (fun t => ∃ u : CT, at_ (dC, dI) (va_A (wV M Y G0 S) sz) (wV M u G' S') (tV M) t)) (G'.gc - G0.gc) (G'.gs - G0.gs) (va_A (wV M Y G0 S) sz) := by
  refine MetX.ofW (cc := cb_Vt_format) (maxL := 7) (ret := (some .int)) (by decide) rfl ?_
  intro p e s m args below meth c s₁ B hml hv
  obtain ⟨rfl, hsz, ⟨hP, hK, hD0⟩, hE⟩ := hv
  have hx := B.exec
  have hb := B.bytes
  have hr := B.returns
  have hts0 := atoms_spec (ws := .code y_Vt_format cb_Vt_format 7 (some .int) :: V_Vq) B.pre
  have hts : ∀ w ∈ V_Vq, w.before ([.ref M.o_Vt, .int p0, .int p1, .int p2, .int p3] : List Value).toArray s = true := fun w h => hts0 w (List.mem_cons_of_mem _ h)
  have hown : s.vm.findClass R_Vt = some m.cls := findClass_of_methodNamed B.named
  have hlocks := B.notSynchronized
  have hout := x_table B (hts0 _ List.mem_cons_self)
  subst hsz
  have hD := hD0.self (sz := s.heap.size)
  generalize hAe : va_A (wV M Y G0 S) s.heap.size = A at hD hE ⊢
  have hA : ∀ q : Nat, s.heap.size ≤ q → A q := fun q h => by rw [← hAe]; exact Or.inr h
  have hS : va_S A s.heap s.heap [] := va_S.rf
  have hP : va_P (dC, dI) classes (wV M Y G0 S) s.heap := hP
  have hK : va_K (dC, dI) classes (tV M) s := hK
  have hEw : ∀ (H : Heap) (locs : List Loc), va_S A s.heap H locs → ∀ U : State, U.heap = H → s.WarmedH U.vm → E A U := fun H locs hS U hU hW => X.kept A s U H locs hE hS hU hW
  have hl := lv_entry ([.ref M.o_Vt, .int p0, .int p1, .int p2, .int p3]) (n := 7) (Nat.le_of_ble_eq_true rfl)
  rw [lg_entry_eq]
  generalize (lg_sl ([.ref M.o_Vt, .int p0, .int p1, .int p2, .int p3]) ++ List.replicate (7 - (lg_sl ([.ref M.o_Vt, .int p0, .int p1, .int p2, .int p3])).length) Slot.unset).toArray = ls at hl ⊢
  have hl : lv_has ls 7 [(0, .ref M.o_Vt), (1, .int p0), (2, .int p1), (3, .int p2), (4, .int p3)] := hl
  refine qabs (fun Q hQ => ?_)
  have hB_39 : ∀ (Y : CT) (G : CG) (S : CS) (H : Heap) (locs : List Loc) (ls : Array Slot), f_Vt_format_39 K G S = some (.error 0, G', S') → CG.le G0 G → va_P (dC, dI) classes (wV M Y G S) H → va_D A (wV M Y G S) → va_S A s.heap H locs → lv_has ls 7 [] → W p l e ({ frames := 6, cells := G'.gc - G0.gc, slots := G'.gs - G0.gs, locals := 90 }) s m ([.ref M.o_Vt, .int p0, .int p1, .int p2, .int p3] : List Value).toArray below meth c H locs (G.gc - G0.gc) (G.gs - G0.gs) Q (F0 m 39 ls []) := by
    intro Y G S H locs ls h m0 hP hD hS hl
    have mF := mo_Vt_format_39 h
    rw [f_Vt_format_39] at h
    rw [hQ]
    have e2 : G.made 1 6 = G' := congrArg (fun z => z.2.1) (Option.some.inj h)
    have e3 : S = S' := congrArg (fun z => z.2.2) (Option.some.inj h)
    have hP := ly_newP3 e2.symm e3.symm (ly_madeP (c := 1) (n := 6) hP)
    have hD := ly_newD3 e2.symm e3.symm (ly_madeD (c := 1) (n := 6) hD)
    refine W.mono (ly_mqx (fun t z => ⟨Y, z⟩)) ?_
    exact x_thrG (own := R_Vt) (cls := "java/lang/IllegalArgumentException") (ik := 133) (is := 135) (ic := 137) (k := 2) hx hb (Launch.traces_off hfl (Stand.of_body B).admits) hlocks hown (by decide) (fun T hT => (X.xt_135 _ _ (hEw _ _ hS (xs s T) hT (State.WarmedH.refl s))).1) (hts _ (u_Vq_Vt _ k_Vt_100)) (hts _ (u_Vq_Vt _ k_Vt_101)) (hts _ (u_Vq_Vt _ k_Vt_1)) (X.xt_135 _ _ hE).2 (hl.1.trans hml.symm) d_Vt_format_39 d_Vt_format_42 (Or.inl ⟨d_Vt_format_43, rfl⟩) d_Vt_format_45 d_Vt_format_48 hout (Nat.le_of_ble_eq_true rfl) (Nat.le_of_ble_eq_true rfl) (ly_t1 e2 m0) (Nat.le_refl _) (ly_t2 e2 m0) (Nat.le_refl _) hP hK hD hS
  have hB_115 : ∀ (Y : CT) (G : CG) (S : CS) (H : Heap) (locs : List Loc) (ls : Array Slot), f_Vt_format_115 K G S = some (.error 0, G', S') → CG.le G0 G → va_P (dC, dI) classes (wV M Y G S) H → va_D A (wV M Y G S) → va_S A s.heap H locs → lv_has ls 7 [(0, .ref M.o_Vt)] → W p l e ({ frames := 6, cells := G'.gc - G0.gc, slots := G'.gs - G0.gs, locals := 90 }) s m ([.ref M.o_Vt, .int p0, .int p1, .int p2, .int p3] : List Value).toArray below meth c H locs (G.gc - G0.gc) (G.gs - G0.gs) Q (F0 m 115 ls []) := by
    intro Y G S H locs ls h m0 hP hD hS hl
    have mF := mo_Vt_format_115 h
    rw [f_Vt_format_115] at h
    refine lv_aload_n hx hb d_Vt_format_115 rfl (lv_at hl 0 rfl) ?_
    refine lv_iconst (v := 0) hx hb d_Vt_format_116 (by decide) ?_
    refine va_put (D := (dC, dI)) (ci := 11) (v := .int 0) (ty := .boolean) (C := R_Vt) (T := F_Vt) (N := 16) hx hb hts (fun w h => u_Vq_Vt w (i_Vt w h)) t_Vt t_Vt_ok n_Vt hown hK hP hD hS 0 rfl rfl 15 (by decide) (hts _ (u_Vq_Vt _ k_Vt_44)) (fun _ h9 => h9) rfl (by decide +kernel) rfl rfl (Nat.le_of_ble_eq_true rfl) d_Vt_format_117 (fun H locs hP hD hS => ?_)
    obtain ⟨S_12, eS_12, h⟩ := lf_lX h
    have hP := ly_newP eS_12 hP
    have hD := ly_newD eS_12 hD
    refine lv_aload_n hx hb d_Vt_format_120 rfl (lv_at hl 0 rfl) ?_
    obtain ⟨S_13, hc_13, h⟩ := lf_bE h
    have hFc := lx_free hD hS hA
    refine va_callv (va_runV (As := []) (rest := []) ⟨hx, hb, hml, hown, hts⟩ (l_Vt_changed l dC dI X _ hc_13) (cwV 0 hts (gwV good_Vq (u_Vq_Vt _ k_Vt_62) (u_Vq_Vt _ k_Vt_63) (u_Vq_Vt _ k_Vt_213) (u_Vq_Vt _ k_Vt_0) (wcs (u_Vq_Vt _ k_Vt_64) (fun _ h => h))) rfl rfl rfl (by decide +kernel) ⟨Nat.le_of_ble_eq_true rfl, Nat.le_of_ble_eq_true rfl⟩) (pv_ofE (X.same _) (fun U z1 z2 => X.mono _ _ U hFc (hEw _ _ hS U z1 z2)) hP hK hD (va_recv hK hP (ci := 11) (q0 := 0) rfl rfl)) rfl rfl hl.1 rfl (lv_room (Nat.le_of_ble_eq_true rfl)) d_Vt_format_121 ⟨ly_c0 mF.1, ly_c0 mF.2⟩) hS (fun q _ h => hFc q h) hFc (fun u t H locs ht hvm hw hB hz1 hk1 hS => ?_)
    obtain ⟨hP, -, hD⟩ := hB
    rw [ht] at hP
    have hD := lx_dj hD hFc
    refine lv_aload_n hx hb d_Vt_format_124 rfl (lv_at hl 0 rfl) ?_
    refine lv_iconst (v := 0) hx hb d_Vt_format_125 (by decide) ?_
    refine va_put (D := (dC, dI)) (ci := 11) (v := .int 0) (ty := .int) (C := R_Vt) (T := F_Vt) (N := 16) hx hb hts (fun w h => u_Vq_Vt w (i_Vt w h)) t_Vt t_Vt_ok n_Vt hown hK hP hD hS 0 rfl rfl 12 (by decide) (hts _ (u_Vq_Vt _ k_Vt_41)) (fun _ h9 => h9) rfl (by decide +kernel) rfl rfl (Nat.le_of_ble_eq_true rfl) d_Vt_format_126 (fun H locs hP hD hS => ?_)
    obtain ⟨S_14, eS_14, h⟩ := lf_lX h
    have hP := ly_newP eS_14 hP
    have hD := ly_newD eS_14 hD
    refine lv_aload_n hx hb d_Vt_format_129 rfl (lv_at hl 0 rfl) ?_
    refine va_get (D := (dC, dI)) (ci := 11) (v := .ref M.o_Tb) (C := R_Vt) (T := F_Vt) (N := 16) hx hb hts (fun w h => u_Vq_Vt w (i_Vt w h)) hown hK hP 0 rfl rfl 2 (by decide) (hts _ (u_Vq_Vt _ k_Vt_31)) (fun _ h9 => h9) rfl d_Vt_format_130 ?_
    refine va_get (D := (dC, dI)) (ci := 4) (v := .int S_14.v_Tb_clusters) (C := R_Tb) (T := F_Tb) (N := 10) hx hb hts (fun w h => u_Vq_Tb w (i_Tb w h)) hown hK hP 3 rfl rfl 7 (by decide) (hts _ (u_Vq_Vt _ k_Vt_17)) (fun _ h9 => h9) rfl d_Vt_format_133 ?_
    exact lf_xo h
  have m0 : CG.le G0 G0 := ⟨Nat.le_refl _, Nat.le_refl _⟩
  have mF := mo_Vt_format h
  refine W.widen (k := G0.gc - G0.gc) (n := G0.gs - G0.gs) (Nat.zero_le _) (Nat.zero_le _) ?_
  rw [f_Vt_format] at h
  refine lv_aload_n hx hb d_Vt_format_0 rfl (lv_at hl 0 rfl) ?_
  refine va_get (D := (dC, dI)) (ci := 11) (v := .ref M.o_Tp) (C := R_Vt) (T := F_Vt) (N := 16) hx hb hts (fun w h => u_Vq_Vt w (i_Vt w h)) hown hK hP 0 rfl rfl 1 (by decide) (hts _ (u_Vq_Vt _ k_Vt_30)) (fun _ h9 => h9) rfl d_Vt_format_1 ?_
  obtain ⟨r_1, S_1, hc_1, h⟩ := lf_cE h
  have hFc := lx_free hD hS hA
  refine va_calli (va_runV (As := []) (rest := []) ⟨hx, hb, hml, hown, hts⟩ (l_Tp_useUp l dC dI X _ hc_1) (cwV 0 hts (gwV good_Vq (u_Vq_Vt _ k_Vt_56) (u_Vq_Tp _ k_Tp_16) (u_Vq_Tp _ k_Tp_17) (u_Vq_Tp _ k_Tp_0) (wcs (u_Vq_Tp _ k_Tp_18) (fun _ h => h))) rfl rfl rfl (by decide +kernel) ⟨Nat.le_of_ble_eq_true rfl, Nat.le_of_ble_eq_true rfl⟩) (pv_ofE (X.same _) (fun U z1 z2 => X.mono _ _ U hFc (hEw _ _ hS U z1 z2)) hP hK hD (va_recv hK hP (ci := 3) (q0 := 2) rfl rfl)) rfl rfl hl.1 rfl (lv_room (Nat.le_of_ble_eq_true rfl)) d_Vt_format_4 ⟨ly_c0 mF.1, ly_c0 mF.2⟩) hS (fun q _ h => hFc q h) hFc (fun r_ u t H locs ht hvm hw hB hz1 hk1 hS => ?_)
  rw [hw]
  obtain ⟨hP, -, hD⟩ := hB
  rw [ht] at hP
  have hD := lx_dj hD hFc
  refine lv_istore (lv' := [(5, .int r_1), (0, .ref M.o_Vt), (1, .int p0), (2, .int p1), (3, .int p2), (4, .int p3)]) hx hb d_Vt_format_7 hl (by decide) rfl (fun ls hl => ?_)
  refine lv_aload_n hx hb d_Vt_format_9 rfl (lv_at hl 1 rfl) ?_
  refine va_get (D := (dC, dI)) (ci := 11) (v := .ref M.o_Tb) (C := R_Vt) (T := F_Vt) (N := 16) hx hb hts (fun w h => u_Vq_Vt w (i_Vt w h)) hown hK hP 0 rfl rfl 2 (by decide) (hts _ (u_Vq_Vt _ k_Vt_31)) (fun _ h9 => h9) rfl d_Vt_format_10 ?_
  refine lv_iload_n hx hb d_Vt_format_13 rfl (lv_at hl 2 rfl) ?_
  refine lv_iload_n hx hb d_Vt_format_14 rfl (lv_at hl 3 rfl) ?_
  refine lv_iload_n hx hb d_Vt_format_15 rfl (lv_at hl 4 rfl) ?_
  obtain ⟨r_2, S_2, hc_2, h⟩ := lf_cE h
  have hFc := lx_free hD hS hA
  refine va_calli (va_runV (As := [.int p0, .int p1, .int p2]) (rest := []) ⟨hx, hb, hml, hown, hts⟩ (l_Tb_leastLength l dC dI X _ hc_2) (cwV 3 hts (gwV good_Vq (u_Vq_Vt _ k_Vt_98) (u_Vq_Tb _ k_Tb_76) (u_Vq_Tb _ k_Tb_77) (u_Vq_Tb _ k_Tb_0) (wcs (u_Vq_Tb _ k_Tb_78) (fun _ h => h))) rfl rfl rfl (by decide +kernel) ⟨Nat.le_of_ble_eq_true rfl, Nat.le_of_ble_eq_true rfl⟩) (pv_ofE (X.same _) (fun U z1 z2 => X.mono _ _ U hFc (hEw _ _ hS U z1 z2)) hP hK hD (va_recv hK hP (ci := 4) (q0 := 3) rfl rfl)) rfl rfl hl.1 rfl (lv_room (Nat.le_of_ble_eq_true rfl)) d_Vt_format_16 ⟨ly_c0 mF.1, ly_c0 mF.2⟩) hS (fun q _ h => hFc q h) hFc (fun r_ u t H locs ht hvm hw hB hz1 hk1 hS => ?_)
  rw [hw]
  obtain ⟨hP, -, hD⟩ := hB
  rw [ht] at hP
  have hD := lx_dj hD hFc
  refine lv_istore (lv' := [(6, .int r_2), (5, .int r_1), (0, .ref M.o_Vt), (1, .int p0), (2, .int p1), (3, .int p2), (4, .int p3)]) hx hb d_Vt_format_19 hl (by decide) rfl (fun ls hl => ?_)
  refine lv_iload hx hb d_Vt_format_21 (lv_at hl 0 rfl) ?_
  refine lv_iconst (v := (-1)) hx hb d_Vt_format_23 (by decide) ?_
  refine lv_icmp_eq (tgt := 39) hx hb d_Vt_format_24 (by decide) (fun c_3 => ?_) (fun c_3 => ?_)
  · have h := lf_t h c_3
    exact hB_39 Y G0 S_2 _ _ _ h m0 hP hD hS (lv_sub hl [] rfl)
  · have h := lf_f h c_3
    refine lv_aload_n hx hb d_Vt_format_27 rfl (lv_at hl 2 rfl) ?_
    refine va_get (D := (dC, dI)) (ci := 11) (v := .ref M.o_Tp) (C := R_Vt) (T := F_Vt) (N := 16) hx hb hts (fun w h => u_Vq_Vt w (i_Vt w h)) hown hK hP 0 rfl rfl 1 (by decide) (hts _ (u_Vq_Vt _ k_Vt_30)) (fun _ h9 => h9) rfl d_Vt_format_28 ?_
    refine lv_iload hx hb d_Vt_format_31 (lv_at hl 1 rfl) ?_
    obtain ⟨r_4, S_4, hc_4, h⟩ := lf_cE h
    have hFc := lx_free hD hS hA
    refine va_calli (va_runV (As := [.int r_1]) (rest := []) ⟨hx, hb, hml, hown, hts⟩ (l_Tp_isLabel l dC dI X _ hc_4) (cwV 1 hts (gwV good_Vq (u_Vq_Vt _ k_Vt_99) (u_Vq_Tp _ k_Tp_19) (u_Vq_Tp _ k_Tp_20) (u_Vq_Tp _ k_Tp_0) (wcs (u_Vq_Tp _ k_Tp_21) (fun _ h => h))) rfl rfl rfl (by decide +kernel) ⟨Nat.le_of_ble_eq_true rfl, Nat.le_of_ble_eq_true rfl⟩) (pv_ofE (X.same _) (fun U z1 z2 => X.mono _ _ U hFc (hEw _ _ hS U z1 z2)) hP hK hD (va_recv hK hP (ci := 3) (q0 := 2) rfl rfl)) rfl rfl hl.1 rfl (lv_room (Nat.le_of_ble_eq_true rfl)) d_Vt_format_33 ⟨ly_c0 mF.1, ly_c0 mF.2⟩) hS (fun q _ h => hFc q h) hFc (fun r_ u t H locs ht hvm hw hB hz1 hk1 hS => ?_)
    rw [hw]
    obtain ⟨hP, -, hD⟩ := hB
    rw [ht] at hP
    have hD := lx_dj hD hFc
    refine lv_if_ne (tgt := 49) hx hb d_Vt_format_36 (by decide) (fun c_5 => ?_) (fun c_5 => ?_)
    · have h := lf_f h c_5
      refine lv_aload_n hx hb d_Vt_format_49 rfl (lv_at hl 2 rfl) ?_
      refine va_get (D := (dC, dI)) (ci := 11) (v := .ref M.o_Dk) (C := R_Vt) (T := F_Vt) (N := 16) hx hb hts (fun w h => u_Vq_Vt w (i_Vt w h)) hown hK hP 0 rfl rfl 0 (by decide) (hts _ (u_Vq_Vt _ k_Vt_29)) (fun _ h9 => h9) rfl d_Vt_format_50 ?_
      refine lv_iconst (v := 0) hx hb d_Vt_format_53 (by decide) ?_
      refine lv_aload_n hx hb d_Vt_format_54 rfl (lv_at hl 2 rfl) ?_
      refine va_get (D := (dC, dI)) (ci := 11) (v := .ref M.o_Dk) (C := R_Vt) (T := F_Vt) (N := 16) hx hb hts (fun w h => u_Vq_Vt w (i_Vt w h)) hown hK hP 0 rfl rfl 0 (by decide) (hts _ (u_Vq_Vt _ k_Vt_29)) (fun _ h9 => h9) rfl d_Vt_format_55 ?_
      refine va_get (D := (dC, dI)) (ci := 0) (v := .int S_4.v_Dk_sectors) (C := R_Dk) (T := F_Dk) (N := 3) hx hb hts (fun w h => u_Vq_Dk w (i_Dk w h)) hown hK hP 1 rfl rfl 0 (by decide) (hts _ (u_Vq_Vt _ k_Vt_13)) (fun _ h9 => h9) rfl d_Vt_format_58 ?_
      refine lv_sipush (v := 512) hx hb d_Vt_format_61 (by decide) ?_
      refine lv_imul hx hb d_Vt_format_64 ?_
      obtain ⟨S_6, hc_6, h⟩ := lf_bE h
      have hFc := lx_free hD hS hA
      refine va_callv (va_runV (As := [.int 0, .int (S_4.v_Dk_sectors * 512)]) (rest := []) ⟨hx, hb, hml, hown, hts⟩ (l_Dk_zero l dC dI X _ hc_6) (cwV 2 hts (gwV good_Vq (u_Vq_Vt _ k_Vt_103) (u_Vq_Dk _ k_Dk_23) (u_Vq_Dk _ k_Dk_24) (u_Vq_Dk _ k_Dk_0) (wcs (u_Vq_Dk _ k_Dk_25) (fun _ h => h))) rfl rfl rfl (by decide +kernel) ⟨Nat.le_of_ble_eq_true rfl, Nat.le_of_ble_eq_true rfl⟩) (pv_ofE (X.same _) (fun U z1 z2 => X.mono _ _ U hFc (hEw _ _ hS U z1 z2)) hP hK hD (va_recv hK hP (ci := 0) (q0 := 1) rfl rfl)) rfl rfl hl.1 rfl (lv_room (Nat.le_of_ble_eq_true rfl)) d_Vt_format_65 ⟨ly_c0 mF.1, ly_c0 mF.2⟩) hS (fun q _ h => hFc q h) hFc (fun u t H locs ht hvm hw hB hz1 hk1 hS => ?_)
      obtain ⟨hP, -, hD⟩ := hB
      rw [ht] at hP
      have hD := lx_dj hD hFc
      refine lv_aload_n hx hb d_Vt_format_68 rfl (lv_at hl 2 rfl) ?_
      refine va_get (D := (dC, dI)) (ci := 11) (v := .ref M.o_Tb) (C := R_Vt) (T := F_Vt) (N := 16) hx hb hts (fun w h => u_Vq_Vt w (i_Vt w h)) hown hK hP 0 rfl rfl 2 (by decide) (hts _ (u_Vq_Vt _ k_Vt_31)) (fun _ h9 => h9) rfl d_Vt_format_69 ?_
      refine lv_iload_n hx hb d_Vt_format_72 rfl (lv_at hl 3 rfl) ?_
      refine lv_iload_n hx hb d_Vt_format_73 rfl (lv_at hl 4 rfl) ?_
      refine lv_iload_n hx hb d_Vt_format_74 rfl (lv_at hl 5 rfl) ?_
      refine lv_iload hx hb d_Vt_format_75 (lv_at hl 0 rfl) ?_
      refine lv_iload hx hb d_Vt_format_77 (lv_at hl 6 rfl) ?_
      obtain ⟨S_7, hc_7, h⟩ := lf_bE h
      have hFc := lx_free hD hS hA
      refine va_callv (va_runV (As := [.int p0, .int p1, .int p2, .int r_2, .int p3]) (rest := []) ⟨hx, hb, hml, hown, hts⟩ (l_Tb_writeFirstSectors l dC dI X _ hc_7) (cwV 5 hts (gwV good_Vq (u_Vq_Vt _ k_Vt_104) (u_Vq_Tb _ k_Tb_79) (u_Vq_Tb _ k_Tb_80) (u_Vq_Tb _ k_Tb_0) (wcs (u_Vq_Tb _ k_Tb_81) (fun _ h => h))) rfl rfl rfl (by decide +kernel) ⟨Nat.le_of_ble_eq_true rfl, Nat.le_of_ble_eq_true rfl⟩) (pv_ofE (X.same _) (fun U z1 z2 => X.mono _ _ U hFc (hEw _ _ hS U z1 z2)) hP hK hD (va_recv hK hP (ci := 4) (q0 := 3) rfl rfl)) rfl rfl hl.1 rfl (lv_room (Nat.le_of_ble_eq_true rfl)) d_Vt_format_79 ⟨ly_c0 mF.1, ly_c0 mF.2⟩) hS (fun q _ h => hFc q h) hFc (fun u t H locs ht hvm hw hB hz1 hk1 hS => ?_)
      obtain ⟨hP, -, hD⟩ := hB
      rw [ht] at hP
      have hD := lx_dj hD hFc
      refine lv_aload_n hx hb d_Vt_format_82 rfl (lv_at hl 2 rfl) ?_
      refine va_get (D := (dC, dI)) (ci := 11) (v := .ref M.o_Tb) (C := R_Vt) (T := F_Vt) (N := 16) hx hb hts (fun w h => u_Vq_Vt w (i_Vt w h)) hown hK hP 0 rfl rfl 2 (by decide) (hts _ (u_Vq_Vt _ k_Vt_31)) (fun _ h9 => h9) rfl d_Vt_format_83 ?_
      obtain ⟨r_8, S_8, hc_8, h⟩ := lf_cE h
      have hFc := lx_free hD hS hA
      refine va_calli (va_runV (As := []) (rest := []) ⟨hx, hb, hml, hown, hts⟩ (l_Tb_read l dC dI X _ hc_8) (cwV 0 hts (gwV good_Vq (u_Vq_Vt _ k_Vt_105) (u_Vq_Tb _ k_Tb_19) (u_Vq_Tb _ k_Tb_20) (u_Vq_Tb _ k_Tb_0) (wcs (u_Vq_Tb _ k_Tb_21) (fun _ h => h))) rfl rfl rfl (by decide +kernel) ⟨Nat.le_of_ble_eq_true rfl, Nat.le_of_ble_eq_true rfl⟩) (pv_ofE (X.same _) (fun U z1 z2 => X.mono _ _ U hFc (hEw _ _ hS U z1 z2)) hP hK hD (va_recv hK hP (ci := 4) (q0 := 3) rfl rfl)) rfl rfl hl.1 rfl (lv_room (Nat.le_of_ble_eq_true rfl)) d_Vt_format_86 ⟨ly_c0 mF.1, ly_c0 mF.2⟩) hS (fun q _ h => hFc q h) hFc (fun r_ u t H locs ht hvm hw hB hz1 hk1 hS => ?_)
      rw [hw]
      obtain ⟨hP, -, hD⟩ := hB
      rw [ht] at hP
      have hD := lx_dj hD hFc
      refine lv_pop hx hb d_Vt_format_89 rfl ?_
      refine lv_aload_n hx hb d_Vt_format_90 rfl (lv_at hl 2 rfl) ?_
      refine va_get (D := (dC, dI)) (ci := 11) (v := .ref M.o_Tb) (C := R_Vt) (T := F_Vt) (N := 16) hx hb hts (fun w h => u_Vq_Vt w (i_Vt w h)) hown hK hP 0 rfl rfl 2 (by decide) (hts _ (u_Vq_Vt _ k_Vt_31)) (fun _ h9 => h9) rfl d_Vt_format_91 ?_
      obtain ⟨S_9, hc_9, h⟩ := lf_bE h
      have hFc := lx_free hD hS hA
      refine va_callv (va_runV (As := []) (rest := []) ⟨hx, hb, hml, hown, hts⟩ (l_Tb_startTables l dC dI X _ hc_9) (cwV 0 hts (gwV good_Vq (u_Vq_Vt _ k_Vt_106) (u_Vq_Tb _ k_Tb_88) (u_Vq_Tb _ k_Tb_89) (u_Vq_Tb _ k_Tb_0) (wcs (u_Vq_Tb _ k_Tb_90) (fun _ h => h))) rfl rfl rfl (by decide +kernel) ⟨Nat.le_of_ble_eq_true rfl, Nat.le_of_ble_eq_true rfl⟩) (pv_ofE (X.same _) (fun U z1 z2 => X.mono _ _ U hFc (hEw _ _ hS U z1 z2)) hP hK hD (va_recv hK hP (ci := 4) (q0 := 3) rfl rfl)) rfl rfl hl.1 rfl (lv_room (Nat.le_of_ble_eq_true rfl)) d_Vt_format_94 ⟨ly_c0 mF.1, ly_c0 mF.2⟩) hS (fun q _ h => hFc q h) hFc (fun u t H locs ht hvm hw hB hz1 hk1 hS => ?_)
      obtain ⟨hP, -, hD⟩ := hB
      rw [ht] at hP
      have hD := lx_dj hD hFc
      refine lv_iload hx hb d_Vt_format_97 (lv_at hl 1 rfl) ?_
      refine lv_if_le (tgt := 115) hx hb d_Vt_format_99 (by decide) (fun c_10 => ?_) (fun c_10 => ?_)
      · have h := lf_t h c_10
        exact hB_115 Y G0 S_9 _ _ _ h m0 hP hD hS (lv_sub hl [2] rfl)
      · have h := lf_f h c_10
        refine lv_aload_n hx hb d_Vt_format_102 rfl (lv_at hl 2 rfl) ?_
        refine va_get (D := (dC, dI)) (ci := 11) (v := .ref M.o_Ed) (C := R_Vt) (T := F_Vt) (N := 16) hx hb hts (fun w h => u_Vq_Vt w (i_Vt w h)) hown hK hP 0 rfl rfl 5 (by decide) (hts _ (u_Vq_Vt _ k_Vt_34)) (fun _ h9 => h9) rfl d_Vt_format_103 ?_
        refine lv_aload_n hx hb d_Vt_format_106 rfl (lv_at hl 2 rfl) ?_
        refine va_get (D := (dC, dI)) (ci := 11) (v := .ref M.o_Tp) (C := R_Vt) (T := F_Vt) (N := 16) hx hb hts (fun w h => u_Vq_Vt w (i_Vt w h)) hown hK hP 0 rfl rfl 1 (by decide) (hts _ (u_Vq_Vt _ k_Vt_30)) (fun _ h9 => h9) rfl d_Vt_format_107 ?_
        refine lv_iload hx hb d_Vt_format_110 (lv_at hl 1 rfl) ?_
        obtain ⟨S_11, hc_11, h⟩ := lf_bE h
        have hFc := lx_free hD hS hA
        refine va_callv (va_runV (As := [.ref M.o_Tp, .int r_1]) (rest := []) ⟨hx, hb, hml, hown, hts⟩ (l_Ed_writeLabel l dC dI X _ hc_11) (cwV 2 hts (gwV good_Vq (u_Vq_Vt _ k_Vt_107) (u_Vq_Ed _ k_Ed_20) (u_Vq_Ed _ k_Ed_21) (u_Vq_Ed _ k_Ed_0) (wcs (u_Vq_Ed _ k_Ed_22) (fun _ h => h))) rfl rfl rfl (by decide +kernel) ⟨Nat.le_of_ble_eq_true rfl, Nat.le_of_ble_eq_true rfl⟩) (pv_ofE (X.same _) (fun U z1 z2 => X.mono _ _ U hFc (hEw _ _ hS U z1 z2)) hP hK hD (va_recv hK hP (ci := 8) (q0 := 6) rfl rfl)) rfl rfl hl.1 rfl (lv_room (Nat.le_of_ble_eq_true rfl)) d_Vt_format_112 ⟨ly_c0 mF.1, ly_c0 mF.2⟩) hS (fun q _ h => hFc q h) hFc (fun u t H locs ht hvm hw hB hz1 hk1 hS => ?_)
        obtain ⟨hP, -, hD⟩ := hB
        rw [ht] at hP
        have hD := lx_dj hD hFc
        exact hB_115 Y G0 S_11 _ _ _ h m0 hP hD hS (lv_sub hl [2] rfl)
    · have h := lf_t h c_5
      exact hB_39 Y G0 S_4 _ _ _ h m0 hP hD hS (lv_sub hl [] rfl)
set_option maxHeartbeats 4000000 in
set_option maxRecDepth 100000 in
theorem l_Vt_lengthen (l : Launch) (dC : Nat → ClassId) (dI : Nat → Nat → Nat) {K : Nat} {M : CA} {E : (Nat → Prop) → State → Prop} (X : ly_X l dC dI K M E) (sz : Nat) {Y : CT} {G0 G' : CG} {S S' : CS} {p0 : Int32} {p1 : Int32} {r : Int32} (h : f_Vt_lengthen K G0 S p0 p1 = some (.ok r, G', S')) : Met l y_Vt_lengthen (.code y_Vt_lengthen cb_Vt_lengthen 4 (some .int) :: V_Vq) ({ frames := 6, cells := G'.gc - G0.gc, slots := G'.gs - G0.gs, locals := 136 }) (va_Pc [.ref M.o_Vt, .int p0, .int p1] (fun U => U.heap.size = sz ∧ at_ (dC, dI) (fun _ => True) (wV M Y G0 S) (tV M) U ∧ E (va_A (wV M Y G0 S) sz) U)) (va_Qi (fun (r_ : Int32) (u : CT) => r_ = r) (fun (u : CT) t => at_ (dC, dI) (va_A (wV M Y G0 S) sz) (wV M u G' S') (tV M) t) (va_A (wV M Y G0 S) sz)) (G'.gc - G0.gc) (G'.gs - G0.gs) (va_A (wV M Y G0 S) sz) := by
  refine Met.ofW (cc := cb_Vt_lengthen) (maxL := 4) (ret := (some .int)) (by decide) rfl ?_
  intro p e s m args below meth c s₁ B hml hv
  obtain ⟨rfl, hsz, ⟨hP, hK, hD0⟩, hE⟩ := hv
  have hx := B.exec
  have hb := B.bytes
  have hr := B.returns
  have hts0 := atoms_spec (ws := .code y_Vt_lengthen cb_Vt_lengthen 4 (some .int) :: V_Vq) B.pre
  have hts : ∀ w ∈ V_Vq, w.before ([.ref M.o_Vt, .int p0, .int p1] : List Value).toArray s = true := fun w h => hts0 w (List.mem_cons_of_mem _ h)
  have hown : s.vm.findClass R_Vt = some m.cls := findClass_of_methodNamed B.named
  subst hsz
  have hD := hD0.self (sz := s.heap.size)
  generalize hAe : va_A (wV M Y G0 S) s.heap.size = A at hD hE ⊢
  have hA : ∀ q : Nat, s.heap.size ≤ q → A q := fun q h => by rw [← hAe]; exact Or.inr h
  have hS : va_S A s.heap s.heap [] := va_S.rf
  have hP : va_P (dC, dI) classes (wV M Y G0 S) s.heap := hP
  have hK : va_K (dC, dI) classes (tV M) s := hK
  have hEw : ∀ (H : Heap) (locs : List Loc), va_S A s.heap H locs → ∀ U : State, U.heap = H → s.WarmedH U.vm → E A U := fun H locs hS U hU hW => X.kept A s U H locs hE hS hU hW
  have hl := lv_entry ([.ref M.o_Vt, .int p0, .int p1]) (n := 4) (Nat.le_of_ble_eq_true rfl)
  rw [lg_entry_eq]
  generalize (lg_sl ([.ref M.o_Vt, .int p0, .int p1]) ++ List.replicate (4 - (lg_sl ([.ref M.o_Vt, .int p0, .int p1])).length) Slot.unset).toArray = ls at hl ⊢
  have hl : lv_has ls 4 [(0, .ref M.o_Vt), (1, .int p0), (2, .int p1)] := hl
  refine qabs (fun Q hQ => ?_)
  have m0 : CG.le G0 G0 := ⟨Nat.le_refl _, Nat.le_refl _⟩
  have mF := mo_Vt_lengthen h
  refine W.widen (k := G0.gc - G0.gc) (n := G0.gs - G0.gs) (Nat.zero_le _) (Nat.zero_le _) ?_
  rw [f_Vt_lengthen] at h
  refine lv_aload_n hx hb d_Vt_lengthen_0 rfl (lv_at hl 0 rfl) ?_
  refine va_get (D := (dC, dI)) (ci := 11) (v := .ref M.o_Tr) (C := R_Vt) (T := F_Vt) (N := 16) hx hb hts (fun w h => u_Vq_Vt w (i_Vt w h)) hown hK hP 0 rfl rfl 3 (by decide) (hts _ (u_Vq_Vt _ k_Vt_32)) (fun _ h9 => h9) rfl d_Vt_lengthen_1 ?_
  refine lv_iload_n hx hb d_Vt_lengthen_4 rfl (lv_at hl 1 rfl) ?_
  obtain ⟨r_1, S_1, hc_1, h⟩ := lf_cE h
  have hFc := lx_free hD hS hA
  refine va_calli (va_runV (As := [.int p0]) (rest := []) ⟨hx, hb, hml, hown, hts⟩ (l_Tr_sizeOf l dC dI X _ hc_1) (cwV 1 hts (gwV good_Vq (u_Vq_Vt _ k_Vt_144) (u_Vq_Tr _ k_Tr_88) (u_Vq_Tr _ k_Tr_89) (u_Vq_Tr _ k_Tr_0) (wcs (u_Vq_Tr _ k_Tr_90) (fun _ h => h))) rfl rfl rfl (by decide +kernel) ⟨Nat.le_of_ble_eq_true rfl, Nat.le_of_ble_eq_true rfl⟩) (pv_ofE (X.same _) (fun U z1 z2 => X.mono _ _ U hFc (hEw _ _ hS U z1 z2)) hP hK hD (va_recv hK hP (ci := 5) (q0 := 4) rfl rfl)) rfl rfl hl.1 rfl (lv_room (Nat.le_of_ble_eq_true rfl)) d_Vt_lengthen_5 ⟨ly_c0 mF.1, ly_c0 mF.2⟩) hS (fun q _ h => hFc q h) hFc (fun r_ u t H locs ht hvm hw hB hz1 hk1 hS => ?_)
  rw [hw]
  obtain ⟨hP, -, hD⟩ := hB
  rw [ht] at hP
  have hD := lx_dj hD hFc
  refine lv_istore_n (lv' := [(3, .int r_1), (0, .ref M.o_Vt), (1, .int p0), (2, .int p1)]) hx hb d_Vt_lengthen_8 rfl hl (by decide) rfl (fun ls hl => ?_)
  refine lv_aload_n hx hb d_Vt_lengthen_9 rfl (lv_at hl 1 rfl) ?_
  refine va_get (D := (dC, dI)) (ci := 11) (v := .ref M.o_Ed) (C := R_Vt) (T := F_Vt) (N := 16) hx hb hts (fun w h => u_Vq_Vt w (i_Vt w h)) hown hK hP 0 rfl rfl 5 (by decide) (hts _ (u_Vq_Vt _ k_Vt_34)) (fun _ h9 => h9) rfl d_Vt_lengthen_10 ?_
  refine lv_iload_n hx hb d_Vt_lengthen_13 rfl (lv_at hl 2 rfl) ?_
  refine lv_iload_n hx hb d_Vt_lengthen_14 rfl (lv_at hl 3 rfl) ?_
  obtain ⟨r_2, S_2, hc_2, h⟩ := lf_cE h
  have hFc := lx_free hD hS hA
  refine va_calli (va_runV (As := [.int p0, .int p1]) (rest := []) ⟨hx, hb, hml, hown, hts⟩ (l_Ed_canHold l dC dI X _ hc_2) (cwV 2 hts (gwV good_Vq (u_Vq_Vt _ k_Vt_185) (u_Vq_Ed _ k_Ed_105) (u_Vq_Ed _ k_Ed_106) (u_Vq_Ed _ k_Ed_0) (wcs (u_Vq_Ed _ k_Ed_107) (fun _ h => h))) rfl rfl rfl (by decide +kernel) ⟨Nat.le_of_ble_eq_true rfl, Nat.le_of_ble_eq_true rfl⟩) (pv_ofE (X.same _) (fun U z1 z2 => X.mono _ _ U hFc (hEw _ _ hS U z1 z2)) hP hK hD (va_recv hK hP (ci := 8) (q0 := 6) rfl rfl)) rfl rfl hl.1 rfl (lv_room (Nat.le_of_ble_eq_true rfl)) d_Vt_lengthen_15 ⟨ly_c0 mF.1, ly_c0 mF.2⟩) hS (fun q _ h => hFc q h) hFc (fun r_ u t H locs ht hvm hw hB hz1 hk1 hS => ?_)
  rw [hw]
  obtain ⟨hP, -, hD⟩ := hB
  rw [ht] at hP
  have hD := lx_dj hD hFc
  refine lv_if_ne (tgt := 31) hx hb d_Vt_lengthen_18 (by decide) (fun c_3 => ?_) (fun c_3 => ?_)
  · have h := lf_f h c_3
    refine lv_aload_n hx hb d_Vt_lengthen_31 rfl (lv_at hl 1 rfl) ?_
    obtain ⟨S_4, hc_4, h⟩ := lf_bE h
    have hFc := lx_free hD hS hA
    refine va_callv (va_runV (As := []) (rest := []) ⟨hx, hb, hml, hown, hts⟩ (l_Vt_changed l dC dI X _ hc_4) (cwV 0 hts (gwV good_Vq (u_Vq_Vt _ k_Vt_62) (u_Vq_Vt _ k_Vt_63) (u_Vq_Vt _ k_Vt_213) (u_Vq_Vt _ k_Vt_0) (wcs (u_Vq_Vt _ k_Vt_64) (fun _ h => h))) rfl rfl rfl (by decide +kernel) ⟨Nat.le_of_ble_eq_true rfl, Nat.le_of_ble_eq_true rfl⟩) (pv_ofE (X.same _) (fun U z1 z2 => X.mono _ _ U hFc (hEw _ _ hS U z1 z2)) hP hK hD (va_recv hK hP (ci := 11) (q0 := 0) rfl rfl)) rfl rfl hl.1 rfl (lv_room (Nat.le_of_ble_eq_true rfl)) d_Vt_lengthen_32 ⟨ly_c0 mF.1, ly_c0 mF.2⟩) hS (fun q _ h => hFc q h) hFc (fun u t H locs ht hvm hw hB hz1 hk1 hS => ?_)
    obtain ⟨hP, -, hD⟩ := hB
    rw [ht] at hP
    have hD := lx_dj hD hFc
    refine lv_aload_n hx hb d_Vt_lengthen_35 rfl (lv_at hl 1 rfl) ?_
    refine va_get (D := (dC, dI)) (ci := 11) (v := .ref M.o_Ed) (C := R_Vt) (T := F_Vt) (N := 16) hx hb hts (fun w h => u_Vq_Vt w (i_Vt w h)) hown hK hP 0 rfl rfl 5 (by decide) (hts _ (u_Vq_Vt _ k_Vt_34)) (fun _ h9 => h9) rfl d_Vt_lengthen_36 ?_
    refine lv_iload_n hx hb d_Vt_lengthen_39 rfl (lv_at hl 2 rfl) ?_
    refine lv_iload_n hx hb d_Vt_lengthen_40 rfl (lv_at hl 3 rfl) ?_
    obtain ⟨S_5, hc_5, h⟩ := lf_bE h
    have hFc := lx_free hD hS hA
    refine va_callv (va_runV (As := [.int p0, .int p1]) (rest := []) ⟨hx, hb, hml, hown, hts⟩ (l_Ed_lengthen l dC dI X _ hc_5) (cwV 2 hts (gwV good_Vq (u_Vq_Vt _ k_Vt_186) (u_Vq_Ed _ k_Ed_112) (u_Vq_Ed _ k_Ed_113) (u_Vq_Ed _ k_Ed_0) (wcs (u_Vq_Ed _ k_Ed_114) (fun _ h => h))) rfl rfl rfl (by decide +kernel) ⟨Nat.le_of_ble_eq_true rfl, Nat.le_of_ble_eq_true rfl⟩) (pv_ofE (X.same _) (fun U z1 z2 => X.mono _ _ U hFc (hEw _ _ hS U z1 z2)) hP hK hD (va_recv hK hP (ci := 8) (q0 := 6) rfl rfl)) rfl rfl hl.1 rfl (lv_room (Nat.le_of_ble_eq_true rfl)) d_Vt_lengthen_41 ⟨ly_c0 mF.1, ly_c0 mF.2⟩) hS (fun q _ h => hFc q h) hFc (fun u t H locs ht hvm hw hB hz1 hk1 hS => ?_)
    obtain ⟨hP, -, hD⟩ := hB
    rw [ht] at hP
    have hD := lx_dj hD hFc
    refine lv_iload_n hx hb d_Vt_lengthen_44 rfl (lv_at hl 0 rfl) ?_
    rw [hQ]
    have e1 : r_1 = r := Except.ok.inj (congrArg (fun z => z.1) (Option.some.inj h))
    have e2 : G0 = G' := congrArg (fun z => z.2.1) (Option.some.inj h)
    have e3 : S_5 = S' := congrArg (fun z => z.2.2) (Option.some.inj h)
    have hP := ly_newP3 e2.symm e3.symm hP
    have hD := ly_newD3 e2.symm e3.symm hD
    refine W.widen (k := G'.gc - G0.gc) (n := G'.gs - G0.gs) (ly_wc e2) (ly_ws e2) ?_
    exact W.iret (v := r_1) hx hb hr (fun t ht hW => ⟨⟨r_1, Y, rfl, e1, by rw [ht]; exact hP, va_K.moved hW.alike hK, hD⟩, hS.F ht⟩) hS.2.2 d_Vt_lengthen_45
  · have h := lf_t h c_3
    exact lf_xe h
set_option maxHeartbeats 4000000 in
set_option maxRecDepth 100000 in
theorem lt_Vt_lengthen_3 (l : Launch) (hfl : l.flags = pinnedFlags ++ [noTraceFlag]) (dC : Nat → ClassId) (dI : Nat → Nat → Nat) {K : Nat} {M : CA} {E : (Nat → Prop) → State → Prop} (X : ly_X l dC dI K M E) (sz : Nat) {Y : CT} {G0 G' : CG} {S S' : CS} {p0 : Int32} {p1 : Int32} (h : f_Vt_lengthen K G0 S p0 p1 = some (.error 3, G', S')) : MetX l y_Vt_lengthen (.code y_Vt_lengthen cb_Vt_lengthen 4 (some .int) :: V_Vq) ({ frames := 6, cells := G'.gc - G0.gc, slots := G'.gs - G0.gs, locals := 136 }) (va_Pc [.ref M.o_Vt, .int p0, .int p1] (fun U => U.heap.size = sz ∧ at_ (dC, dI) (fun _ => True) (wV M Y G0 S) (tV M) U ∧ E (va_A (wV M Y G0 S) sz) U)) (fun _ _ _ _ => False) (x_Q "java/lang/UnsupportedOperationException" (va_A (wV M Y G0 S) sz) (fun t => ∃ u : CT, at_ (dC, dI) (va_A (wV M Y G0 S) sz) (wV M u G' S') (tV M) t)) (G'.gc - G0.gc) (G'.gs - G0.gs) (va_A (wV M Y G0 S) sz) := by
  refine MetX.ofW (cc := cb_Vt_lengthen) (maxL := 4) (ret := (some .int)) (by decide) rfl ?_
  intro p e s m args below meth c s₁ B hml hv
  obtain ⟨rfl, hsz, ⟨hP, hK, hD0⟩, hE⟩ := hv
  have hx := B.exec
  have hb := B.bytes
  have hr := B.returns
  have hts0 := atoms_spec (ws := .code y_Vt_lengthen cb_Vt_lengthen 4 (some .int) :: V_Vq) B.pre
  have hts : ∀ w ∈ V_Vq, w.before ([.ref M.o_Vt, .int p0, .int p1] : List Value).toArray s = true := fun w h => hts0 w (List.mem_cons_of_mem _ h)
  have hown : s.vm.findClass R_Vt = some m.cls := findClass_of_methodNamed B.named
  have hlocks := B.notSynchronized
  have hout := x_table B (hts0 _ List.mem_cons_self)
  subst hsz
  have hD := hD0.self (sz := s.heap.size)
  generalize hAe : va_A (wV M Y G0 S) s.heap.size = A at hD hE ⊢
  have hA : ∀ q : Nat, s.heap.size ≤ q → A q := fun q h => by rw [← hAe]; exact Or.inr h
  have hS : va_S A s.heap s.heap [] := va_S.rf
  have hP : va_P (dC, dI) classes (wV M Y G0 S) s.heap := hP
  have hK : va_K (dC, dI) classes (tV M) s := hK
  have hEw : ∀ (H : Heap) (locs : List Loc), va_S A s.heap H locs → ∀ U : State, U.heap = H → s.WarmedH U.vm → E A U := fun H locs hS U hU hW => X.kept A s U H locs hE hS hU hW
  have hl := lv_entry ([.ref M.o_Vt, .int p0, .int p1]) (n := 4) (Nat.le_of_ble_eq_true rfl)
  rw [lg_entry_eq]
  generalize (lg_sl ([.ref M.o_Vt, .int p0, .int p1]) ++ List.replicate (4 - (lg_sl ([.ref M.o_Vt, .int p0, .int p1])).length) Slot.unset).toArray = ls at hl ⊢
  have hl : lv_has ls 4 [(0, .ref M.o_Vt), (1, .int p0), (2, .int p1)] := hl
  refine qabs (fun Q hQ => ?_)
  have m0 : CG.le G0 G0 := ⟨Nat.le_refl _, Nat.le_refl _⟩
  have mF := mo_Vt_lengthen h
  refine W.widen (k := G0.gc - G0.gc) (n := G0.gs - G0.gs) (Nat.zero_le _) (Nat.zero_le _) ?_
  rw [f_Vt_lengthen] at h
  refine lv_aload_n hx hb d_Vt_lengthen_0 rfl (lv_at hl 0 rfl) ?_
  refine va_get (D := (dC, dI)) (ci := 11) (v := .ref M.o_Tr) (C := R_Vt) (T := F_Vt) (N := 16) hx hb hts (fun w h => u_Vq_Vt w (i_Vt w h)) hown hK hP 0 rfl rfl 3 (by decide) (hts _ (u_Vq_Vt _ k_Vt_32)) (fun _ h9 => h9) rfl d_Vt_lengthen_1 ?_
  refine lv_iload_n hx hb d_Vt_lengthen_4 rfl (lv_at hl 1 rfl) ?_
  obtain ⟨r_1, S_1, hc_1, h⟩ := lf_cE h
  have hFc := lx_free hD hS hA
  refine va_calli (va_runV (As := [.int p0]) (rest := []) ⟨hx, hb, hml, hown, hts⟩ (l_Tr_sizeOf l dC dI X _ hc_1) (cwV 1 hts (gwV good_Vq (u_Vq_Vt _ k_Vt_144) (u_Vq_Tr _ k_Tr_88) (u_Vq_Tr _ k_Tr_89) (u_Vq_Tr _ k_Tr_0) (wcs (u_Vq_Tr _ k_Tr_90) (fun _ h => h))) rfl rfl rfl (by decide +kernel) ⟨Nat.le_of_ble_eq_true rfl, Nat.le_of_ble_eq_true rfl⟩) (pv_ofE (X.same _) (fun U z1 z2 => X.mono _ _ U hFc (hEw _ _ hS U z1 z2)) hP hK hD (va_recv hK hP (ci := 5) (q0 := 4) rfl rfl)) rfl rfl hl.1 rfl (lv_room (Nat.le_of_ble_eq_true rfl)) d_Vt_lengthen_5 ⟨ly_c0 mF.1, ly_c0 mF.2⟩) hS (fun q _ h => hFc q h) hFc (fun r_ u t H locs ht hvm hw hB hz1 hk1 hS => ?_)
  rw [hw]
  obtain ⟨hP, -, hD⟩ := hB
  rw [ht] at hP
  have hD := lx_dj hD hFc
  refine lv_istore_n (lv' := [(3, .int r_1), (0, .ref M.o_Vt), (1, .int p0), (2, .int p1)]) hx hb d_Vt_lengthen_8 rfl hl (by decide) rfl (fun ls hl => ?_)
  refine lv_aload_n hx hb d_Vt_lengthen_9 rfl (lv_at hl 1 rfl) ?_
  refine va_get (D := (dC, dI)) (ci := 11) (v := .ref M.o_Ed) (C := R_Vt) (T := F_Vt) (N := 16) hx hb hts (fun w h => u_Vq_Vt w (i_Vt w h)) hown hK hP 0 rfl rfl 5 (by decide) (hts _ (u_Vq_Vt _ k_Vt_34)) (fun _ h9 => h9) rfl d_Vt_lengthen_10 ?_
  refine lv_iload_n hx hb d_Vt_lengthen_13 rfl (lv_at hl 2 rfl) ?_
  refine lv_iload_n hx hb d_Vt_lengthen_14 rfl (lv_at hl 3 rfl) ?_
  obtain ⟨r_2, S_2, hc_2, h⟩ := lf_cE h
  have hFc := lx_free hD hS hA
  refine va_calli (va_runV (As := [.int p0, .int p1]) (rest := []) ⟨hx, hb, hml, hown, hts⟩ (l_Ed_canHold l dC dI X _ hc_2) (cwV 2 hts (gwV good_Vq (u_Vq_Vt _ k_Vt_185) (u_Vq_Ed _ k_Ed_105) (u_Vq_Ed _ k_Ed_106) (u_Vq_Ed _ k_Ed_0) (wcs (u_Vq_Ed _ k_Ed_107) (fun _ h => h))) rfl rfl rfl (by decide +kernel) ⟨Nat.le_of_ble_eq_true rfl, Nat.le_of_ble_eq_true rfl⟩) (pv_ofE (X.same _) (fun U z1 z2 => X.mono _ _ U hFc (hEw _ _ hS U z1 z2)) hP hK hD (va_recv hK hP (ci := 8) (q0 := 6) rfl rfl)) rfl rfl hl.1 rfl (lv_room (Nat.le_of_ble_eq_true rfl)) d_Vt_lengthen_15 ⟨ly_c0 mF.1, ly_c0 mF.2⟩) hS (fun q _ h => hFc q h) hFc (fun r_ u t H locs ht hvm hw hB hz1 hk1 hS => ?_)
  rw [hw]
  obtain ⟨hP, -, hD⟩ := hB
  rw [ht] at hP
  have hD := lx_dj hD hFc
  refine lv_if_ne (tgt := 31) hx hb d_Vt_lengthen_18 (by decide) (fun c_3 => ?_) (fun c_3 => ?_)
  · have h := lf_f h c_3
    refine lv_aload_n hx hb d_Vt_lengthen_31 rfl (lv_at hl 1 rfl) ?_
    obtain ⟨S_4, hc_4, h⟩ := lf_bE h
    have hFc := lx_free hD hS hA
    refine va_callv (va_runV (As := []) (rest := []) ⟨hx, hb, hml, hown, hts⟩ (l_Vt_changed l dC dI X _ hc_4) (cwV 0 hts (gwV good_Vq (u_Vq_Vt _ k_Vt_62) (u_Vq_Vt _ k_Vt_63) (u_Vq_Vt _ k_Vt_213) (u_Vq_Vt _ k_Vt_0) (wcs (u_Vq_Vt _ k_Vt_64) (fun _ h => h))) rfl rfl rfl (by decide +kernel) ⟨Nat.le_of_ble_eq_true rfl, Nat.le_of_ble_eq_true rfl⟩) (pv_ofE (X.same _) (fun U z1 z2 => X.mono _ _ U hFc (hEw _ _ hS U z1 z2)) hP hK hD (va_recv hK hP (ci := 11) (q0 := 0) rfl rfl)) rfl rfl hl.1 rfl (lv_room (Nat.le_of_ble_eq_true rfl)) d_Vt_lengthen_32 ⟨ly_c0 mF.1, ly_c0 mF.2⟩) hS (fun q _ h => hFc q h) hFc (fun u t H locs ht hvm hw hB hz1 hk1 hS => ?_)
    obtain ⟨hP, -, hD⟩ := hB
    rw [ht] at hP
    have hD := lx_dj hD hFc
    refine lv_aload_n hx hb d_Vt_lengthen_35 rfl (lv_at hl 1 rfl) ?_
    refine va_get (D := (dC, dI)) (ci := 11) (v := .ref M.o_Ed) (C := R_Vt) (T := F_Vt) (N := 16) hx hb hts (fun w h => u_Vq_Vt w (i_Vt w h)) hown hK hP 0 rfl rfl 5 (by decide) (hts _ (u_Vq_Vt _ k_Vt_34)) (fun _ h9 => h9) rfl d_Vt_lengthen_36 ?_
    refine lv_iload_n hx hb d_Vt_lengthen_39 rfl (lv_at hl 2 rfl) ?_
    refine lv_iload_n hx hb d_Vt_lengthen_40 rfl (lv_at hl 3 rfl) ?_
    obtain ⟨S_5, hc_5, h⟩ := lf_bE h
    have hFc := lx_free hD hS hA
    refine va_callv (va_runV (As := [.int p0, .int p1]) (rest := []) ⟨hx, hb, hml, hown, hts⟩ (l_Ed_lengthen l dC dI X _ hc_5) (cwV 2 hts (gwV good_Vq (u_Vq_Vt _ k_Vt_186) (u_Vq_Ed _ k_Ed_112) (u_Vq_Ed _ k_Ed_113) (u_Vq_Ed _ k_Ed_0) (wcs (u_Vq_Ed _ k_Ed_114) (fun _ h => h))) rfl rfl rfl (by decide +kernel) ⟨Nat.le_of_ble_eq_true rfl, Nat.le_of_ble_eq_true rfl⟩) (pv_ofE (X.same _) (fun U z1 z2 => X.mono _ _ U hFc (hEw _ _ hS U z1 z2)) hP hK hD (va_recv hK hP (ci := 8) (q0 := 6) rfl rfl)) rfl rfl hl.1 rfl (lv_room (Nat.le_of_ble_eq_true rfl)) d_Vt_lengthen_41 ⟨ly_c0 mF.1, ly_c0 mF.2⟩) hS (fun q _ h => hFc q h) hFc (fun u t H locs ht hvm hw hB hz1 hk1 hS => ?_)
    obtain ⟨hP, -, hD⟩ := hB
    rw [ht] at hP
    have hD := lx_dj hD hFc
    refine lv_iload_n hx hb d_Vt_lengthen_44 rfl (lv_at hl 0 rfl) ?_
    exact lf_xo h
  · have h := lf_t h c_3
    rw [hQ]
    have e2 : G0.made 1 6 = G' := congrArg (fun z => z.2.1) (Option.some.inj h)
    have e3 : S_2 = S' := congrArg (fun z => z.2.2) (Option.some.inj h)
    have hP := ly_newP3 e2.symm e3.symm (ly_madeP (c := 1) (n := 6) hP)
    have hD := ly_newD3 e2.symm e3.symm (ly_madeD (c := 1) (n := 6) hD)
    refine W.mono (ly_mqx (fun t z => ⟨Y, z⟩)) ?_
    exact x_thrG (own := R_Vt) (cls := "java/lang/UnsupportedOperationException") (ik := 248) (is := 250) (ic := 252) (k := 2) hx hb (Launch.traces_off hfl (Stand.of_body B).admits) hlocks hown (by decide) (fun T hT => (X.xt_250 _ _ (hEw _ _ hS (xs s T) hT (State.WarmedH.refl s))).1) (hts _ (u_Vq_Vt _ k_Vt_172)) (hts _ (u_Vq_Vt _ k_Vt_173)) (hts _ (u_Vq_Vt _ k_Vt_4)) (X.xt_250 _ _ hE).2 (hl.1.trans hml.symm) d_Vt_lengthen_21 d_Vt_lengthen_24 (Or.inl ⟨d_Vt_lengthen_25, rfl⟩) d_Vt_lengthen_27 d_Vt_lengthen_30 hout (Nat.le_of_ble_eq_true rfl) (Nat.le_of_ble_eq_true rfl) (ly_t1 e2 m0) (Nat.le_refl _) (ly_t2 e2 m0) (Nat.le_refl _) hP hK hD hS
set_option maxHeartbeats 4000000 in
set_option maxRecDepth 100000 in
theorem l_Vt_grow (l : Launch) (dC : Nat → ClassId) (dI : Nat → Nat → Nat) {K : Nat} {M : CA} {E : (Nat → Prop) → State → Prop} (X : ly_X l dC dI K M E) (sz : Nat) {Y : CT} {G0 G' : CG} {S S' : CS} {p0 : Int32} {p1 : Int32} {p2 : Int32} {r : Int32} (h : f_Vt_grow K G0 S p0 p1 p2 = some (.ok r, G', S')) : Met l y_Vt_grow (.code y_Vt_grow cb_Vt_grow 8 (some .int) :: V_Vq) ({ frames := 8, cells := G'.gc - G0.gc, slots := G'.gs - G0.gs, locals := 224 }) (va_Pc [.ref M.o_Vt, .int p0, .int p1, .int p2] (fun U => U.heap.size = sz ∧ at_ (dC, dI) (fun _ => True) (wV M Y G0 S) (tV M) U ∧ E (va_A (wV M Y G0 S) sz) U)) (va_Qi (fun (r_ : Int32) (u : CT) => r_ = r) (fun (u : CT) t => at_ (dC, dI) (va_A (wV M Y G0 S) sz) (wV M u G' S') (tV M) t) (va_A (wV M Y G0 S) sz)) (G'.gc - G0.gc) (G'.gs - G0.gs) (va_A (wV M Y G0 S) sz) := by
  refine Met.ofW (cc := cb_Vt_grow) (maxL := 8) (ret := (some .int)) (by decide) rfl ?_
  intro p e s m args below meth c s₁ B hml hv
  obtain ⟨rfl, hsz, ⟨hP, hK, hD0⟩, hE⟩ := hv
  have hx := B.exec
  have hb := B.bytes
  have hr := B.returns
  have hts0 := atoms_spec (ws := .code y_Vt_grow cb_Vt_grow 8 (some .int) :: V_Vq) B.pre
  have hts : ∀ w ∈ V_Vq, w.before ([.ref M.o_Vt, .int p0, .int p1, .int p2] : List Value).toArray s = true := fun w h => hts0 w (List.mem_cons_of_mem _ h)
  have hown : s.vm.findClass R_Vt = some m.cls := findClass_of_methodNamed B.named
  subst hsz
  have hD := hD0.self (sz := s.heap.size)
  generalize hAe : va_A (wV M Y G0 S) s.heap.size = A at hD hE ⊢
  have hA : ∀ q : Nat, s.heap.size ≤ q → A q := fun q h => by rw [← hAe]; exact Or.inr h
  have hS : va_S A s.heap s.heap [] := va_S.rf
  have hP : va_P (dC, dI) classes (wV M Y G0 S) s.heap := hP
  have hK : va_K (dC, dI) classes (tV M) s := hK
  have hEw : ∀ (H : Heap) (locs : List Loc), va_S A s.heap H locs → ∀ U : State, U.heap = H → s.WarmedH U.vm → E A U := fun H locs hS U hU hW => X.kept A s U H locs hE hS hU hW
  have hl := lv_entry ([.ref M.o_Vt, .int p0, .int p1, .int p2]) (n := 8) (Nat.le_of_ble_eq_true rfl)
  rw [lg_entry_eq]
  generalize (lg_sl ([.ref M.o_Vt, .int p0, .int p1, .int p2]) ++ List.replicate (8 - (lg_sl ([.ref M.o_Vt, .int p0, .int p1, .int p2])).length) Slot.unset).toArray = ls at hl ⊢
  have hl : lv_has ls 8 [(0, .ref M.o_Vt), (1, .int p0), (2, .int p1), (3, .int p2)] := hl
  refine qabs (fun Q hQ => ?_)
  have hB_26 : ∀ (Y : CT) (G : CG) (S : CS) (H : Heap) (locs : List Loc) (ls : Array Slot), f_Vt_grow_26 K G S = some (.ok r, G', S') → CG.le G0 G → va_P (dC, dI) classes (wV M Y G S) H → va_D A (wV M Y G S) → va_S A s.heap H locs → lv_has ls 8 [] → W p l e ({ frames := 8, cells := G'.gc - G0.gc, slots := G'.gs - G0.gs, locals := 224 }) s m ([.ref M.o_Vt, .int p0, .int p1, .int p2] : List Value).toArray below meth c H locs (G.gc - G0.gc) (G.gs - G0.gs) Q (F0 m 26 ls []) := by
    intro Y G S H locs ls h m0 hP hD hS hl
    have mF := mo_Vt_grow_26 h
    rw [f_Vt_grow_26] at h
    exact lf_xe h
  have hB_62 : ∀ (k : Nat), ∀ (y_2 : Int32) (y_3 : Int32) (y_5 : Int32) (y_6 : Int32) (y_7 : Int32) (Y : CT) (G : CG) (S : CS) (H : Heap) (locs : List Loc) (ls : Array Slot), f_Vt_grow_62 K k y_2 y_3 y_5 y_6 y_7 G S = some (.ok r, G', S') → CG.le G0 G → va_P (dC, dI) classes (wV M Y G S) H → va_D A (wV M Y G S) → va_S A s.heap H locs → lv_has ls 8 [(0, .ref M.o_Vt), (2, .int y_2), (3, .int y_3), (5, .int y_5), (6, .int y_6), (7, .int y_7)] → W p l e ({ frames := 8, cells := G'.gc - G0.gc, slots := G'.gs - G0.gs, locals := 224 }) s m ([.ref M.o_Vt, .int p0, .int p1, .int p2] : List Value).toArray below meth c H locs (G.gc - G0.gc) (G.gs - G0.gs) Q (F0 m 62 ls []) := by
    intro k
    induction k with
    | zero => intro y_2 y_3 y_5 y_6 y_7 Y G S H locs ls h; exact lf_no h
    | succ k hr_62 =>
      intro y_2 y_3 y_5 y_6 y_7 Y G S H locs ls h m0 hP hD hS hl
      have mF := mo_Vt_grow_62 (k + 1) y_2 y_3 y_5 y_6 y_7 G S h
      have hm_62 : ∀ (y_2 : Int32) (y_3 : Int32) (y_5 : Int32) (y_6 : Int32) (y_7 : Int32) (G : CG) (S : CS) {x : Except Nat Int32} {G1 : CG} {S1 : CS}, f_Vt_grow_62 K k y_2 y_3 y_5 y_6 y_7 G S = some (x, G1, S1) → CG.le G G1 := fun y_2 y_3 y_5 y_6 y_7 G S => mo_Vt_grow_62 k y_2 y_3 y_5 y_6 y_7 G S
      rw [f_Vt_grow_62] at h
      refine lv_iload hx hb d_Vt_grow_62 (lv_at hl 5 rfl) ?_
      refine lv_iload_n hx hb d_Vt_grow_64 rfl (lv_at hl 1 rfl) ?_
      refine lv_icmp_ge (tgt := 112) hx hb d_Vt_grow_65 (by decide) (fun c_8 => ?_) (fun c_8 => ?_)
      · have h := lf_t h c_8
        refine lv_iload hx hb d_Vt_grow_112 (lv_at hl 3 rfl) ?_
        refine lv_iload_n hx hb d_Vt_grow_114 rfl (lv_at hl 1 rfl) ?_
        refine lv_iadd hx hb d_Vt_grow_115 ?_
        rw [hQ]
        have e1 : (y_5 + y_2) = r := Except.ok.inj (congrArg (fun z => z.1) (Option.some.inj h))
        have e2 : G = G' := congrArg (fun z => z.2.1) (Option.some.inj h)
        have e3 : S = S' := congrArg (fun z => z.2.2) (Option.some.inj h)
        have hP := ly_newP3 e2.symm e3.symm hP
        have hD := ly_newD3 e2.symm e3.symm hD
        refine W.widen (k := G'.gc - G0.gc) (n := G'.gs - G0.gs) (ly_wc e2) (ly_ws e2) ?_
        exact W.iret (v := (y_5 + y_2)) hx hb hr (fun t ht hW => ⟨⟨(y_5 + y_2), Y, rfl, e1, by rw [ht]; exact hP, va_K.moved hW.alike hK, hD⟩, hS.F ht⟩) hS.2.2 d_Vt_grow_116
      · have h := lf_f h c_8
        refine lv_aload_n hx hb d_Vt_grow_68 rfl (lv_at hl 0 rfl) ?_
        refine va_get (D := (dC, dI)) (ci := 11) (v := .ref M.o_Ed) (C := R_Vt) (T := F_Vt) (N := 16) hx hb hts (fun w h => u_Vq_Vt w (i_Vt w h)) hown hK hP 0 rfl rfl 5 (by decide) (hts _ (u_Vq_Vt _ k_Vt_34)) (fun _ h9 => h9) rfl d_Vt_grow_69 ?_
        refine lv_iload hx hb d_Vt_grow_72 (lv_at hl 4 rfl) ?_
        refine lv_iload hx hb d_Vt_grow_74 (lv_at hl 3 rfl) ?_
        refine lv_iload hx hb d_Vt_grow_76 (lv_at hl 5 rfl) ?_
        refine lv_iadd hx hb d_Vt_grow_78 ?_
        obtain ⟨r_9, S_9, hc_9, h⟩ := lf_cE h
        have hFc := lx_free hD hS hA
        refine va_calli (va_runV (As := [.int y_6, .int (y_5 + y_7)]) (rest := []) ⟨hx, hb, hml, hown, hts⟩ (l_Ed_placeBehind l dC dI X _ hc_9) (cwV 2 hts (gwV good_Vq (u_Vq_Vt _ k_Vt_188) (u_Vq_Ed _ k_Ed_116) (u_Vq_Ed _ k_Ed_117) (u_Vq_Ed _ k_Ed_0) (wcs (u_Vq_Ed _ k_Ed_118) (fun _ h => h))) rfl rfl rfl (by decide +kernel) ⟨Nat.le_of_ble_eq_true rfl, Nat.le_of_ble_eq_true rfl⟩) (pv_ofE (X.same _) (fun U z1 z2 => X.mono _ _ U hFc (hEw _ _ hS U z1 z2)) hP hK hD (va_recv hK hP (ci := 8) (q0 := 6) rfl rfl)) rfl rfl hl.1 rfl (lv_room (Nat.le_of_ble_eq_true rfl)) d_Vt_grow_79 ⟨ly_c0 mF.1, ly_c0 mF.2⟩) hS (fun q _ h => hFc q h) hFc (fun r_ u t H locs ht hvm hw hB hz1 hk1 hS => ?_)
        rw [hw]
        obtain ⟨hP, -, hD⟩ := hB
        rw [ht] at hP
        have hD := lx_dj hD hFc
        refine lv_istore (lv' := [(6, .int r_9), (0, .ref M.o_Vt), (2, .int y_2), (3, .int y_3), (5, .int y_5), (7, .int y_7)]) hx hb d_Vt_grow_82 hl (by decide) rfl (fun ls hl => ?_)
        refine lv_aload_n hx hb d_Vt_grow_84 rfl (lv_at hl 1 rfl) ?_
        refine va_get (D := (dC, dI)) (ci := 11) (v := .ref M.o_Dk) (C := R_Vt) (T := F_Vt) (N := 16) hx hb hts (fun w h => u_Vq_Vt w (i_Vt w h)) hown hK hP 0 rfl rfl 0 (by decide) (hts _ (u_Vq_Vt _ k_Vt_29)) (fun _ h9 => h9) rfl d_Vt_grow_85 ?_
        refine lv_iload hx hb d_Vt_grow_88 (lv_at hl 0 rfl) ?_
        refine lv_iload_n hx hb d_Vt_grow_90 rfl (lv_at hl 3 rfl) ?_
        refine lv_iload hx hb d_Vt_grow_91 (lv_at hl 5 rfl) ?_
        refine lv_iload hx hb d_Vt_grow_93 (lv_at hl 5 rfl) ?_
        refine lv_imul hx hb d_Vt_grow_95 ?_
        refine lv_iadd hx hb d_Vt_grow_96 ?_
        refine lv_iload hx hb d_Vt_grow_97 (lv_at hl 5 rfl) ?_
        refine lv_bipush (v := 8) hx hb d_Vt_grow_99 (by decide) ?_
        refine lv_ishr hx hb d_Vt_grow_101 ?_
        refine lv_iadd hx hb d_Vt_grow_102 ?_
        obtain ⟨S_10, hc_10, h⟩ := lf_bE h
        have hFc := lx_free hD hS hA
        refine va_callv (va_runV (As := [.int r_9, .int ((y_3 + (y_7 * y_7)) + (y_7 >>> ((8 : Int32) &&& 31)))]) (rest := []) ⟨hx, hb, hml, hown, hts⟩ (l_Dk_putOne l dC dI X _ hc_10) (cwV 2 hts (gwV good_Vq (u_Vq_Vt _ k_Vt_61) (u_Vq_Dk _ k_Dk_11) (u_Vq_Dk _ k_Dk_12) (u_Vq_Dk _ k_Dk_0) (wcs (u_Vq_Dk _ k_Dk_13) (fun _ h => h))) rfl rfl rfl (by decide +kernel) ⟨Nat.le_of_ble_eq_true rfl, Nat.le_of_ble_eq_true rfl⟩) (pv_ofE (X.same _) (fun U z1 z2 => X.mono _ _ U hFc (hEw _ _ hS U z1 z2)) hP hK hD (va_recv hK hP (ci := 0) (q0 := 1) rfl rfl)) rfl rfl hl.1 rfl (lv_room (Nat.le_of_ble_eq_true rfl)) d_Vt_grow_103 ⟨ly_c0 mF.1, ly_c0 mF.2⟩) hS (fun q _ h => hFc q h) hFc (fun u t H locs ht hvm hw hB hz1 hk1 hS => ?_)
        obtain ⟨hP, -, hD⟩ := hB
        rw [ht] at hP
        have hD := lx_dj hD hFc
        obtain ⟨x_11, ex_11, h⟩ := lf_lX h
        refine lv_iinc (v := x_11) (lv' := [(7, .int x_11), (6, .int r_9), (0, .ref M.o_Vt), (2, .int y_2), (3, .int y_3), (5, .int y_5)]) hx hb d_Vt_grow_106 hl (k := 5) rfl (by rw [ex_11]; rfl) (by decide) rfl (fun ls hl => ?_)
        refine lv_goto (tgt := 62) hx hb d_Vt_grow_109 (by decide) ?_
        exact hr_62 y_2 y_3 y_5 r_9 x_11 Y G S_10 _ _ _ h m0 hP hD hS (lv_sub hl [2, 3, 4, 5, 1, 0] rfl)
  have hB_44 : ∀ (y_2 : Int32) (y_3 : Int32) (z_0 : Int32) (Y : CT) (G : CG) (S : CS) (H : Heap) (locs : List Loc) (ls : Array Slot), f_Vt_grow_44 K y_2 y_3 z_0 G S = some (.ok r, G', S') → CG.le G0 G → va_P (dC, dI) classes (wV M Y G S) H → va_D A (wV M Y G S) → va_S A s.heap H locs → lv_has ls 8 [(0, .ref M.o_Vt), (2, .int y_2), (3, .int y_3)] → W p l e ({ frames := 8, cells := G'.gc - G0.gc, slots := G'.gs - G0.gs, locals := 224 }) s m ([.ref M.o_Vt, .int p0, .int p1, .int p2] : List Value).toArray below meth c H locs (G.gc - G0.gc) (G.gs - G0.gs) Q (F0 m 44 ls [.int z_0]) := by
    intro y_2 y_3 z_0 Y G S H locs ls h m0 hP hD hS hl
    have mF := mo_Vt_grow_44 h
    rw [f_Vt_grow_44] at h
    refine lv_istore (lv' := [(5, .int z_0), (0, .ref M.o_Vt), (2, .int y_2), (3, .int y_3)]) hx hb d_Vt_grow_44 hl (by decide) rfl (fun ls hl => ?_)
    refine lv_aload_n hx hb d_Vt_grow_46 rfl (lv_at hl 1 rfl) ?_
    refine va_get (D := (dC, dI)) (ci := 11) (v := .ref M.o_Ed) (C := R_Vt) (T := F_Vt) (N := 16) hx hb hts (fun w h => u_Vq_Vt w (i_Vt w h)) hown hK hP 0 rfl rfl 5 (by decide) (hts _ (u_Vq_Vt _ k_Vt_34)) (fun _ h9 => h9) rfl d_Vt_grow_47 ?_
    refine lv_iload hx hb d_Vt_grow_50 (lv_at hl 0 rfl) ?_
    refine lv_iconst (v := 1) hx hb d_Vt_grow_52 (by decide) ?_
    refine lv_isub hx hb d_Vt_grow_53 ?_
    obtain ⟨r_7, S_7, hc_7, h⟩ := lf_cE h
    have hFc := lx_free hD hS hA
    refine va_calli (va_runV (As := [.int (z_0 - 1)]) (rest := []) ⟨hx, hb, hml, hown, hts⟩ (l_Ed_placeOnRoad l dC dI X _ hc_7) (cwV 1 hts (gwV good_Vq (u_Vq_Vt _ k_Vt_187) (u_Vq_Ed _ k_Ed_33) (u_Vq_Ed _ k_Ed_34) (u_Vq_Ed _ k_Ed_0) (wcs (u_Vq_Ed _ k_Ed_35) (fun _ h => h))) rfl rfl rfl (by decide +kernel) ⟨Nat.le_of_ble_eq_true rfl, Nat.le_of_ble_eq_true rfl⟩) (pv_ofE (X.same _) (fun U z1 z2 => X.mono _ _ U hFc (hEw _ _ hS U z1 z2)) hP hK hD (va_recv hK hP (ci := 8) (q0 := 6) rfl rfl)) rfl rfl hl.1 rfl (lv_room (Nat.le_of_ble_eq_true rfl)) d_Vt_grow_54 ⟨ly_c0 mF.1, ly_c0 mF.2⟩) hS (fun q _ h => hFc q h) hFc (fun r_ u t H locs ht hvm hw hB hz1 hk1 hS => ?_)
    rw [hw]
    obtain ⟨hP, -, hD⟩ := hB
    rw [ht] at hP
    have hD := lx_dj hD hFc
    refine lv_istore (lv' := [(6, .int r_7), (5, .int z_0), (0, .ref M.o_Vt), (2, .int y_2), (3, .int y_3)]) hx hb d_Vt_grow_57 hl (by decide) rfl (fun ls hl => ?_)
    refine lv_iconst (v := 0) hx hb d_Vt_grow_59 (by decide) ?_
    refine lv_istore (lv' := [(7, .int 0), (6, .int r_7), (5, .int z_0), (0, .ref M.o_Vt), (2, .int y_2), (3, .int y_3)]) hx hb d_Vt_grow_60 hl (by decide) rfl (fun ls hl => ?_)
    exact hB_62 K y_2 y_3 z_0 r_7 0 Y G S_7 _ _ _ h m0 hP hD hS (lv_sub hl [3, 4, 5, 2, 1, 0] rfl)
  have hB_13 : ∀ (y_2 : Int32) (y_3 : Int32) (z_0 : Int32) (Y : CT) (G : CG) (S : CS) (H : Heap) (locs : List Loc) (ls : Array Slot), f_Vt_grow_13 K y_2 y_3 z_0 G S = some (.ok r, G', S') → CG.le G0 G → va_P (dC, dI) classes (wV M Y G S) H → va_D A (wV M Y G S) → va_S A s.heap H locs → lv_has ls 8 [(0, .ref M.o_Vt), (2, .int y_2), (3, .int y_3)] → W p l e ({ frames := 8, cells := G'.gc - G0.gc, slots := G'.gs - G0.gs, locals := 224 }) s m ([.ref M.o_Vt, .int p0, .int p1, .int p2] : List Value).toArray below meth c H locs (G.gc - G0.gc) (G.gs - G0.gs) Q (F0 m 13 ls [.int z_0]) := by
    intro y_2 y_3 z_0 Y G S H locs ls h m0 hP hD hS hl
    have mF := mo_Vt_grow_13 h
    rw [f_Vt_grow_13] at h
    refine lv_istore (lv' := [(4, .int z_0), (0, .ref M.o_Vt), (2, .int y_2), (3, .int y_3)]) hx hb d_Vt_grow_13 hl (by decide) rfl (fun ls hl => ?_)
    refine lv_iload_n hx hb d_Vt_grow_15 rfl (lv_at hl 2 rfl) ?_
    refine lv_if_lt (tgt := 26) hx hb d_Vt_grow_16 (by decide) (fun c_4 => ?_) (fun c_4 => ?_)
    · have h := lf_t h c_4
      exact hB_26 Y G S _ _ _ h m0 hP hD hS (lv_sub hl [] rfl)
    · have h := lf_f h c_4
      refine lv_iload_n hx hb d_Vt_grow_19 rfl (lv_at hl 2 rfl) ?_
      refine lv_ldcw (v := 400000) hx hb hown (hts _ (u_Vq_Vt _ k_Vt_193)) d_Vt_grow_20 ?_
      refine lv_icmp_le (tgt := 37) hx hb d_Vt_grow_23 (by decide) (fun c_5 => ?_) (fun c_5 => ?_)
      · have h := lf_t h c_5
        refine lv_aload_n hx hb d_Vt_grow_37 rfl (lv_at hl 1 rfl) ?_
        refine lv_iload hx hb d_Vt_grow_38 (lv_at hl 0 rfl) ?_
        refine lv_iload_n hx hb d_Vt_grow_40 rfl (lv_at hl 2 rfl) ?_
        obtain ⟨r_6, G_6, S_6, hc_6, h⟩ := lf_aO h
        have mc := mo_Vt_lengthen hc_6
        have ml_6 := mo_Vt_lengthen hc_6
        have mF1 := mo_Vt_grow_44 h
        have hFc := lx_free hD hS hA
        refine va_calli (va_runV (As := [.int z_0, .int y_2]) (rest := []) ⟨hx, hb, hml, hown, hts⟩ (l_Vt_lengthen l dC dI X _ hc_6) (cwV 2 hts (gwV good_Vq (u_Vq_Vt _ k_Vt_182) (u_Vq_Vt _ k_Vt_183) (u_Vq_Vt _ k_Vt_220) (u_Vq_Vt _ k_Vt_0) (wcs (u_Vq_Vt _ k_Vt_184) (fun _ h => h))) rfl rfl rfl (by decide +kernel) ⟨Nat.le_of_ble_eq_true rfl, Nat.le_of_ble_eq_true rfl⟩) (pv_ofE (X.same _) (fun U z1 z2 => X.mono _ _ U hFc (hEw _ _ hS U z1 z2)) hP hK hD (va_recv hK hP (ci := 11) (q0 := 0) rfl rfl)) rfl rfl hl.1 rfl (lv_room (Nat.le_of_ble_eq_true rfl)) d_Vt_grow_41 ⟨ly_c1 m0.1 mc.1 mF1.1, ly_c1 m0.2 mc.2 mF1.2⟩) hS (fun q _ h => hFc q h) hFc (fun r_ Y_6 t H locs ht hvm hw hB hz1 hk1 hS => ?_)
        rw [hw]
        obtain ⟨hP, -, hD⟩ := hB
        rw [ht] at hP
        have hD := lx_dj hD hFc
        refine W.widen (k := G_6.gc - G0.gc) (n := G_6.gs - G0.gs) (ly_c2 m0.1 mc.1) (ly_c2 m0.2 mc.2) ?_
        have m0 := CG.le_tr m0 mc
        exact hB_44 y_2 y_3 r_6 Y_6 G_6 S_6 _ _ _ h m0 hP hD hS (lv_sub hl [1, 2, 3] rfl)
      · have h := lf_f h c_5
        exact hB_26 Y G S _ _ _ h m0 hP hD hS (lv_sub hl [] rfl)
  have hB_8 : ∀ (y_1 : Int32) (y_2 : Int32) (y_3 : Int32) (Y : CT) (G : CG) (S : CS) (H : Heap) (locs : List Loc) (ls : Array Slot), f_Vt_grow_8 K y_1 y_2 y_3 G S = some (.ok r, G', S') → CG.le G0 G → va_P (dC, dI) classes (wV M Y G S) H → va_D A (wV M Y G S) → va_S A s.heap H locs → lv_has ls 8 [(0, .ref M.o_Vt), (1, .int y_1), (2, .int y_2), (3, .int y_3)] → W p l e ({ frames := 8, cells := G'.gc - G0.gc, slots := G'.gs - G0.gs, locals := 224 }) s m ([.ref M.o_Vt, .int p0, .int p1, .int p2] : List Value).toArray below meth c H locs (G.gc - G0.gc) (G.gs - G0.gs) Q (F0 m 8 ls []) := by
    intro y_1 y_2 y_3 Y G S H locs ls h m0 hP hD hS hl
    have mF := mo_Vt_grow_8 h
    rw [f_Vt_grow_8] at h
    refine lv_aload_n hx hb d_Vt_grow_8 rfl (lv_at hl 0 rfl) ?_
    refine lv_iload_n hx hb d_Vt_grow_9 rfl (lv_at hl 1 rfl) ?_
    obtain ⟨r_3, G_3, S_3, hc_3, h⟩ := lf_aO h
    have mc := mo_Vt_fileHere hc_3
    have ml_3 := mo_Vt_fileHere hc_3
    have mF1 := mo_Vt_grow_13 h
    have hFc := lx_free hD hS hA
    refine va_calli (va_runV (As := [.int y_1]) (rest := []) ⟨hx, hb, hml, hown, hts⟩ (l_Vt_fileHere l dC dI X _ hc_3) (cwV 1 hts (gwV good_Vq (u_Vq_Vt _ k_Vt_179) (u_Vq_Vt _ k_Vt_180) (u_Vq_Vt _ k_Vt_219) (u_Vq_Vt _ k_Vt_0) (wcs (u_Vq_Vt _ k_Vt_181) (fun _ h => h))) rfl rfl rfl (by decide +kernel) ⟨Nat.le_of_ble_eq_true rfl, Nat.le_of_ble_eq_true rfl⟩) (pv_ofE (X.same _) (fun U z1 z2 => X.mono _ _ U hFc (hEw _ _ hS U z1 z2)) hP hK hD (va_recv hK hP (ci := 11) (q0 := 0) rfl rfl)) rfl rfl hl.1 rfl (lv_room (Nat.le_of_ble_eq_true rfl)) d_Vt_grow_10 ⟨ly_c1 m0.1 mc.1 mF1.1, ly_c1 m0.2 mc.2 mF1.2⟩) hS (fun q _ h => hFc q h) hFc (fun r_ Y_3 t H locs ht hvm hw hB hz1 hk1 hS => ?_)
    rw [hw]
    obtain ⟨hP, -, hD⟩ := hB
    rw [ht] at hP
    have hD := lx_dj hD hFc
    refine W.widen (k := G_3.gc - G0.gc) (n := G_3.gs - G0.gs) (ly_c2 m0.1 mc.1) (ly_c2 m0.2 mc.2) ?_
    have m0 := CG.le_tr m0 mc
    exact hB_13 y_2 y_3 r_3 Y_3 G_3 S_3 _ _ _ h m0 hP hD hS (lv_sub hl [0, 2, 3] rfl)
  have hB_5 : ∀ (y_1 : Int32) (y_2 : Int32) (y_3 : Int32) (z_1 : Int32) (Y : CT) (G : CG) (S : CS) (H : Heap) (locs : List Loc) (ls : Array Slot), f_Vt_grow_5 K y_1 y_2 y_3 z_1 G S = some (.ok r, G', S') → CG.le G0 G → va_P (dC, dI) classes (wV M Y G S) H → va_D A (wV M Y G S) → va_S A s.heap H locs → lv_has ls 8 [(0, .ref M.o_Vt), (1, .int y_1), (2, .int y_2), (3, .int y_3)] → W p l e ({ frames := 8, cells := G'.gc - G0.gc, slots := G'.gs - G0.gs, locals := 224 }) s m ([.ref M.o_Vt, .int p0, .int p1, .int p2] : List Value).toArray below meth c H locs (G.gc - G0.gc) (G.gs - G0.gs) Q (F0 m 5 ls [.int z_1, .ref M.o_Vt]) := by
    intro y_1 y_2 y_3 z_1 Y G S H locs ls h m0 hP hD hS hl
    have mF := mo_Vt_grow_5 h
    rw [f_Vt_grow_5] at h
    obtain ⟨r_2, G_2, S_2, hc_2, h⟩ := lf_aO h
    have mc := mo_Vt_wantSoundTable hc_2
    have ml_2 := mo_Vt_wantSoundTable hc_2
    have mF1 := mo_Vt_grow_8 h
    have hFc := lx_free hD hS hA
    refine va_callv (va_runV (As := [.int z_1]) (rest := []) ⟨hx, hb, hml, hown, hts⟩ (l_Vt_wantSoundTable l dC dI X _ hc_2) (cwV 1 hts (gwV good_Vq (u_Vq_Vt _ k_Vt_166) (u_Vq_Vt _ k_Vt_167) (u_Vq_Vt _ k_Vt_216) (u_Vq_Vt _ k_Vt_0) (wcs (u_Vq_Vt _ k_Vt_168) (fun _ h => h))) rfl rfl rfl (by decide +kernel) ⟨Nat.le_of_ble_eq_true rfl, Nat.le_of_ble_eq_true rfl⟩) (pv_ofE (X.same _) (fun U z1 z2 => X.mono _ _ U hFc (hEw _ _ hS U z1 z2)) hP hK hD (va_recv hK hP (ci := 11) (q0 := 0) rfl rfl)) rfl rfl hl.1 rfl (lv_room (Nat.le_of_ble_eq_true rfl)) d_Vt_grow_5 ⟨ly_c1 m0.1 mc.1 mF1.1, ly_c1 m0.2 mc.2 mF1.2⟩) hS (fun q _ h => hFc q h) hFc (fun Y_2 t H locs ht hvm hw hB hz1 hk1 hS => ?_)
    obtain ⟨hP, -, hD⟩ := hB
    rw [ht] at hP
    have hD := lx_dj hD hFc
    refine W.widen (k := G_2.gc - G0.gc) (n := G_2.gs - G0.gs) (ly_c2 m0.1 mc.1) (ly_c2 m0.2 mc.2) ?_
    have m0 := CG.le_tr m0 mc
    exact hB_8 y_1 y_2 y_3 Y_2 G_2 S_2 _ _ _ h m0 hP hD hS (lv_sub hl [0, 1, 2, 3] rfl)
  have m0 : CG.le G0 G0 := ⟨Nat.le_refl _, Nat.le_refl _⟩
  have mF := mo_Vt_grow h
  refine W.widen (k := G0.gc - G0.gc) (n := G0.gs - G0.gs) (Nat.zero_le _) (Nat.zero_le _) ?_
  rw [f_Vt_grow] at h
  refine lv_aload_n hx hb d_Vt_grow_0 rfl (lv_at hl 0 rfl) ?_
  refine lv_aload_n hx hb d_Vt_grow_1 rfl (lv_at hl 0 rfl) ?_
  obtain ⟨r_1, G_1, S_1, hc_1, h⟩ := lf_nE h
  have mc := mo_Vt_look hc_1
  have ml_1 := mo_Vt_look hc_1
  have mF1 := mo_Vt_grow_5 h
  have hFc := lx_free hD hS hA
  refine va_calli (va_runV (As := []) (rest := [.ref M.o_Vt]) ⟨hx, hb, hml, hown, hts⟩ (l_Vt_look l dC dI X _ hc_1) (cwV 0 hts (gwV good_Vq (u_Vq_Vt _ k_Vt_68) (u_Vq_Vt _ k_Vt_69) (u_Vq_Vt _ k_Vt_214) (u_Vq_Vt _ k_Vt_0) (wcs (u_Vq_Vt _ k_Vt_70) (fun _ h => h))) rfl rfl rfl (by decide +kernel) ⟨Nat.le_of_ble_eq_true rfl, Nat.le_of_ble_eq_true rfl⟩) (pv_ofE (X.same _) (fun U z1 z2 => X.mono _ _ U hFc (hEw _ _ hS U z1 z2)) hP hK hD (va_recv hK hP (ci := 11) (q0 := 0) rfl rfl)) rfl rfl hl.1 rfl (lv_room (Nat.le_of_ble_eq_true rfl)) d_Vt_grow_2 ⟨ly_c1 m0.1 mc.1 mF1.1, ly_c1 m0.2 mc.2 mF1.2⟩) hS (fun q _ h => hFc q h) hFc (fun r_ Y_1 t H locs ht hvm hw hB hz1 hk1 hS => ?_)
  rw [hw]
  obtain ⟨hP, -, hD⟩ := hB
  rw [ht] at hP
  have hD := lx_dj hD hFc
  refine W.widen (k := G_1.gc - G0.gc) (n := G_1.gs - G0.gs) (ly_c2 m0.1 mc.1) (ly_c2 m0.2 mc.2) ?_
  have m0 := CG.le_tr m0 mc
  exact hB_5 p0 p1 p2 r_1 Y_1 G_1 S_1 _ _ _ h m0 hP hD hS (lv_sub hl [0, 1, 2, 3] rfl)
set_option maxHeartbeats 4000000 in
set_option maxRecDepth 100000 in
theorem lt_Vt_grow_0 (l : Launch) (hfl : l.flags = pinnedFlags ++ [noTraceFlag]) (dC : Nat → ClassId) (dI : Nat → Nat → Nat) {K : Nat} {M : CA} {E : (Nat → Prop) → State → Prop} (X : ly_X l dC dI K M E) (sz : Nat) {Y : CT} {G0 G' : CG} {S S' : CS} {p0 : Int32} {p1 : Int32} {p2 : Int32} (h : f_Vt_grow K G0 S p0 p1 p2 = some (.error 0, G', S')) : MetX l y_Vt_grow (.code y_Vt_grow cb_Vt_grow 8 (some .int) :: V_Vq) ({ frames := 8, cells := G'.gc - G0.gc, slots := G'.gs - G0.gs, locals := 224 }) (va_Pc [.ref M.o_Vt, .int p0, .int p1, .int p2] (fun U => U.heap.size = sz ∧ at_ (dC, dI) (fun _ => True) (wV M Y G0 S) (tV M) U ∧ E (va_A (wV M Y G0 S) sz) U)) (fun _ _ _ _ => False) (x_Q "java/lang/IllegalArgumentException" (va_A (wV M Y G0 S) sz) (fun t => ∃ u : CT, at_ (dC, dI) (va_A (wV M Y G0 S) sz) (wV M u G' S') (tV M) t)) (G'.gc - G0.gc) (G'.gs - G0.gs) (va_A (wV M Y G0 S) sz) := by
  refine MetX.ofW (cc := cb_Vt_grow) (maxL := 8) (ret := (some .int)) (by decide) rfl ?_
  intro p e s m args below meth c s₁ B hml hv
  obtain ⟨rfl, hsz, ⟨hP, hK, hD0⟩, hE⟩ := hv
  have hx := B.exec
  have hb := B.bytes
  have hr := B.returns
  have hts0 := atoms_spec (ws := .code y_Vt_grow cb_Vt_grow 8 (some .int) :: V_Vq) B.pre
  have hts : ∀ w ∈ V_Vq, w.before ([.ref M.o_Vt, .int p0, .int p1, .int p2] : List Value).toArray s = true := fun w h => hts0 w (List.mem_cons_of_mem _ h)
  have hown : s.vm.findClass R_Vt = some m.cls := findClass_of_methodNamed B.named
  have hlocks := B.notSynchronized
  have hout := x_table B (hts0 _ List.mem_cons_self)
  subst hsz
  have hD := hD0.self (sz := s.heap.size)
  generalize hAe : va_A (wV M Y G0 S) s.heap.size = A at hD hE ⊢
  have hA : ∀ q : Nat, s.heap.size ≤ q → A q := fun q h => by rw [← hAe]; exact Or.inr h
  have hS : va_S A s.heap s.heap [] := va_S.rf
  have hP : va_P (dC, dI) classes (wV M Y G0 S) s.heap := hP
  have hK : va_K (dC, dI) classes (tV M) s := hK
  have hEw : ∀ (H : Heap) (locs : List Loc), va_S A s.heap H locs → ∀ U : State, U.heap = H → s.WarmedH U.vm → E A U := fun H locs hS U hU hW => X.kept A s U H locs hE hS hU hW
  have hl := lv_entry ([.ref M.o_Vt, .int p0, .int p1, .int p2]) (n := 8) (Nat.le_of_ble_eq_true rfl)
  rw [lg_entry_eq]
  generalize (lg_sl ([.ref M.o_Vt, .int p0, .int p1, .int p2]) ++ List.replicate (8 - (lg_sl ([.ref M.o_Vt, .int p0, .int p1, .int p2])).length) Slot.unset).toArray = ls at hl ⊢
  have hl : lv_has ls 8 [(0, .ref M.o_Vt), (1, .int p0), (2, .int p1), (3, .int p2)] := hl
  refine qabs (fun Q hQ => ?_)
  have hB_26 : ∀ (Y : CT) (G : CG) (S : CS) (H : Heap) (locs : List Loc) (ls : Array Slot), f_Vt_grow_26 K G S = some (.error 0, G', S') → CG.le G0 G → va_P (dC, dI) classes (wV M Y G S) H → va_D A (wV M Y G S) → va_S A s.heap H locs → lv_has ls 8 [] → W p l e ({ frames := 8, cells := G'.gc - G0.gc, slots := G'.gs - G0.gs, locals := 224 }) s m ([.ref M.o_Vt, .int p0, .int p1, .int p2] : List Value).toArray below meth c H locs (G.gc - G0.gc) (G.gs - G0.gs) Q (F0 m 26 ls []) := by
    intro Y G S H locs ls h m0 hP hD hS hl
    have mF := mo_Vt_grow_26 h
    rw [f_Vt_grow_26] at h
    rw [hQ]
    have e2 : G.made 1 6 = G' := congrArg (fun z => z.2.1) (Option.some.inj h)
    have e3 : S = S' := congrArg (fun z => z.2.2) (Option.some.inj h)
    have hP := ly_newP3 e2.symm e3.symm (ly_madeP (c := 1) (n := 6) hP)
    have hD := ly_newD3 e2.symm e3.symm (ly_madeD (c := 1) (n := 6) hD)
    refine W.mono (ly_mqx (fun t z => ⟨Y, z⟩)) ?_
    exact x_thrG (own := R_Vt) (cls := "java/lang/IllegalArgumentException") (ik := 133) (is := 271) (ic := 137) (k := 3) hx hb (Launch.traces_off hfl (Stand.of_body B).admits) hlocks hown (by decide) (fun T hT => (X.xt_271 _ _ (hEw _ _ hS (xs s T) hT (State.WarmedH.refl s))).1) (hts _ (u_Vq_Vt _ k_Vt_100)) (hts _ (u_Vq_Vt _ k_Vt_101)) (hts _ (u_Vq_Vt _ k_Vt_1)) (X.xt_271 _ _ hE).2 (hl.1.trans hml.symm) d_Vt_grow_26 d_Vt_grow_29 (Or.inr ⟨d_Vt_grow_30, rfl⟩) d_Vt_grow_33 d_Vt_grow_36 hout (Nat.le_of_ble_eq_true rfl) (Nat.le_of_ble_eq_true rfl) (ly_t1 e2 m0) (Nat.le_refl _) (ly_t2 e2 m0) (Nat.le_refl _) hP hK hD hS
  have hB_62 : ∀ (k : Nat), ∀ (y_2 : Int32) (y_3 : Int32) (y_5 : Int32) (y_6 : Int32) (y_7 : Int32) (Y : CT) (G : CG) (S : CS) (H : Heap) (locs : List Loc) (ls : Array Slot), f_Vt_grow_62 K k y_2 y_3 y_5 y_6 y_7 G S = some (.error 0, G', S') → CG.le G0 G → va_P (dC, dI) classes (wV M Y G S) H → va_D A (wV M Y G S) → va_S A s.heap H locs → lv_has ls 8 [(0, .ref M.o_Vt), (2, .int y_2), (3, .int y_3), (5, .int y_5), (6, .int y_6), (7, .int y_7)] → W p l e ({ frames := 8, cells := G'.gc - G0.gc, slots := G'.gs - G0.gs, locals := 224 }) s m ([.ref M.o_Vt, .int p0, .int p1, .int p2] : List Value).toArray below meth c H locs (G.gc - G0.gc) (G.gs - G0.gs) Q (F0 m 62 ls []) := by
    intro k
    induction k with
    | zero => intro y_2 y_3 y_5 y_6 y_7 Y G S H locs ls h; exact lf_no h
    | succ k hr_62 =>
      intro y_2 y_3 y_5 y_6 y_7 Y G S H locs ls h m0 hP hD hS hl
      have mF := mo_Vt_grow_62 (k + 1) y_2 y_3 y_5 y_6 y_7 G S h
      have hm_62 : ∀ (y_2 : Int32) (y_3 : Int32) (y_5 : Int32) (y_6 : Int32) (y_7 : Int32) (G : CG) (S : CS) {x : Except Nat Int32} {G1 : CG} {S1 : CS}, f_Vt_grow_62 K k y_2 y_3 y_5 y_6 y_7 G S = some (x, G1, S1) → CG.le G G1 := fun y_2 y_3 y_5 y_6 y_7 G S => mo_Vt_grow_62 k y_2 y_3 y_5 y_6 y_7 G S
      rw [f_Vt_grow_62] at h
      refine lv_iload hx hb d_Vt_grow_62 (lv_at hl 5 rfl) ?_
      refine lv_iload_n hx hb d_Vt_grow_64 rfl (lv_at hl 1 rfl) ?_
      refine lv_icmp_ge (tgt := 112) hx hb d_Vt_grow_65 (by decide) (fun c_8 => ?_) (fun c_8 => ?_)
      · have h := lf_t h c_8
        refine lv_iload hx hb d_Vt_grow_112 (lv_at hl 3 rfl) ?_
        refine lv_iload_n hx hb d_Vt_grow_114 rfl (lv_at hl 1 rfl) ?_
        refine lv_iadd hx hb d_Vt_grow_115 ?_
        exact lf_xo h
      · have h := lf_f h c_8
        refine lv_aload_n hx hb d_Vt_grow_68 rfl (lv_at hl 0 rfl) ?_
        refine va_get (D := (dC, dI)) (ci := 11) (v := .ref M.o_Ed) (C := R_Vt) (T := F_Vt) (N := 16) hx hb hts (fun w h => u_Vq_Vt w (i_Vt w h)) hown hK hP 0 rfl rfl 5 (by decide) (hts _ (u_Vq_Vt _ k_Vt_34)) (fun _ h9 => h9) rfl d_Vt_grow_69 ?_
        refine lv_iload hx hb d_Vt_grow_72 (lv_at hl 4 rfl) ?_
        refine lv_iload hx hb d_Vt_grow_74 (lv_at hl 3 rfl) ?_
        refine lv_iload hx hb d_Vt_grow_76 (lv_at hl 5 rfl) ?_
        refine lv_iadd hx hb d_Vt_grow_78 ?_
        obtain ⟨r_9, S_9, hc_9, h⟩ := lf_cE h
        have hFc := lx_free hD hS hA
        refine va_calli (va_runV (As := [.int y_6, .int (y_5 + y_7)]) (rest := []) ⟨hx, hb, hml, hown, hts⟩ (l_Ed_placeBehind l dC dI X _ hc_9) (cwV 2 hts (gwV good_Vq (u_Vq_Vt _ k_Vt_188) (u_Vq_Ed _ k_Ed_116) (u_Vq_Ed _ k_Ed_117) (u_Vq_Ed _ k_Ed_0) (wcs (u_Vq_Ed _ k_Ed_118) (fun _ h => h))) rfl rfl rfl (by decide +kernel) ⟨Nat.le_of_ble_eq_true rfl, Nat.le_of_ble_eq_true rfl⟩) (pv_ofE (X.same _) (fun U z1 z2 => X.mono _ _ U hFc (hEw _ _ hS U z1 z2)) hP hK hD (va_recv hK hP (ci := 8) (q0 := 6) rfl rfl)) rfl rfl hl.1 rfl (lv_room (Nat.le_of_ble_eq_true rfl)) d_Vt_grow_79 ⟨ly_c0 mF.1, ly_c0 mF.2⟩) hS (fun q _ h => hFc q h) hFc (fun r_ u t H locs ht hvm hw hB hz1 hk1 hS => ?_)
        rw [hw]
        obtain ⟨hP, -, hD⟩ := hB
        rw [ht] at hP
        have hD := lx_dj hD hFc
        refine lv_istore (lv' := [(6, .int r_9), (0, .ref M.o_Vt), (2, .int y_2), (3, .int y_3), (5, .int y_5), (7, .int y_7)]) hx hb d_Vt_grow_82 hl (by decide) rfl (fun ls hl => ?_)
        refine lv_aload_n hx hb d_Vt_grow_84 rfl (lv_at hl 1 rfl) ?_
        refine va_get (D := (dC, dI)) (ci := 11) (v := .ref M.o_Dk) (C := R_Vt) (T := F_Vt) (N := 16) hx hb hts (fun w h => u_Vq_Vt w (i_Vt w h)) hown hK hP 0 rfl rfl 0 (by decide) (hts _ (u_Vq_Vt _ k_Vt_29)) (fun _ h9 => h9) rfl d_Vt_grow_85 ?_
        refine lv_iload hx hb d_Vt_grow_88 (lv_at hl 0 rfl) ?_
        refine lv_iload_n hx hb d_Vt_grow_90 rfl (lv_at hl 3 rfl) ?_
        refine lv_iload hx hb d_Vt_grow_91 (lv_at hl 5 rfl) ?_
        refine lv_iload hx hb d_Vt_grow_93 (lv_at hl 5 rfl) ?_
        refine lv_imul hx hb d_Vt_grow_95 ?_
        refine lv_iadd hx hb d_Vt_grow_96 ?_
        refine lv_iload hx hb d_Vt_grow_97 (lv_at hl 5 rfl) ?_
        refine lv_bipush (v := 8) hx hb d_Vt_grow_99 (by decide) ?_
        refine lv_ishr hx hb d_Vt_grow_101 ?_
        refine lv_iadd hx hb d_Vt_grow_102 ?_
        obtain ⟨S_10, hc_10, h⟩ := lf_bE h
        have hFc := lx_free hD hS hA
        refine va_callv (va_runV (As := [.int r_9, .int ((y_3 + (y_7 * y_7)) + (y_7 >>> ((8 : Int32) &&& 31)))]) (rest := []) ⟨hx, hb, hml, hown, hts⟩ (l_Dk_putOne l dC dI X _ hc_10) (cwV 2 hts (gwV good_Vq (u_Vq_Vt _ k_Vt_61) (u_Vq_Dk _ k_Dk_11) (u_Vq_Dk _ k_Dk_12) (u_Vq_Dk _ k_Dk_0) (wcs (u_Vq_Dk _ k_Dk_13) (fun _ h => h))) rfl rfl rfl (by decide +kernel) ⟨Nat.le_of_ble_eq_true rfl, Nat.le_of_ble_eq_true rfl⟩) (pv_ofE (X.same _) (fun U z1 z2 => X.mono _ _ U hFc (hEw _ _ hS U z1 z2)) hP hK hD (va_recv hK hP (ci := 0) (q0 := 1) rfl rfl)) rfl rfl hl.1 rfl (lv_room (Nat.le_of_ble_eq_true rfl)) d_Vt_grow_103 ⟨ly_c0 mF.1, ly_c0 mF.2⟩) hS (fun q _ h => hFc q h) hFc (fun u t H locs ht hvm hw hB hz1 hk1 hS => ?_)
        obtain ⟨hP, -, hD⟩ := hB
        rw [ht] at hP
        have hD := lx_dj hD hFc
        obtain ⟨x_11, ex_11, h⟩ := lf_lX h
        refine lv_iinc (v := x_11) (lv' := [(7, .int x_11), (6, .int r_9), (0, .ref M.o_Vt), (2, .int y_2), (3, .int y_3), (5, .int y_5)]) hx hb d_Vt_grow_106 hl (k := 5) rfl (by rw [ex_11]; rfl) (by decide) rfl (fun ls hl => ?_)
        refine lv_goto (tgt := 62) hx hb d_Vt_grow_109 (by decide) ?_
        exact hr_62 y_2 y_3 y_5 r_9 x_11 Y G S_10 _ _ _ h m0 hP hD hS (lv_sub hl [2, 3, 4, 5, 1, 0] rfl)
  have hB_44 : ∀ (y_2 : Int32) (y_3 : Int32) (z_0 : Int32) (Y : CT) (G : CG) (S : CS) (H : Heap) (locs : List Loc) (ls : Array Slot), f_Vt_grow_44 K y_2 y_3 z_0 G S = some (.error 0, G', S') → CG.le G0 G → va_P (dC, dI) classes (wV M Y G S) H → va_D A (wV M Y G S) → va_S A s.heap H locs → lv_has ls 8 [(0, .ref M.o_Vt), (2, .int y_2), (3, .int y_3)] → W p l e ({ frames := 8, cells := G'.gc - G0.gc, slots := G'.gs - G0.gs, locals := 224 }) s m ([.ref M.o_Vt, .int p0, .int p1, .int p2] : List Value).toArray below meth c H locs (G.gc - G0.gc) (G.gs - G0.gs) Q (F0 m 44 ls [.int z_0]) := by
    intro y_2 y_3 z_0 Y G S H locs ls h m0 hP hD hS hl
    have mF := mo_Vt_grow_44 h
    rw [f_Vt_grow_44] at h
    refine lv_istore (lv' := [(5, .int z_0), (0, .ref M.o_Vt), (2, .int y_2), (3, .int y_3)]) hx hb d_Vt_grow_44 hl (by decide) rfl (fun ls hl => ?_)
    refine lv_aload_n hx hb d_Vt_grow_46 rfl (lv_at hl 1 rfl) ?_
    refine va_get (D := (dC, dI)) (ci := 11) (v := .ref M.o_Ed) (C := R_Vt) (T := F_Vt) (N := 16) hx hb hts (fun w h => u_Vq_Vt w (i_Vt w h)) hown hK hP 0 rfl rfl 5 (by decide) (hts _ (u_Vq_Vt _ k_Vt_34)) (fun _ h9 => h9) rfl d_Vt_grow_47 ?_
    refine lv_iload hx hb d_Vt_grow_50 (lv_at hl 0 rfl) ?_
    refine lv_iconst (v := 1) hx hb d_Vt_grow_52 (by decide) ?_
    refine lv_isub hx hb d_Vt_grow_53 ?_
    obtain ⟨r_7, S_7, hc_7, h⟩ := lf_cE h
    have hFc := lx_free hD hS hA
    refine va_calli (va_runV (As := [.int (z_0 - 1)]) (rest := []) ⟨hx, hb, hml, hown, hts⟩ (l_Ed_placeOnRoad l dC dI X _ hc_7) (cwV 1 hts (gwV good_Vq (u_Vq_Vt _ k_Vt_187) (u_Vq_Ed _ k_Ed_33) (u_Vq_Ed _ k_Ed_34) (u_Vq_Ed _ k_Ed_0) (wcs (u_Vq_Ed _ k_Ed_35) (fun _ h => h))) rfl rfl rfl (by decide +kernel) ⟨Nat.le_of_ble_eq_true rfl, Nat.le_of_ble_eq_true rfl⟩) (pv_ofE (X.same _) (fun U z1 z2 => X.mono _ _ U hFc (hEw _ _ hS U z1 z2)) hP hK hD (va_recv hK hP (ci := 8) (q0 := 6) rfl rfl)) rfl rfl hl.1 rfl (lv_room (Nat.le_of_ble_eq_true rfl)) d_Vt_grow_54 ⟨ly_c0 mF.1, ly_c0 mF.2⟩) hS (fun q _ h => hFc q h) hFc (fun r_ u t H locs ht hvm hw hB hz1 hk1 hS => ?_)
    rw [hw]
    obtain ⟨hP, -, hD⟩ := hB
    rw [ht] at hP
    have hD := lx_dj hD hFc
    refine lv_istore (lv' := [(6, .int r_7), (5, .int z_0), (0, .ref M.o_Vt), (2, .int y_2), (3, .int y_3)]) hx hb d_Vt_grow_57 hl (by decide) rfl (fun ls hl => ?_)
    refine lv_iconst (v := 0) hx hb d_Vt_grow_59 (by decide) ?_
    refine lv_istore (lv' := [(7, .int 0), (6, .int r_7), (5, .int z_0), (0, .ref M.o_Vt), (2, .int y_2), (3, .int y_3)]) hx hb d_Vt_grow_60 hl (by decide) rfl (fun ls hl => ?_)
    exact hB_62 K y_2 y_3 z_0 r_7 0 Y G S_7 _ _ _ h m0 hP hD hS (lv_sub hl [3, 4, 5, 2, 1, 0] rfl)
  have hB_13 : ∀ (y_2 : Int32) (y_3 : Int32) (z_0 : Int32) (Y : CT) (G : CG) (S : CS) (H : Heap) (locs : List Loc) (ls : Array Slot), f_Vt_grow_13 K y_2 y_3 z_0 G S = some (.error 0, G', S') → CG.le G0 G → va_P (dC, dI) classes (wV M Y G S) H → va_D A (wV M Y G S) → va_S A s.heap H locs → lv_has ls 8 [(0, .ref M.o_Vt), (2, .int y_2), (3, .int y_3)] → W p l e ({ frames := 8, cells := G'.gc - G0.gc, slots := G'.gs - G0.gs, locals := 224 }) s m ([.ref M.o_Vt, .int p0, .int p1, .int p2] : List Value).toArray below meth c H locs (G.gc - G0.gc) (G.gs - G0.gs) Q (F0 m 13 ls [.int z_0]) := by
    intro y_2 y_3 z_0 Y G S H locs ls h m0 hP hD hS hl
    have mF := mo_Vt_grow_13 h
    rw [f_Vt_grow_13] at h
    refine lv_istore (lv' := [(4, .int z_0), (0, .ref M.o_Vt), (2, .int y_2), (3, .int y_3)]) hx hb d_Vt_grow_13 hl (by decide) rfl (fun ls hl => ?_)
    refine lv_iload_n hx hb d_Vt_grow_15 rfl (lv_at hl 2 rfl) ?_
    refine lv_if_lt (tgt := 26) hx hb d_Vt_grow_16 (by decide) (fun c_4 => ?_) (fun c_4 => ?_)
    · have h := lf_t h c_4
      exact hB_26 Y G S _ _ _ h m0 hP hD hS (lv_sub hl [] rfl)
    · have h := lf_f h c_4
      refine lv_iload_n hx hb d_Vt_grow_19 rfl (lv_at hl 2 rfl) ?_
      refine lv_ldcw (v := 400000) hx hb hown (hts _ (u_Vq_Vt _ k_Vt_193)) d_Vt_grow_20 ?_
      refine lv_icmp_le (tgt := 37) hx hb d_Vt_grow_23 (by decide) (fun c_5 => ?_) (fun c_5 => ?_)
      · have h := lf_t h c_5
        refine lv_aload_n hx hb d_Vt_grow_37 rfl (lv_at hl 1 rfl) ?_
        refine lv_iload hx hb d_Vt_grow_38 (lv_at hl 0 rfl) ?_
        refine lv_iload_n hx hb d_Vt_grow_40 rfl (lv_at hl 2 rfl) ?_
        rcases lf_aT h with ⟨r_6, G_6, S_6, hc_6, h⟩ | h9
        · have mc := mo_Vt_lengthen hc_6
          have ml_6 := mo_Vt_lengthen hc_6
          have mF1 := mo_Vt_grow_44 h
          have hFc := lx_free hD hS hA
          refine va_calli (va_runV (As := [.int z_0, .int y_2]) (rest := []) ⟨hx, hb, hml, hown, hts⟩ (l_Vt_lengthen l dC dI X _ hc_6) (cwV 2 hts (gwV good_Vq (u_Vq_Vt _ k_Vt_182) (u_Vq_Vt _ k_Vt_183) (u_Vq_Vt _ k_Vt_220) (u_Vq_Vt _ k_Vt_0) (wcs (u_Vq_Vt _ k_Vt_184) (fun _ h => h))) rfl rfl rfl (by decide +kernel) ⟨Nat.le_of_ble_eq_true rfl, Nat.le_of_ble_eq_true rfl⟩) (pv_ofE (X.same _) (fun U z1 z2 => X.mono _ _ U hFc (hEw _ _ hS U z1 z2)) hP hK hD (va_recv hK hP (ci := 11) (q0 := 0) rfl rfl)) rfl rfl hl.1 rfl (lv_room (Nat.le_of_ble_eq_true rfl)) d_Vt_grow_41 ⟨ly_c1 m0.1 mc.1 mF1.1, ly_c1 m0.2 mc.2 mF1.2⟩) hS (fun q _ h => hFc q h) hFc (fun r_ Y_6 t H locs ht hvm hw hB hz1 hk1 hS => ?_)
          rw [hw]
          obtain ⟨hP, -, hD⟩ := hB
          rw [ht] at hP
          have hD := lx_dj hD hFc
          refine W.widen (k := G_6.gc - G0.gc) (n := G_6.gs - G0.gs) (ly_c2 m0.1 mc.1) (ly_c2 m0.2 mc.2) ?_
          have m0 := CG.le_tr m0 mc
          exact hB_44 y_2 y_3 r_6 Y_6 G_6 S_6 _ _ _ h m0 hP hD hS (lv_sub hl [1, 2, 3] rfl)
        · exact absurd (th_Vt_lengthen h9) (by decide)
      · have h := lf_f h c_5
        exact hB_26 Y G S _ _ _ h m0 hP hD hS (lv_sub hl [] rfl)
  have hB_8 : ∀ (y_1 : Int32) (y_2 : Int32) (y_3 : Int32) (Y : CT) (G : CG) (S : CS) (H : Heap) (locs : List Loc) (ls : Array Slot), f_Vt_grow_8 K y_1 y_2 y_3 G S = some (.error 0, G', S') → CG.le G0 G → va_P (dC, dI) classes (wV M Y G S) H → va_D A (wV M Y G S) → va_S A s.heap H locs → lv_has ls 8 [(0, .ref M.o_Vt), (1, .int y_1), (2, .int y_2), (3, .int y_3)] → W p l e ({ frames := 8, cells := G'.gc - G0.gc, slots := G'.gs - G0.gs, locals := 224 }) s m ([.ref M.o_Vt, .int p0, .int p1, .int p2] : List Value).toArray below meth c H locs (G.gc - G0.gc) (G.gs - G0.gs) Q (F0 m 8 ls []) := by
    intro y_1 y_2 y_3 Y G S H locs ls h m0 hP hD hS hl
    have mF := mo_Vt_grow_8 h
    rw [f_Vt_grow_8] at h
    refine lv_aload_n hx hb d_Vt_grow_8 rfl (lv_at hl 0 rfl) ?_
    refine lv_iload_n hx hb d_Vt_grow_9 rfl (lv_at hl 1 rfl) ?_
    rcases lf_aT h with ⟨r_3, G_3, S_3, hc_3, h⟩ | h9
    · have mc := mo_Vt_fileHere hc_3
      have ml_3 := mo_Vt_fileHere hc_3
      have mF1 := mo_Vt_grow_13 h
      have hFc := lx_free hD hS hA
      refine va_calli (va_runV (As := [.int y_1]) (rest := []) ⟨hx, hb, hml, hown, hts⟩ (l_Vt_fileHere l dC dI X _ hc_3) (cwV 1 hts (gwV good_Vq (u_Vq_Vt _ k_Vt_179) (u_Vq_Vt _ k_Vt_180) (u_Vq_Vt _ k_Vt_219) (u_Vq_Vt _ k_Vt_0) (wcs (u_Vq_Vt _ k_Vt_181) (fun _ h => h))) rfl rfl rfl (by decide +kernel) ⟨Nat.le_of_ble_eq_true rfl, Nat.le_of_ble_eq_true rfl⟩) (pv_ofE (X.same _) (fun U z1 z2 => X.mono _ _ U hFc (hEw _ _ hS U z1 z2)) hP hK hD (va_recv hK hP (ci := 11) (q0 := 0) rfl rfl)) rfl rfl hl.1 rfl (lv_room (Nat.le_of_ble_eq_true rfl)) d_Vt_grow_10 ⟨ly_c1 m0.1 mc.1 mF1.1, ly_c1 m0.2 mc.2 mF1.2⟩) hS (fun q _ h => hFc q h) hFc (fun r_ Y_3 t H locs ht hvm hw hB hz1 hk1 hS => ?_)
      rw [hw]
      obtain ⟨hP, -, hD⟩ := hB
      rw [ht] at hP
      have hD := lx_dj hD hFc
      refine W.widen (k := G_3.gc - G0.gc) (n := G_3.gs - G0.gs) (ly_c2 m0.1 mc.1) (ly_c2 m0.2 mc.2) ?_
      have m0 := CG.le_tr m0 mc
      exact hB_13 y_2 y_3 r_3 Y_3 G_3 S_3 _ _ _ h m0 hP hD hS (lv_sub hl [0, 2, 3] rfl)
    · have mc := mo_Vt_fileHere h9
      have hFc := lx_free hD hS hA
      rw [hQ]
      exact x_outV (n := 1) (As := [.int y_1]) (rest := []) (b := M.o_Vt) (st0 := [.int y_1, .ref M.o_Vt]) ⟨hx, hb, hml, hown, hts⟩ (lt_Vt_fileHere_0 l hfl dC dI X _ h9) (cwV 1 hts (gwV good_Vq (u_Vq_Vt _ k_Vt_179) (u_Vq_Vt _ k_Vt_180) (u_Vq_Vt _ k_Vt_219) (u_Vq_Vt _ k_Vt_0) (wcs (u_Vq_Vt _ k_Vt_181) (fun _ h => h))) rfl rfl rfl (by decide +kernel) ⟨Nat.le_of_ble_eq_true rfl, Nat.le_of_ble_eq_true rfl⟩) (pv_ofE (X.same _) (fun U z1 z2 => X.mono _ _ U hFc (hEw _ _ hS U z1 z2)) hP hK hD (va_recv hK hP (ci := 11) (q0 := 0) rfl rfl)) rfl hl.1 rfl (Nat.le_of_ble_eq_true rfl) d_Vt_grow_10 ⟨ly_c2 m0.1 mc.1, ly_c2 m0.2 mc.2⟩ hlocks hout ⟨ly_c2 m0.1 mc.1, ly_c2 m0.2 mc.2⟩ (fun E st t U z1 z2 z3 z4 z5 => ly_outQ hS hK hFc z1 z3 z4 z5) ⟨hS.2.2, fun z h => hFc z h⟩
  have hB_5 : ∀ (y_1 : Int32) (y_2 : Int32) (y_3 : Int32) (z_1 : Int32) (Y : CT) (G : CG) (S : CS) (H : Heap) (locs : List Loc) (ls : Array Slot), f_Vt_grow_5 K y_1 y_2 y_3 z_1 G S = some (.error 0, G', S') → CG.le G0 G → va_P (dC, dI) classes (wV M Y G S) H → va_D A (wV M Y G S) → va_S A s.heap H locs → lv_has ls 8 [(0, .ref M.o_Vt), (1, .int y_1), (2, .int y_2), (3, .int y_3)] → W p l e ({ frames := 8, cells := G'.gc - G0.gc, slots := G'.gs - G0.gs, locals := 224 }) s m ([.ref M.o_Vt, .int p0, .int p1, .int p2] : List Value).toArray below meth c H locs (G.gc - G0.gc) (G.gs - G0.gs) Q (F0 m 5 ls [.int z_1, .ref M.o_Vt]) := by
    intro y_1 y_2 y_3 z_1 Y G S H locs ls h m0 hP hD hS hl
    have mF := mo_Vt_grow_5 h
    rw [f_Vt_grow_5] at h
    rcases lf_aT h with ⟨r_2, G_2, S_2, hc_2, h⟩ | h9
    · have mc := mo_Vt_wantSoundTable hc_2
      have ml_2 := mo_Vt_wantSoundTable hc_2
      have mF1 := mo_Vt_grow_8 h
      have hFc := lx_free hD hS hA
      refine va_callv (va_runV (As := [.int z_1]) (rest := []) ⟨hx, hb, hml, hown, hts⟩ (l_Vt_wantSoundTable l dC dI X _ hc_2) (cwV 1 hts (gwV good_Vq (u_Vq_Vt _ k_Vt_166) (u_Vq_Vt _ k_Vt_167) (u_Vq_Vt _ k_Vt_216) (u_Vq_Vt _ k_Vt_0) (wcs (u_Vq_Vt _ k_Vt_168) (fun _ h => h))) rfl rfl rfl (by decide +kernel) ⟨Nat.le_of_ble_eq_true rfl, Nat.le_of_ble_eq_true rfl⟩) (pv_ofE (X.same _) (fun U z1 z2 => X.mono _ _ U hFc (hEw _ _ hS U z1 z2)) hP hK hD (va_recv hK hP (ci := 11) (q0 := 0) rfl rfl)) rfl rfl hl.1 rfl (lv_room (Nat.le_of_ble_eq_true rfl)) d_Vt_grow_5 ⟨ly_c1 m0.1 mc.1 mF1.1, ly_c1 m0.2 mc.2 mF1.2⟩) hS (fun q _ h => hFc q h) hFc (fun Y_2 t H locs ht hvm hw hB hz1 hk1 hS => ?_)
      obtain ⟨hP, -, hD⟩ := hB
      rw [ht] at hP
      have hD := lx_dj hD hFc
      refine W.widen (k := G_2.gc - G0.gc) (n := G_2.gs - G0.gs) (ly_c2 m0.1 mc.1) (ly_c2 m0.2 mc.2) ?_
      have m0 := CG.le_tr m0 mc
      exact hB_8 y_1 y_2 y_3 Y_2 G_2 S_2 _ _ _ h m0 hP hD hS (lv_sub hl [0, 1, 2, 3] rfl)
    · exact absurd (th_Vt_wantSoundTable h9) (by decide)
  have m0 : CG.le G0 G0 := ⟨Nat.le_refl _, Nat.le_refl _⟩
  have mF := mo_Vt_grow h
  refine W.widen (k := G0.gc - G0.gc) (n := G0.gs - G0.gs) (Nat.zero_le _) (Nat.zero_le _) ?_
  rw [f_Vt_grow] at h
  refine lv_aload_n hx hb d_Vt_grow_0 rfl (lv_at hl 0 rfl) ?_
  refine lv_aload_n hx hb d_Vt_grow_1 rfl (lv_at hl 0 rfl) ?_
  obtain ⟨r_1, G_1, S_1, hc_1, h⟩ := lf_nE h
  have mc := mo_Vt_look hc_1
  have ml_1 := mo_Vt_look hc_1
  have mF1 := mo_Vt_grow_5 h
  have hFc := lx_free hD hS hA
  refine va_calli (va_runV (As := []) (rest := [.ref M.o_Vt]) ⟨hx, hb, hml, hown, hts⟩ (l_Vt_look l dC dI X _ hc_1) (cwV 0 hts (gwV good_Vq (u_Vq_Vt _ k_Vt_68) (u_Vq_Vt _ k_Vt_69) (u_Vq_Vt _ k_Vt_214) (u_Vq_Vt _ k_Vt_0) (wcs (u_Vq_Vt _ k_Vt_70) (fun _ h => h))) rfl rfl rfl (by decide +kernel) ⟨Nat.le_of_ble_eq_true rfl, Nat.le_of_ble_eq_true rfl⟩) (pv_ofE (X.same _) (fun U z1 z2 => X.mono _ _ U hFc (hEw _ _ hS U z1 z2)) hP hK hD (va_recv hK hP (ci := 11) (q0 := 0) rfl rfl)) rfl rfl hl.1 rfl (lv_room (Nat.le_of_ble_eq_true rfl)) d_Vt_grow_2 ⟨ly_c1 m0.1 mc.1 mF1.1, ly_c1 m0.2 mc.2 mF1.2⟩) hS (fun q _ h => hFc q h) hFc (fun r_ Y_1 t H locs ht hvm hw hB hz1 hk1 hS => ?_)
  rw [hw]
  obtain ⟨hP, -, hD⟩ := hB
  rw [ht] at hP
  have hD := lx_dj hD hFc
  refine W.widen (k := G_1.gc - G0.gc) (n := G_1.gs - G0.gs) (ly_c2 m0.1 mc.1) (ly_c2 m0.2 mc.2) ?_
  have m0 := CG.le_tr m0 mc
  exact hB_5 p0 p1 p2 r_1 Y_1 G_1 S_1 _ _ _ h m0 hP hD hS (lv_sub hl [0, 1, 2, 3] rfl)
set_option maxHeartbeats 4000000 in
set_option maxRecDepth 100000 in
theorem lt_Vt_grow_1 (l : Launch) (hfl : l.flags = pinnedFlags ++ [noTraceFlag]) (dC : Nat → ClassId) (dI : Nat → Nat → Nat) {K : Nat} {M : CA} {E : (Nat → Prop) → State → Prop} (X : ly_X l dC dI K M E) (sz : Nat) {Y : CT} {G0 G' : CG} {S S' : CS} {p0 : Int32} {p1 : Int32} {p2 : Int32} (h : f_Vt_grow K G0 S p0 p1 p2 = some (.error 1, G', S')) : MetX l y_Vt_grow (.code y_Vt_grow cb_Vt_grow 8 (some .int) :: V_Vq) ({ frames := 8, cells := G'.gc - G0.gc, slots := G'.gs - G0.gs, locals := 224 }) (va_Pc [.ref M.o_Vt, .int p0, .int p1, .int p2] (fun U => U.heap.size = sz ∧ at_ (dC, dI) (fun _ => True) (wV M Y G0 S) (tV M) U ∧ E (va_A (wV M Y G0 S) sz) U)) (fun _ _ _ _ => False) (x_Q "java/lang/IllegalStateException" (va_A (wV M Y G0 S) sz) (fun t => ∃ u : CT, at_ (dC, dI) (va_A (wV M Y G0 S) sz) (wV M u G' S') (tV M) t)) (G'.gc - G0.gc) (G'.gs - G0.gs) (va_A (wV M Y G0 S) sz) := by
  refine MetX.ofW (cc := cb_Vt_grow) (maxL := 8) (ret := (some .int)) (by decide) rfl ?_
  intro p e s m args below meth c s₁ B hml hv
  obtain ⟨rfl, hsz, ⟨hP, hK, hD0⟩, hE⟩ := hv
  have hx := B.exec
  have hb := B.bytes
  have hr := B.returns
  have hts0 := atoms_spec (ws := .code y_Vt_grow cb_Vt_grow 8 (some .int) :: V_Vq) B.pre
  have hts : ∀ w ∈ V_Vq, w.before ([.ref M.o_Vt, .int p0, .int p1, .int p2] : List Value).toArray s = true := fun w h => hts0 w (List.mem_cons_of_mem _ h)
  have hown : s.vm.findClass R_Vt = some m.cls := findClass_of_methodNamed B.named
  have hlocks := B.notSynchronized
  have hout := x_table B (hts0 _ List.mem_cons_self)
  subst hsz
  have hD := hD0.self (sz := s.heap.size)
  generalize hAe : va_A (wV M Y G0 S) s.heap.size = A at hD hE ⊢
  have hA : ∀ q : Nat, s.heap.size ≤ q → A q := fun q h => by rw [← hAe]; exact Or.inr h
  have hS : va_S A s.heap s.heap [] := va_S.rf
  have hP : va_P (dC, dI) classes (wV M Y G0 S) s.heap := hP
  have hK : va_K (dC, dI) classes (tV M) s := hK
  have hEw : ∀ (H : Heap) (locs : List Loc), va_S A s.heap H locs → ∀ U : State, U.heap = H → s.WarmedH U.vm → E A U := fun H locs hS U hU hW => X.kept A s U H locs hE hS hU hW
  have hl := lv_entry ([.ref M.o_Vt, .int p0, .int p1, .int p2]) (n := 8) (Nat.le_of_ble_eq_true rfl)
  rw [lg_entry_eq]
  generalize (lg_sl ([.ref M.o_Vt, .int p0, .int p1, .int p2]) ++ List.replicate (8 - (lg_sl ([.ref M.o_Vt, .int p0, .int p1, .int p2])).length) Slot.unset).toArray = ls at hl ⊢
  have hl : lv_has ls 8 [(0, .ref M.o_Vt), (1, .int p0), (2, .int p1), (3, .int p2)] := hl
  refine qabs (fun Q hQ => ?_)
  have hB_26 : ∀ (Y : CT) (G : CG) (S : CS) (H : Heap) (locs : List Loc) (ls : Array Slot), f_Vt_grow_26 K G S = some (.error 1, G', S') → CG.le G0 G → va_P (dC, dI) classes (wV M Y G S) H → va_D A (wV M Y G S) → va_S A s.heap H locs → lv_has ls 8 [] → W p l e ({ frames := 8, cells := G'.gc - G0.gc, slots := G'.gs - G0.gs, locals := 224 }) s m ([.ref M.o_Vt, .int p0, .int p1, .int p2] : List Value).toArray below meth c H locs (G.gc - G0.gc) (G.gs - G0.gs) Q (F0 m 26 ls []) := by
    intro Y G S H locs ls h m0 hP hD hS hl
    have mF := mo_Vt_grow_26 h
    rw [f_Vt_grow_26] at h
    exact lf_xk h (by decide)
  have hB_62 : ∀ (k : Nat), ∀ (y_2 : Int32) (y_3 : Int32) (y_5 : Int32) (y_6 : Int32) (y_7 : Int32) (Y : CT) (G : CG) (S : CS) (H : Heap) (locs : List Loc) (ls : Array Slot), f_Vt_grow_62 K k y_2 y_3 y_5 y_6 y_7 G S = some (.error 1, G', S') → CG.le G0 G → va_P (dC, dI) classes (wV M Y G S) H → va_D A (wV M Y G S) → va_S A s.heap H locs → lv_has ls 8 [(0, .ref M.o_Vt), (2, .int y_2), (3, .int y_3), (5, .int y_5), (6, .int y_6), (7, .int y_7)] → W p l e ({ frames := 8, cells := G'.gc - G0.gc, slots := G'.gs - G0.gs, locals := 224 }) s m ([.ref M.o_Vt, .int p0, .int p1, .int p2] : List Value).toArray below meth c H locs (G.gc - G0.gc) (G.gs - G0.gs) Q (F0 m 62 ls []) := by
    intro k
    induction k with
    | zero => intro y_2 y_3 y_5 y_6 y_7 Y G S H locs ls h; exact lf_no h
    | succ k hr_62 =>
      intro y_2 y_3 y_5 y_6 y_7 Y G S H locs ls h m0 hP hD hS hl
      have mF := mo_Vt_grow_62 (k + 1) y_2 y_3 y_5 y_6 y_7 G S h
      have hm_62 : ∀ (y_2 : Int32) (y_3 : Int32) (y_5 : Int32) (y_6 : Int32) (y_7 : Int32) (G : CG) (S : CS) {x : Except Nat Int32} {G1 : CG} {S1 : CS}, f_Vt_grow_62 K k y_2 y_3 y_5 y_6 y_7 G S = some (x, G1, S1) → CG.le G G1 := fun y_2 y_3 y_5 y_6 y_7 G S => mo_Vt_grow_62 k y_2 y_3 y_5 y_6 y_7 G S
      rw [f_Vt_grow_62] at h
      refine lv_iload hx hb d_Vt_grow_62 (lv_at hl 5 rfl) ?_
      refine lv_iload_n hx hb d_Vt_grow_64 rfl (lv_at hl 1 rfl) ?_
      refine lv_icmp_ge (tgt := 112) hx hb d_Vt_grow_65 (by decide) (fun c_8 => ?_) (fun c_8 => ?_)
      · have h := lf_t h c_8
        refine lv_iload hx hb d_Vt_grow_112 (lv_at hl 3 rfl) ?_
        refine lv_iload_n hx hb d_Vt_grow_114 rfl (lv_at hl 1 rfl) ?_
        refine lv_iadd hx hb d_Vt_grow_115 ?_
        exact lf_xo h
      · have h := lf_f h c_8
        refine lv_aload_n hx hb d_Vt_grow_68 rfl (lv_at hl 0 rfl) ?_
        refine va_get (D := (dC, dI)) (ci := 11) (v := .ref M.o_Ed) (C := R_Vt) (T := F_Vt) (N := 16) hx hb hts (fun w h => u_Vq_Vt w (i_Vt w h)) hown hK hP 0 rfl rfl 5 (by decide) (hts _ (u_Vq_Vt _ k_Vt_34)) (fun _ h9 => h9) rfl d_Vt_grow_69 ?_
        refine lv_iload hx hb d_Vt_grow_72 (lv_at hl 4 rfl) ?_
        refine lv_iload hx hb d_Vt_grow_74 (lv_at hl 3 rfl) ?_
        refine lv_iload hx hb d_Vt_grow_76 (lv_at hl 5 rfl) ?_
        refine lv_iadd hx hb d_Vt_grow_78 ?_
        obtain ⟨r_9, S_9, hc_9, h⟩ := lf_cE h
        have hFc := lx_free hD hS hA
        refine va_calli (va_runV (As := [.int y_6, .int (y_5 + y_7)]) (rest := []) ⟨hx, hb, hml, hown, hts⟩ (l_Ed_placeBehind l dC dI X _ hc_9) (cwV 2 hts (gwV good_Vq (u_Vq_Vt _ k_Vt_188) (u_Vq_Ed _ k_Ed_116) (u_Vq_Ed _ k_Ed_117) (u_Vq_Ed _ k_Ed_0) (wcs (u_Vq_Ed _ k_Ed_118) (fun _ h => h))) rfl rfl rfl (by decide +kernel) ⟨Nat.le_of_ble_eq_true rfl, Nat.le_of_ble_eq_true rfl⟩) (pv_ofE (X.same _) (fun U z1 z2 => X.mono _ _ U hFc (hEw _ _ hS U z1 z2)) hP hK hD (va_recv hK hP (ci := 8) (q0 := 6) rfl rfl)) rfl rfl hl.1 rfl (lv_room (Nat.le_of_ble_eq_true rfl)) d_Vt_grow_79 ⟨ly_c0 mF.1, ly_c0 mF.2⟩) hS (fun q _ h => hFc q h) hFc (fun r_ u t H locs ht hvm hw hB hz1 hk1 hS => ?_)
        rw [hw]
        obtain ⟨hP, -, hD⟩ := hB
        rw [ht] at hP
        have hD := lx_dj hD hFc
        refine lv_istore (lv' := [(6, .int r_9), (0, .ref M.o_Vt), (2, .int y_2), (3, .int y_3), (5, .int y_5), (7, .int y_7)]) hx hb d_Vt_grow_82 hl (by decide) rfl (fun ls hl => ?_)
        refine lv_aload_n hx hb d_Vt_grow_84 rfl (lv_at hl 1 rfl) ?_
        refine va_get (D := (dC, dI)) (ci := 11) (v := .ref M.o_Dk) (C := R_Vt) (T := F_Vt) (N := 16) hx hb hts (fun w h => u_Vq_Vt w (i_Vt w h)) hown hK hP 0 rfl rfl 0 (by decide) (hts _ (u_Vq_Vt _ k_Vt_29)) (fun _ h9 => h9) rfl d_Vt_grow_85 ?_
        refine lv_iload hx hb d_Vt_grow_88 (lv_at hl 0 rfl) ?_
        refine lv_iload_n hx hb d_Vt_grow_90 rfl (lv_at hl 3 rfl) ?_
        refine lv_iload hx hb d_Vt_grow_91 (lv_at hl 5 rfl) ?_
        refine lv_iload hx hb d_Vt_grow_93 (lv_at hl 5 rfl) ?_
        refine lv_imul hx hb d_Vt_grow_95 ?_
        refine lv_iadd hx hb d_Vt_grow_96 ?_
        refine lv_iload hx hb d_Vt_grow_97 (lv_at hl 5 rfl) ?_
        refine lv_bipush (v := 8) hx hb d_Vt_grow_99 (by decide) ?_
        refine lv_ishr hx hb d_Vt_grow_101 ?_
        refine lv_iadd hx hb d_Vt_grow_102 ?_
        obtain ⟨S_10, hc_10, h⟩ := lf_bE h
        have hFc := lx_free hD hS hA
        refine va_callv (va_runV (As := [.int r_9, .int ((y_3 + (y_7 * y_7)) + (y_7 >>> ((8 : Int32) &&& 31)))]) (rest := []) ⟨hx, hb, hml, hown, hts⟩ (l_Dk_putOne l dC dI X _ hc_10) (cwV 2 hts (gwV good_Vq (u_Vq_Vt _ k_Vt_61) (u_Vq_Dk _ k_Dk_11) (u_Vq_Dk _ k_Dk_12) (u_Vq_Dk _ k_Dk_0) (wcs (u_Vq_Dk _ k_Dk_13) (fun _ h => h))) rfl rfl rfl (by decide +kernel) ⟨Nat.le_of_ble_eq_true rfl, Nat.le_of_ble_eq_true rfl⟩) (pv_ofE (X.same _) (fun U z1 z2 => X.mono _ _ U hFc (hEw _ _ hS U z1 z2)) hP hK hD (va_recv hK hP (ci := 0) (q0 := 1) rfl rfl)) rfl rfl hl.1 rfl (lv_room (Nat.le_of_ble_eq_true rfl)) d_Vt_grow_103 ⟨ly_c0 mF.1, ly_c0 mF.2⟩) hS (fun q _ h => hFc q h) hFc (fun u t H locs ht hvm hw hB hz1 hk1 hS => ?_)
        obtain ⟨hP, -, hD⟩ := hB
        rw [ht] at hP
        have hD := lx_dj hD hFc
        obtain ⟨x_11, ex_11, h⟩ := lf_lX h
        refine lv_iinc (v := x_11) (lv' := [(7, .int x_11), (6, .int r_9), (0, .ref M.o_Vt), (2, .int y_2), (3, .int y_3), (5, .int y_5)]) hx hb d_Vt_grow_106 hl (k := 5) rfl (by rw [ex_11]; rfl) (by decide) rfl (fun ls hl => ?_)
        refine lv_goto (tgt := 62) hx hb d_Vt_grow_109 (by decide) ?_
        exact hr_62 y_2 y_3 y_5 r_9 x_11 Y G S_10 _ _ _ h m0 hP hD hS (lv_sub hl [2, 3, 4, 5, 1, 0] rfl)
  have hB_44 : ∀ (y_2 : Int32) (y_3 : Int32) (z_0 : Int32) (Y : CT) (G : CG) (S : CS) (H : Heap) (locs : List Loc) (ls : Array Slot), f_Vt_grow_44 K y_2 y_3 z_0 G S = some (.error 1, G', S') → CG.le G0 G → va_P (dC, dI) classes (wV M Y G S) H → va_D A (wV M Y G S) → va_S A s.heap H locs → lv_has ls 8 [(0, .ref M.o_Vt), (2, .int y_2), (3, .int y_3)] → W p l e ({ frames := 8, cells := G'.gc - G0.gc, slots := G'.gs - G0.gs, locals := 224 }) s m ([.ref M.o_Vt, .int p0, .int p1, .int p2] : List Value).toArray below meth c H locs (G.gc - G0.gc) (G.gs - G0.gs) Q (F0 m 44 ls [.int z_0]) := by
    intro y_2 y_3 z_0 Y G S H locs ls h m0 hP hD hS hl
    have mF := mo_Vt_grow_44 h
    rw [f_Vt_grow_44] at h
    refine lv_istore (lv' := [(5, .int z_0), (0, .ref M.o_Vt), (2, .int y_2), (3, .int y_3)]) hx hb d_Vt_grow_44 hl (by decide) rfl (fun ls hl => ?_)
    refine lv_aload_n hx hb d_Vt_grow_46 rfl (lv_at hl 1 rfl) ?_
    refine va_get (D := (dC, dI)) (ci := 11) (v := .ref M.o_Ed) (C := R_Vt) (T := F_Vt) (N := 16) hx hb hts (fun w h => u_Vq_Vt w (i_Vt w h)) hown hK hP 0 rfl rfl 5 (by decide) (hts _ (u_Vq_Vt _ k_Vt_34)) (fun _ h9 => h9) rfl d_Vt_grow_47 ?_
    refine lv_iload hx hb d_Vt_grow_50 (lv_at hl 0 rfl) ?_
    refine lv_iconst (v := 1) hx hb d_Vt_grow_52 (by decide) ?_
    refine lv_isub hx hb d_Vt_grow_53 ?_
    obtain ⟨r_7, S_7, hc_7, h⟩ := lf_cE h
    have hFc := lx_free hD hS hA
    refine va_calli (va_runV (As := [.int (z_0 - 1)]) (rest := []) ⟨hx, hb, hml, hown, hts⟩ (l_Ed_placeOnRoad l dC dI X _ hc_7) (cwV 1 hts (gwV good_Vq (u_Vq_Vt _ k_Vt_187) (u_Vq_Ed _ k_Ed_33) (u_Vq_Ed _ k_Ed_34) (u_Vq_Ed _ k_Ed_0) (wcs (u_Vq_Ed _ k_Ed_35) (fun _ h => h))) rfl rfl rfl (by decide +kernel) ⟨Nat.le_of_ble_eq_true rfl, Nat.le_of_ble_eq_true rfl⟩) (pv_ofE (X.same _) (fun U z1 z2 => X.mono _ _ U hFc (hEw _ _ hS U z1 z2)) hP hK hD (va_recv hK hP (ci := 8) (q0 := 6) rfl rfl)) rfl rfl hl.1 rfl (lv_room (Nat.le_of_ble_eq_true rfl)) d_Vt_grow_54 ⟨ly_c0 mF.1, ly_c0 mF.2⟩) hS (fun q _ h => hFc q h) hFc (fun r_ u t H locs ht hvm hw hB hz1 hk1 hS => ?_)
    rw [hw]
    obtain ⟨hP, -, hD⟩ := hB
    rw [ht] at hP
    have hD := lx_dj hD hFc
    refine lv_istore (lv' := [(6, .int r_7), (5, .int z_0), (0, .ref M.o_Vt), (2, .int y_2), (3, .int y_3)]) hx hb d_Vt_grow_57 hl (by decide) rfl (fun ls hl => ?_)
    refine lv_iconst (v := 0) hx hb d_Vt_grow_59 (by decide) ?_
    refine lv_istore (lv' := [(7, .int 0), (6, .int r_7), (5, .int z_0), (0, .ref M.o_Vt), (2, .int y_2), (3, .int y_3)]) hx hb d_Vt_grow_60 hl (by decide) rfl (fun ls hl => ?_)
    exact hB_62 K y_2 y_3 z_0 r_7 0 Y G S_7 _ _ _ h m0 hP hD hS (lv_sub hl [3, 4, 5, 2, 1, 0] rfl)
  have hB_13 : ∀ (y_2 : Int32) (y_3 : Int32) (z_0 : Int32) (Y : CT) (G : CG) (S : CS) (H : Heap) (locs : List Loc) (ls : Array Slot), f_Vt_grow_13 K y_2 y_3 z_0 G S = some (.error 1, G', S') → CG.le G0 G → va_P (dC, dI) classes (wV M Y G S) H → va_D A (wV M Y G S) → va_S A s.heap H locs → lv_has ls 8 [(0, .ref M.o_Vt), (2, .int y_2), (3, .int y_3)] → W p l e ({ frames := 8, cells := G'.gc - G0.gc, slots := G'.gs - G0.gs, locals := 224 }) s m ([.ref M.o_Vt, .int p0, .int p1, .int p2] : List Value).toArray below meth c H locs (G.gc - G0.gc) (G.gs - G0.gs) Q (F0 m 13 ls [.int z_0]) := by
    intro y_2 y_3 z_0 Y G S H locs ls h m0 hP hD hS hl
    have mF := mo_Vt_grow_13 h
    rw [f_Vt_grow_13] at h
    refine lv_istore (lv' := [(4, .int z_0), (0, .ref M.o_Vt), (2, .int y_2), (3, .int y_3)]) hx hb d_Vt_grow_13 hl (by decide) rfl (fun ls hl => ?_)
    refine lv_iload_n hx hb d_Vt_grow_15 rfl (lv_at hl 2 rfl) ?_
    refine lv_if_lt (tgt := 26) hx hb d_Vt_grow_16 (by decide) (fun c_4 => ?_) (fun c_4 => ?_)
    · have h := lf_t h c_4
      exact hB_26 Y G S _ _ _ h m0 hP hD hS (lv_sub hl [] rfl)
    · have h := lf_f h c_4
      refine lv_iload_n hx hb d_Vt_grow_19 rfl (lv_at hl 2 rfl) ?_
      refine lv_ldcw (v := 400000) hx hb hown (hts _ (u_Vq_Vt _ k_Vt_193)) d_Vt_grow_20 ?_
      refine lv_icmp_le (tgt := 37) hx hb d_Vt_grow_23 (by decide) (fun c_5 => ?_) (fun c_5 => ?_)
      · have h := lf_t h c_5
        refine lv_aload_n hx hb d_Vt_grow_37 rfl (lv_at hl 1 rfl) ?_
        refine lv_iload hx hb d_Vt_grow_38 (lv_at hl 0 rfl) ?_
        refine lv_iload_n hx hb d_Vt_grow_40 rfl (lv_at hl 2 rfl) ?_
        rcases lf_aT h with ⟨r_6, G_6, S_6, hc_6, h⟩ | h9
        · have mc := mo_Vt_lengthen hc_6
          have ml_6 := mo_Vt_lengthen hc_6
          have mF1 := mo_Vt_grow_44 h
          have hFc := lx_free hD hS hA
          refine va_calli (va_runV (As := [.int z_0, .int y_2]) (rest := []) ⟨hx, hb, hml, hown, hts⟩ (l_Vt_lengthen l dC dI X _ hc_6) (cwV 2 hts (gwV good_Vq (u_Vq_Vt _ k_Vt_182) (u_Vq_Vt _ k_Vt_183) (u_Vq_Vt _ k_Vt_220) (u_Vq_Vt _ k_Vt_0) (wcs (u_Vq_Vt _ k_Vt_184) (fun _ h => h))) rfl rfl rfl (by decide +kernel) ⟨Nat.le_of_ble_eq_true rfl, Nat.le_of_ble_eq_true rfl⟩) (pv_ofE (X.same _) (fun U z1 z2 => X.mono _ _ U hFc (hEw _ _ hS U z1 z2)) hP hK hD (va_recv hK hP (ci := 11) (q0 := 0) rfl rfl)) rfl rfl hl.1 rfl (lv_room (Nat.le_of_ble_eq_true rfl)) d_Vt_grow_41 ⟨ly_c1 m0.1 mc.1 mF1.1, ly_c1 m0.2 mc.2 mF1.2⟩) hS (fun q _ h => hFc q h) hFc (fun r_ Y_6 t H locs ht hvm hw hB hz1 hk1 hS => ?_)
          rw [hw]
          obtain ⟨hP, -, hD⟩ := hB
          rw [ht] at hP
          have hD := lx_dj hD hFc
          refine W.widen (k := G_6.gc - G0.gc) (n := G_6.gs - G0.gs) (ly_c2 m0.1 mc.1) (ly_c2 m0.2 mc.2) ?_
          have m0 := CG.le_tr m0 mc
          exact hB_44 y_2 y_3 r_6 Y_6 G_6 S_6 _ _ _ h m0 hP hD hS (lv_sub hl [1, 2, 3] rfl)
        · exact absurd (th_Vt_lengthen h9) (by decide)
      · have h := lf_f h c_5
        exact hB_26 Y G S _ _ _ h m0 hP hD hS (lv_sub hl [] rfl)
  have hB_8 : ∀ (y_1 : Int32) (y_2 : Int32) (y_3 : Int32) (Y : CT) (G : CG) (S : CS) (H : Heap) (locs : List Loc) (ls : Array Slot), f_Vt_grow_8 K y_1 y_2 y_3 G S = some (.error 1, G', S') → CG.le G0 G → va_P (dC, dI) classes (wV M Y G S) H → va_D A (wV M Y G S) → va_S A s.heap H locs → lv_has ls 8 [(0, .ref M.o_Vt), (1, .int y_1), (2, .int y_2), (3, .int y_3)] → W p l e ({ frames := 8, cells := G'.gc - G0.gc, slots := G'.gs - G0.gs, locals := 224 }) s m ([.ref M.o_Vt, .int p0, .int p1, .int p2] : List Value).toArray below meth c H locs (G.gc - G0.gc) (G.gs - G0.gs) Q (F0 m 8 ls []) := by
    intro y_1 y_2 y_3 Y G S H locs ls h m0 hP hD hS hl
    have mF := mo_Vt_grow_8 h
    rw [f_Vt_grow_8] at h
    refine lv_aload_n hx hb d_Vt_grow_8 rfl (lv_at hl 0 rfl) ?_
    refine lv_iload_n hx hb d_Vt_grow_9 rfl (lv_at hl 1 rfl) ?_
    rcases lf_aT h with ⟨r_3, G_3, S_3, hc_3, h⟩ | h9
    · have mc := mo_Vt_fileHere hc_3
      have ml_3 := mo_Vt_fileHere hc_3
      have mF1 := mo_Vt_grow_13 h
      have hFc := lx_free hD hS hA
      refine va_calli (va_runV (As := [.int y_1]) (rest := []) ⟨hx, hb, hml, hown, hts⟩ (l_Vt_fileHere l dC dI X _ hc_3) (cwV 1 hts (gwV good_Vq (u_Vq_Vt _ k_Vt_179) (u_Vq_Vt _ k_Vt_180) (u_Vq_Vt _ k_Vt_219) (u_Vq_Vt _ k_Vt_0) (wcs (u_Vq_Vt _ k_Vt_181) (fun _ h => h))) rfl rfl rfl (by decide +kernel) ⟨Nat.le_of_ble_eq_true rfl, Nat.le_of_ble_eq_true rfl⟩) (pv_ofE (X.same _) (fun U z1 z2 => X.mono _ _ U hFc (hEw _ _ hS U z1 z2)) hP hK hD (va_recv hK hP (ci := 11) (q0 := 0) rfl rfl)) rfl rfl hl.1 rfl (lv_room (Nat.le_of_ble_eq_true rfl)) d_Vt_grow_10 ⟨ly_c1 m0.1 mc.1 mF1.1, ly_c1 m0.2 mc.2 mF1.2⟩) hS (fun q _ h => hFc q h) hFc (fun r_ Y_3 t H locs ht hvm hw hB hz1 hk1 hS => ?_)
      rw [hw]
      obtain ⟨hP, -, hD⟩ := hB
      rw [ht] at hP
      have hD := lx_dj hD hFc
      refine W.widen (k := G_3.gc - G0.gc) (n := G_3.gs - G0.gs) (ly_c2 m0.1 mc.1) (ly_c2 m0.2 mc.2) ?_
      have m0 := CG.le_tr m0 mc
      exact hB_13 y_2 y_3 r_3 Y_3 G_3 S_3 _ _ _ h m0 hP hD hS (lv_sub hl [0, 2, 3] rfl)
    · exact absurd (th_Vt_fileHere h9) (by decide)
  have hB_5 : ∀ (y_1 : Int32) (y_2 : Int32) (y_3 : Int32) (z_1 : Int32) (Y : CT) (G : CG) (S : CS) (H : Heap) (locs : List Loc) (ls : Array Slot), f_Vt_grow_5 K y_1 y_2 y_3 z_1 G S = some (.error 1, G', S') → CG.le G0 G → va_P (dC, dI) classes (wV M Y G S) H → va_D A (wV M Y G S) → va_S A s.heap H locs → lv_has ls 8 [(0, .ref M.o_Vt), (1, .int y_1), (2, .int y_2), (3, .int y_3)] → W p l e ({ frames := 8, cells := G'.gc - G0.gc, slots := G'.gs - G0.gs, locals := 224 }) s m ([.ref M.o_Vt, .int p0, .int p1, .int p2] : List Value).toArray below meth c H locs (G.gc - G0.gc) (G.gs - G0.gs) Q (F0 m 5 ls [.int z_1, .ref M.o_Vt]) := by
    intro y_1 y_2 y_3 z_1 Y G S H locs ls h m0 hP hD hS hl
    have mF := mo_Vt_grow_5 h
    rw [f_Vt_grow_5] at h
    rcases lf_aT h with ⟨r_2, G_2, S_2, hc_2, h⟩ | h9
    · have mc := mo_Vt_wantSoundTable hc_2
      have ml_2 := mo_Vt_wantSoundTable hc_2
      have mF1 := mo_Vt_grow_8 h
      have hFc := lx_free hD hS hA
      refine va_callv (va_runV (As := [.int z_1]) (rest := []) ⟨hx, hb, hml, hown, hts⟩ (l_Vt_wantSoundTable l dC dI X _ hc_2) (cwV 1 hts (gwV good_Vq (u_Vq_Vt _ k_Vt_166) (u_Vq_Vt _ k_Vt_167) (u_Vq_Vt _ k_Vt_216) (u_Vq_Vt _ k_Vt_0) (wcs (u_Vq_Vt _ k_Vt_168) (fun _ h => h))) rfl rfl rfl (by decide +kernel) ⟨Nat.le_of_ble_eq_true rfl, Nat.le_of_ble_eq_true rfl⟩) (pv_ofE (X.same _) (fun U z1 z2 => X.mono _ _ U hFc (hEw _ _ hS U z1 z2)) hP hK hD (va_recv hK hP (ci := 11) (q0 := 0) rfl rfl)) rfl rfl hl.1 rfl (lv_room (Nat.le_of_ble_eq_true rfl)) d_Vt_grow_5 ⟨ly_c1 m0.1 mc.1 mF1.1, ly_c1 m0.2 mc.2 mF1.2⟩) hS (fun q _ h => hFc q h) hFc (fun Y_2 t H locs ht hvm hw hB hz1 hk1 hS => ?_)
      obtain ⟨hP, -, hD⟩ := hB
      rw [ht] at hP
      have hD := lx_dj hD hFc
      refine W.widen (k := G_2.gc - G0.gc) (n := G_2.gs - G0.gs) (ly_c2 m0.1 mc.1) (ly_c2 m0.2 mc.2) ?_
      have m0 := CG.le_tr m0 mc
      exact hB_8 y_1 y_2 y_3 Y_2 G_2 S_2 _ _ _ h m0 hP hD hS (lv_sub hl [0, 1, 2, 3] rfl)
    · have mc := mo_Vt_wantSoundTable h9
      have hFc := lx_free hD hS hA
      rw [hQ]
      exact x_outV (n := 1) (As := [.int z_1]) (rest := []) (b := M.o_Vt) (st0 := [.int z_1, .ref M.o_Vt]) ⟨hx, hb, hml, hown, hts⟩ (lt_Vt_wantSoundTable_1 l hfl dC dI X _ h9) (cwV 1 hts (gwV good_Vq (u_Vq_Vt _ k_Vt_166) (u_Vq_Vt _ k_Vt_167) (u_Vq_Vt _ k_Vt_216) (u_Vq_Vt _ k_Vt_0) (wcs (u_Vq_Vt _ k_Vt_168) (fun _ h => h))) rfl rfl rfl (by decide +kernel) ⟨Nat.le_of_ble_eq_true rfl, Nat.le_of_ble_eq_true rfl⟩) (pv_ofE (X.same _) (fun U z1 z2 => X.mono _ _ U hFc (hEw _ _ hS U z1 z2)) hP hK hD (va_recv hK hP (ci := 11) (q0 := 0) rfl rfl)) rfl hl.1 rfl (Nat.le_of_ble_eq_true rfl) d_Vt_grow_5 ⟨ly_c2 m0.1 mc.1, ly_c2 m0.2 mc.2⟩ hlocks hout ⟨ly_c2 m0.1 mc.1, ly_c2 m0.2 mc.2⟩ (fun E st t U z1 z2 z3 z4 z5 => ly_outQ hS hK hFc z1 z3 z4 z5) ⟨hS.2.2, fun z h => hFc z h⟩
  have m0 : CG.le G0 G0 := ⟨Nat.le_refl _, Nat.le_refl _⟩
  have mF := mo_Vt_grow h
  refine W.widen (k := G0.gc - G0.gc) (n := G0.gs - G0.gs) (Nat.zero_le _) (Nat.zero_le _) ?_
  rw [f_Vt_grow] at h
  refine lv_aload_n hx hb d_Vt_grow_0 rfl (lv_at hl 0 rfl) ?_
  refine lv_aload_n hx hb d_Vt_grow_1 rfl (lv_at hl 0 rfl) ?_
  obtain ⟨r_1, G_1, S_1, hc_1, h⟩ := lf_nE h
  have mc := mo_Vt_look hc_1
  have ml_1 := mo_Vt_look hc_1
  have mF1 := mo_Vt_grow_5 h
  have hFc := lx_free hD hS hA
  refine va_calli (va_runV (As := []) (rest := [.ref M.o_Vt]) ⟨hx, hb, hml, hown, hts⟩ (l_Vt_look l dC dI X _ hc_1) (cwV 0 hts (gwV good_Vq (u_Vq_Vt _ k_Vt_68) (u_Vq_Vt _ k_Vt_69) (u_Vq_Vt _ k_Vt_214) (u_Vq_Vt _ k_Vt_0) (wcs (u_Vq_Vt _ k_Vt_70) (fun _ h => h))) rfl rfl rfl (by decide +kernel) ⟨Nat.le_of_ble_eq_true rfl, Nat.le_of_ble_eq_true rfl⟩) (pv_ofE (X.same _) (fun U z1 z2 => X.mono _ _ U hFc (hEw _ _ hS U z1 z2)) hP hK hD (va_recv hK hP (ci := 11) (q0 := 0) rfl rfl)) rfl rfl hl.1 rfl (lv_room (Nat.le_of_ble_eq_true rfl)) d_Vt_grow_2 ⟨ly_c1 m0.1 mc.1 mF1.1, ly_c1 m0.2 mc.2 mF1.2⟩) hS (fun q _ h => hFc q h) hFc (fun r_ Y_1 t H locs ht hvm hw hB hz1 hk1 hS => ?_)
  rw [hw]
  obtain ⟨hP, -, hD⟩ := hB
  rw [ht] at hP
  have hD := lx_dj hD hFc
  refine W.widen (k := G_1.gc - G0.gc) (n := G_1.gs - G0.gs) (ly_c2 m0.1 mc.1) (ly_c2 m0.2 mc.2) ?_
  have m0 := CG.le_tr m0 mc
  exact hB_5 p0 p1 p2 r_1 Y_1 G_1 S_1 _ _ _ h m0 hP hD hS (lv_sub hl [0, 1, 2, 3] rfl)
set_option maxHeartbeats 4000000 in
set_option maxRecDepth 100000 in
theorem lt_Vt_grow_2 (l : Launch) (hfl : l.flags = pinnedFlags ++ [noTraceFlag]) (dC : Nat → ClassId) (dI : Nat → Nat → Nat) {K : Nat} {M : CA} {E : (Nat → Prop) → State → Prop} (X : ly_X l dC dI K M E) (sz : Nat) {Y : CT} {G0 G' : CG} {S S' : CS} {p0 : Int32} {p1 : Int32} {p2 : Int32} (h : f_Vt_grow K G0 S p0 p1 p2 = some (.error 2, G', S')) : MetX l y_Vt_grow (.code y_Vt_grow cb_Vt_grow 8 (some .int) :: V_Vq) ({ frames := 8, cells := G'.gc - G0.gc, slots := G'.gs - G0.gs, locals := 224 }) (va_Pc [.ref M.o_Vt, .int p0, .int p1, .int p2] (fun U => U.heap.size = sz ∧ at_ (dC, dI) (fun _ => True) (wV M Y G0 S) (tV M) U ∧ E (va_A (wV M Y G0 S) sz) U)) (fun _ _ _ _ => False) (x_Q "java/lang/IndexOutOfBoundsException" (va_A (wV M Y G0 S) sz) (fun t => ∃ u : CT, at_ (dC, dI) (va_A (wV M Y G0 S) sz) (wV M u G' S') (tV M) t)) (G'.gc - G0.gc) (G'.gs - G0.gs) (va_A (wV M Y G0 S) sz) := by
  refine MetX.ofW (cc := cb_Vt_grow) (maxL := 8) (ret := (some .int)) (by decide) rfl ?_
  intro p e s m args below meth c s₁ B hml hv
  obtain ⟨rfl, hsz, ⟨hP, hK, hD0⟩, hE⟩ := hv
  have hx := B.exec
  have hb := B.bytes
  have hr := B.returns
  have hts0 := atoms_spec (ws := .code y_Vt_grow cb_Vt_grow 8 (some .int) :: V_Vq) B.pre
  have hts : ∀ w ∈ V_Vq, w.before ([.ref M.o_Vt, .int p0, .int p1, .int p2] : List Value).toArray s = true := fun w h => hts0 w (List.mem_cons_of_mem _ h)
  have hown : s.vm.findClass R_Vt = some m.cls := findClass_of_methodNamed B.named
  have hlocks := B.notSynchronized
  have hout := x_table B (hts0 _ List.mem_cons_self)
  subst hsz
  have hD := hD0.self (sz := s.heap.size)
  generalize hAe : va_A (wV M Y G0 S) s.heap.size = A at hD hE ⊢
  have hA : ∀ q : Nat, s.heap.size ≤ q → A q := fun q h => by rw [← hAe]; exact Or.inr h
  have hS : va_S A s.heap s.heap [] := va_S.rf
  have hP : va_P (dC, dI) classes (wV M Y G0 S) s.heap := hP
  have hK : va_K (dC, dI) classes (tV M) s := hK
  have hEw : ∀ (H : Heap) (locs : List Loc), va_S A s.heap H locs → ∀ U : State, U.heap = H → s.WarmedH U.vm → E A U := fun H locs hS U hU hW => X.kept A s U H locs hE hS hU hW
  have hl := lv_entry ([.ref M.o_Vt, .int p0, .int p1, .int p2]) (n := 8) (Nat.le_of_ble_eq_true rfl)
  rw [lg_entry_eq]
  generalize (lg_sl ([.ref M.o_Vt, .int p0, .int p1, .int p2]) ++ List.replicate (8 - (lg_sl ([.ref M.o_Vt, .int p0, .int p1, .int p2])).length) Slot.unset).toArray = ls at hl ⊢
  have hl : lv_has ls 8 [(0, .ref M.o_Vt), (1, .int p0), (2, .int p1), (3, .int p2)] := hl
  refine qabs (fun Q hQ => ?_)
  have hB_26 : ∀ (Y : CT) (G : CG) (S : CS) (H : Heap) (locs : List Loc) (ls : Array Slot), f_Vt_grow_26 K G S = some (.error 2, G', S') → CG.le G0 G → va_P (dC, dI) classes (wV M Y G S) H → va_D A (wV M Y G S) → va_S A s.heap H locs → lv_has ls 8 [] → W p l e ({ frames := 8, cells := G'.gc - G0.gc, slots := G'.gs - G0.gs, locals := 224 }) s m ([.ref M.o_Vt, .int p0, .int p1, .int p2] : List Value).toArray below meth c H locs (G.gc - G0.gc) (G.gs - G0.gs) Q (F0 m 26 ls []) := by
    intro Y G S H locs ls h m0 hP hD hS hl
    have mF := mo_Vt_grow_26 h
    rw [f_Vt_grow_26] at h
    exact lf_xk h (by decide)
  have hB_62 : ∀ (k : Nat), ∀ (y_2 : Int32) (y_3 : Int32) (y_5 : Int32) (y_6 : Int32) (y_7 : Int32) (Y : CT) (G : CG) (S : CS) (H : Heap) (locs : List Loc) (ls : Array Slot), f_Vt_grow_62 K k y_2 y_3 y_5 y_6 y_7 G S = some (.error 2, G', S') → CG.le G0 G → va_P (dC, dI) classes (wV M Y G S) H → va_D A (wV M Y G S) → va_S A s.heap H locs → lv_has ls 8 [(0, .ref M.o_Vt), (2, .int y_2), (3, .int y_3), (5, .int y_5), (6, .int y_6), (7, .int y_7)] → W p l e ({ frames := 8, cells := G'.gc - G0.gc, slots := G'.gs - G0.gs, locals := 224 }) s m ([.ref M.o_Vt, .int p0, .int p1, .int p2] : List Value).toArray below meth c H locs (G.gc - G0.gc) (G.gs - G0.gs) Q (F0 m 62 ls []) := by
    intro k
    induction k with
    | zero => intro y_2 y_3 y_5 y_6 y_7 Y G S H locs ls h; exact lf_no h
    | succ k hr_62 =>
      intro y_2 y_3 y_5 y_6 y_7 Y G S H locs ls h m0 hP hD hS hl
      have mF := mo_Vt_grow_62 (k + 1) y_2 y_3 y_5 y_6 y_7 G S h
      have hm_62 : ∀ (y_2 : Int32) (y_3 : Int32) (y_5 : Int32) (y_6 : Int32) (y_7 : Int32) (G : CG) (S : CS) {x : Except Nat Int32} {G1 : CG} {S1 : CS}, f_Vt_grow_62 K k y_2 y_3 y_5 y_6 y_7 G S = some (x, G1, S1) → CG.le G G1 := fun y_2 y_3 y_5 y_6 y_7 G S => mo_Vt_grow_62 k y_2 y_3 y_5 y_6 y_7 G S
      rw [f_Vt_grow_62] at h
      refine lv_iload hx hb d_Vt_grow_62 (lv_at hl 5 rfl) ?_
      refine lv_iload_n hx hb d_Vt_grow_64 rfl (lv_at hl 1 rfl) ?_
      refine lv_icmp_ge (tgt := 112) hx hb d_Vt_grow_65 (by decide) (fun c_8 => ?_) (fun c_8 => ?_)
      · have h := lf_t h c_8
        refine lv_iload hx hb d_Vt_grow_112 (lv_at hl 3 rfl) ?_
        refine lv_iload_n hx hb d_Vt_grow_114 rfl (lv_at hl 1 rfl) ?_
        refine lv_iadd hx hb d_Vt_grow_115 ?_
        exact lf_xo h
      · have h := lf_f h c_8
        refine lv_aload_n hx hb d_Vt_grow_68 rfl (lv_at hl 0 rfl) ?_
        refine va_get (D := (dC, dI)) (ci := 11) (v := .ref M.o_Ed) (C := R_Vt) (T := F_Vt) (N := 16) hx hb hts (fun w h => u_Vq_Vt w (i_Vt w h)) hown hK hP 0 rfl rfl 5 (by decide) (hts _ (u_Vq_Vt _ k_Vt_34)) (fun _ h9 => h9) rfl d_Vt_grow_69 ?_
        refine lv_iload hx hb d_Vt_grow_72 (lv_at hl 4 rfl) ?_
        refine lv_iload hx hb d_Vt_grow_74 (lv_at hl 3 rfl) ?_
        refine lv_iload hx hb d_Vt_grow_76 (lv_at hl 5 rfl) ?_
        refine lv_iadd hx hb d_Vt_grow_78 ?_
        obtain ⟨r_9, S_9, hc_9, h⟩ := lf_cE h
        have hFc := lx_free hD hS hA
        refine va_calli (va_runV (As := [.int y_6, .int (y_5 + y_7)]) (rest := []) ⟨hx, hb, hml, hown, hts⟩ (l_Ed_placeBehind l dC dI X _ hc_9) (cwV 2 hts (gwV good_Vq (u_Vq_Vt _ k_Vt_188) (u_Vq_Ed _ k_Ed_116) (u_Vq_Ed _ k_Ed_117) (u_Vq_Ed _ k_Ed_0) (wcs (u_Vq_Ed _ k_Ed_118) (fun _ h => h))) rfl rfl rfl (by decide +kernel) ⟨Nat.le_of_ble_eq_true rfl, Nat.le_of_ble_eq_true rfl⟩) (pv_ofE (X.same _) (fun U z1 z2 => X.mono _ _ U hFc (hEw _ _ hS U z1 z2)) hP hK hD (va_recv hK hP (ci := 8) (q0 := 6) rfl rfl)) rfl rfl hl.1 rfl (lv_room (Nat.le_of_ble_eq_true rfl)) d_Vt_grow_79 ⟨ly_c0 mF.1, ly_c0 mF.2⟩) hS (fun q _ h => hFc q h) hFc (fun r_ u t H locs ht hvm hw hB hz1 hk1 hS => ?_)
        rw [hw]
        obtain ⟨hP, -, hD⟩ := hB
        rw [ht] at hP
        have hD := lx_dj hD hFc
        refine lv_istore (lv' := [(6, .int r_9), (0, .ref M.o_Vt), (2, .int y_2), (3, .int y_3), (5, .int y_5), (7, .int y_7)]) hx hb d_Vt_grow_82 hl (by decide) rfl (fun ls hl => ?_)
        refine lv_aload_n hx hb d_Vt_grow_84 rfl (lv_at hl 1 rfl) ?_
        refine va_get (D := (dC, dI)) (ci := 11) (v := .ref M.o_Dk) (C := R_Vt) (T := F_Vt) (N := 16) hx hb hts (fun w h => u_Vq_Vt w (i_Vt w h)) hown hK hP 0 rfl rfl 0 (by decide) (hts _ (u_Vq_Vt _ k_Vt_29)) (fun _ h9 => h9) rfl d_Vt_grow_85 ?_
        refine lv_iload hx hb d_Vt_grow_88 (lv_at hl 0 rfl) ?_
        refine lv_iload_n hx hb d_Vt_grow_90 rfl (lv_at hl 3 rfl) ?_
        refine lv_iload hx hb d_Vt_grow_91 (lv_at hl 5 rfl) ?_
        refine lv_iload hx hb d_Vt_grow_93 (lv_at hl 5 rfl) ?_
        refine lv_imul hx hb d_Vt_grow_95 ?_
        refine lv_iadd hx hb d_Vt_grow_96 ?_
        refine lv_iload hx hb d_Vt_grow_97 (lv_at hl 5 rfl) ?_
        refine lv_bipush (v := 8) hx hb d_Vt_grow_99 (by decide) ?_
        refine lv_ishr hx hb d_Vt_grow_101 ?_
        refine lv_iadd hx hb d_Vt_grow_102 ?_
        obtain ⟨S_10, hc_10, h⟩ := lf_bE h
        have hFc := lx_free hD hS hA
        refine va_callv (va_runV (As := [.int r_9, .int ((y_3 + (y_7 * y_7)) + (y_7 >>> ((8 : Int32) &&& 31)))]) (rest := []) ⟨hx, hb, hml, hown, hts⟩ (l_Dk_putOne l dC dI X _ hc_10) (cwV 2 hts (gwV good_Vq (u_Vq_Vt _ k_Vt_61) (u_Vq_Dk _ k_Dk_11) (u_Vq_Dk _ k_Dk_12) (u_Vq_Dk _ k_Dk_0) (wcs (u_Vq_Dk _ k_Dk_13) (fun _ h => h))) rfl rfl rfl (by decide +kernel) ⟨Nat.le_of_ble_eq_true rfl, Nat.le_of_ble_eq_true rfl⟩) (pv_ofE (X.same _) (fun U z1 z2 => X.mono _ _ U hFc (hEw _ _ hS U z1 z2)) hP hK hD (va_recv hK hP (ci := 0) (q0 := 1) rfl rfl)) rfl rfl hl.1 rfl (lv_room (Nat.le_of_ble_eq_true rfl)) d_Vt_grow_103 ⟨ly_c0 mF.1, ly_c0 mF.2⟩) hS (fun q _ h => hFc q h) hFc (fun u t H locs ht hvm hw hB hz1 hk1 hS => ?_)
        obtain ⟨hP, -, hD⟩ := hB
        rw [ht] at hP
        have hD := lx_dj hD hFc
        obtain ⟨x_11, ex_11, h⟩ := lf_lX h
        refine lv_iinc (v := x_11) (lv' := [(7, .int x_11), (6, .int r_9), (0, .ref M.o_Vt), (2, .int y_2), (3, .int y_3), (5, .int y_5)]) hx hb d_Vt_grow_106 hl (k := 5) rfl (by rw [ex_11]; rfl) (by decide) rfl (fun ls hl => ?_)
        refine lv_goto (tgt := 62) hx hb d_Vt_grow_109 (by decide) ?_
        exact hr_62 y_2 y_3 y_5 r_9 x_11 Y G S_10 _ _ _ h m0 hP hD hS (lv_sub hl [2, 3, 4, 5, 1, 0] rfl)
  have hB_44 : ∀ (y_2 : Int32) (y_3 : Int32) (z_0 : Int32) (Y : CT) (G : CG) (S : CS) (H : Heap) (locs : List Loc) (ls : Array Slot), f_Vt_grow_44 K y_2 y_3 z_0 G S = some (.error 2, G', S') → CG.le G0 G → va_P (dC, dI) classes (wV M Y G S) H → va_D A (wV M Y G S) → va_S A s.heap H locs → lv_has ls 8 [(0, .ref M.o_Vt), (2, .int y_2), (3, .int y_3)] → W p l e ({ frames := 8, cells := G'.gc - G0.gc, slots := G'.gs - G0.gs, locals := 224 }) s m ([.ref M.o_Vt, .int p0, .int p1, .int p2] : List Value).toArray below meth c H locs (G.gc - G0.gc) (G.gs - G0.gs) Q (F0 m 44 ls [.int z_0]) := by
    intro y_2 y_3 z_0 Y G S H locs ls h m0 hP hD hS hl
    have mF := mo_Vt_grow_44 h
    rw [f_Vt_grow_44] at h
    refine lv_istore (lv' := [(5, .int z_0), (0, .ref M.o_Vt), (2, .int y_2), (3, .int y_3)]) hx hb d_Vt_grow_44 hl (by decide) rfl (fun ls hl => ?_)
    refine lv_aload_n hx hb d_Vt_grow_46 rfl (lv_at hl 1 rfl) ?_
    refine va_get (D := (dC, dI)) (ci := 11) (v := .ref M.o_Ed) (C := R_Vt) (T := F_Vt) (N := 16) hx hb hts (fun w h => u_Vq_Vt w (i_Vt w h)) hown hK hP 0 rfl rfl 5 (by decide) (hts _ (u_Vq_Vt _ k_Vt_34)) (fun _ h9 => h9) rfl d_Vt_grow_47 ?_
    refine lv_iload hx hb d_Vt_grow_50 (lv_at hl 0 rfl) ?_
    refine lv_iconst (v := 1) hx hb d_Vt_grow_52 (by decide) ?_
    refine lv_isub hx hb d_Vt_grow_53 ?_
    obtain ⟨r_7, S_7, hc_7, h⟩ := lf_cE h
    have hFc := lx_free hD hS hA
    refine va_calli (va_runV (As := [.int (z_0 - 1)]) (rest := []) ⟨hx, hb, hml, hown, hts⟩ (l_Ed_placeOnRoad l dC dI X _ hc_7) (cwV 1 hts (gwV good_Vq (u_Vq_Vt _ k_Vt_187) (u_Vq_Ed _ k_Ed_33) (u_Vq_Ed _ k_Ed_34) (u_Vq_Ed _ k_Ed_0) (wcs (u_Vq_Ed _ k_Ed_35) (fun _ h => h))) rfl rfl rfl (by decide +kernel) ⟨Nat.le_of_ble_eq_true rfl, Nat.le_of_ble_eq_true rfl⟩) (pv_ofE (X.same _) (fun U z1 z2 => X.mono _ _ U hFc (hEw _ _ hS U z1 z2)) hP hK hD (va_recv hK hP (ci := 8) (q0 := 6) rfl rfl)) rfl rfl hl.1 rfl (lv_room (Nat.le_of_ble_eq_true rfl)) d_Vt_grow_54 ⟨ly_c0 mF.1, ly_c0 mF.2⟩) hS (fun q _ h => hFc q h) hFc (fun r_ u t H locs ht hvm hw hB hz1 hk1 hS => ?_)
    rw [hw]
    obtain ⟨hP, -, hD⟩ := hB
    rw [ht] at hP
    have hD := lx_dj hD hFc
    refine lv_istore (lv' := [(6, .int r_7), (5, .int z_0), (0, .ref M.o_Vt), (2, .int y_2), (3, .int y_3)]) hx hb d_Vt_grow_57 hl (by decide) rfl (fun ls hl => ?_)
    refine lv_iconst (v := 0) hx hb d_Vt_grow_59 (by decide) ?_
    refine lv_istore (lv' := [(7, .int 0), (6, .int r_7), (5, .int z_0), (0, .ref M.o_Vt), (2, .int y_2), (3, .int y_3)]) hx hb d_Vt_grow_60 hl (by decide) rfl (fun ls hl => ?_)
    exact hB_62 K y_2 y_3 z_0 r_7 0 Y G S_7 _ _ _ h m0 hP hD hS (lv_sub hl [3, 4, 5, 2, 1, 0] rfl)
  have hB_13 : ∀ (y_2 : Int32) (y_3 : Int32) (z_0 : Int32) (Y : CT) (G : CG) (S : CS) (H : Heap) (locs : List Loc) (ls : Array Slot), f_Vt_grow_13 K y_2 y_3 z_0 G S = some (.error 2, G', S') → CG.le G0 G → va_P (dC, dI) classes (wV M Y G S) H → va_D A (wV M Y G S) → va_S A s.heap H locs → lv_has ls 8 [(0, .ref M.o_Vt), (2, .int y_2), (3, .int y_3)] → W p l e ({ frames := 8, cells := G'.gc - G0.gc, slots := G'.gs - G0.gs, locals := 224 }) s m ([.ref M.o_Vt, .int p0, .int p1, .int p2] : List Value).toArray below meth c H locs (G.gc - G0.gc) (G.gs - G0.gs) Q (F0 m 13 ls [.int z_0]) := by
    intro y_2 y_3 z_0 Y G S H locs ls h m0 hP hD hS hl
    have mF := mo_Vt_grow_13 h
    rw [f_Vt_grow_13] at h
    refine lv_istore (lv' := [(4, .int z_0), (0, .ref M.o_Vt), (2, .int y_2), (3, .int y_3)]) hx hb d_Vt_grow_13 hl (by decide) rfl (fun ls hl => ?_)
    refine lv_iload_n hx hb d_Vt_grow_15 rfl (lv_at hl 2 rfl) ?_
    refine lv_if_lt (tgt := 26) hx hb d_Vt_grow_16 (by decide) (fun c_4 => ?_) (fun c_4 => ?_)
    · have h := lf_t h c_4
      exact hB_26 Y G S _ _ _ h m0 hP hD hS (lv_sub hl [] rfl)
    · have h := lf_f h c_4
      refine lv_iload_n hx hb d_Vt_grow_19 rfl (lv_at hl 2 rfl) ?_
      refine lv_ldcw (v := 400000) hx hb hown (hts _ (u_Vq_Vt _ k_Vt_193)) d_Vt_grow_20 ?_
      refine lv_icmp_le (tgt := 37) hx hb d_Vt_grow_23 (by decide) (fun c_5 => ?_) (fun c_5 => ?_)
      · have h := lf_t h c_5
        refine lv_aload_n hx hb d_Vt_grow_37 rfl (lv_at hl 1 rfl) ?_
        refine lv_iload hx hb d_Vt_grow_38 (lv_at hl 0 rfl) ?_
        refine lv_iload_n hx hb d_Vt_grow_40 rfl (lv_at hl 2 rfl) ?_
        rcases lf_aT h with ⟨r_6, G_6, S_6, hc_6, h⟩ | h9
        · have mc := mo_Vt_lengthen hc_6
          have ml_6 := mo_Vt_lengthen hc_6
          have mF1 := mo_Vt_grow_44 h
          have hFc := lx_free hD hS hA
          refine va_calli (va_runV (As := [.int z_0, .int y_2]) (rest := []) ⟨hx, hb, hml, hown, hts⟩ (l_Vt_lengthen l dC dI X _ hc_6) (cwV 2 hts (gwV good_Vq (u_Vq_Vt _ k_Vt_182) (u_Vq_Vt _ k_Vt_183) (u_Vq_Vt _ k_Vt_220) (u_Vq_Vt _ k_Vt_0) (wcs (u_Vq_Vt _ k_Vt_184) (fun _ h => h))) rfl rfl rfl (by decide +kernel) ⟨Nat.le_of_ble_eq_true rfl, Nat.le_of_ble_eq_true rfl⟩) (pv_ofE (X.same _) (fun U z1 z2 => X.mono _ _ U hFc (hEw _ _ hS U z1 z2)) hP hK hD (va_recv hK hP (ci := 11) (q0 := 0) rfl rfl)) rfl rfl hl.1 rfl (lv_room (Nat.le_of_ble_eq_true rfl)) d_Vt_grow_41 ⟨ly_c1 m0.1 mc.1 mF1.1, ly_c1 m0.2 mc.2 mF1.2⟩) hS (fun q _ h => hFc q h) hFc (fun r_ Y_6 t H locs ht hvm hw hB hz1 hk1 hS => ?_)
          rw [hw]
          obtain ⟨hP, -, hD⟩ := hB
          rw [ht] at hP
          have hD := lx_dj hD hFc
          refine W.widen (k := G_6.gc - G0.gc) (n := G_6.gs - G0.gs) (ly_c2 m0.1 mc.1) (ly_c2 m0.2 mc.2) ?_
          have m0 := CG.le_tr m0 mc
          exact hB_44 y_2 y_3 r_6 Y_6 G_6 S_6 _ _ _ h m0 hP hD hS (lv_sub hl [1, 2, 3] rfl)
        · exact absurd (th_Vt_lengthen h9) (by decide)
      · have h := lf_f h c_5
        exact hB_26 Y G S _ _ _ h m0 hP hD hS (lv_sub hl [] rfl)
  have hB_8 : ∀ (y_1 : Int32) (y_2 : Int32) (y_3 : Int32) (Y : CT) (G : CG) (S : CS) (H : Heap) (locs : List Loc) (ls : Array Slot), f_Vt_grow_8 K y_1 y_2 y_3 G S = some (.error 2, G', S') → CG.le G0 G → va_P (dC, dI) classes (wV M Y G S) H → va_D A (wV M Y G S) → va_S A s.heap H locs → lv_has ls 8 [(0, .ref M.o_Vt), (1, .int y_1), (2, .int y_2), (3, .int y_3)] → W p l e ({ frames := 8, cells := G'.gc - G0.gc, slots := G'.gs - G0.gs, locals := 224 }) s m ([.ref M.o_Vt, .int p0, .int p1, .int p2] : List Value).toArray below meth c H locs (G.gc - G0.gc) (G.gs - G0.gs) Q (F0 m 8 ls []) := by
    intro y_1 y_2 y_3 Y G S H locs ls h m0 hP hD hS hl
    have mF := mo_Vt_grow_8 h
    rw [f_Vt_grow_8] at h
    refine lv_aload_n hx hb d_Vt_grow_8 rfl (lv_at hl 0 rfl) ?_
    refine lv_iload_n hx hb d_Vt_grow_9 rfl (lv_at hl 1 rfl) ?_
    rcases lf_aT h with ⟨r_3, G_3, S_3, hc_3, h⟩ | h9
    · have mc := mo_Vt_fileHere hc_3
      have ml_3 := mo_Vt_fileHere hc_3
      have mF1 := mo_Vt_grow_13 h
      have hFc := lx_free hD hS hA
      refine va_calli (va_runV (As := [.int y_1]) (rest := []) ⟨hx, hb, hml, hown, hts⟩ (l_Vt_fileHere l dC dI X _ hc_3) (cwV 1 hts (gwV good_Vq (u_Vq_Vt _ k_Vt_179) (u_Vq_Vt _ k_Vt_180) (u_Vq_Vt _ k_Vt_219) (u_Vq_Vt _ k_Vt_0) (wcs (u_Vq_Vt _ k_Vt_181) (fun _ h => h))) rfl rfl rfl (by decide +kernel) ⟨Nat.le_of_ble_eq_true rfl, Nat.le_of_ble_eq_true rfl⟩) (pv_ofE (X.same _) (fun U z1 z2 => X.mono _ _ U hFc (hEw _ _ hS U z1 z2)) hP hK hD (va_recv hK hP (ci := 11) (q0 := 0) rfl rfl)) rfl rfl hl.1 rfl (lv_room (Nat.le_of_ble_eq_true rfl)) d_Vt_grow_10 ⟨ly_c1 m0.1 mc.1 mF1.1, ly_c1 m0.2 mc.2 mF1.2⟩) hS (fun q _ h => hFc q h) hFc (fun r_ Y_3 t H locs ht hvm hw hB hz1 hk1 hS => ?_)
      rw [hw]
      obtain ⟨hP, -, hD⟩ := hB
      rw [ht] at hP
      have hD := lx_dj hD hFc
      refine W.widen (k := G_3.gc - G0.gc) (n := G_3.gs - G0.gs) (ly_c2 m0.1 mc.1) (ly_c2 m0.2 mc.2) ?_
      have m0 := CG.le_tr m0 mc
      exact hB_13 y_2 y_3 r_3 Y_3 G_3 S_3 _ _ _ h m0 hP hD hS (lv_sub hl [0, 2, 3] rfl)
    · have mc := mo_Vt_fileHere h9
      have hFc := lx_free hD hS hA
      rw [hQ]
      exact x_outV (n := 1) (As := [.int y_1]) (rest := []) (b := M.o_Vt) (st0 := [.int y_1, .ref M.o_Vt]) ⟨hx, hb, hml, hown, hts⟩ (lt_Vt_fileHere_2 l hfl dC dI X _ h9) (cwV 1 hts (gwV good_Vq (u_Vq_Vt _ k_Vt_179) (u_Vq_Vt _ k_Vt_180) (u_Vq_Vt _ k_Vt_219) (u_Vq_Vt _ k_Vt_0) (wcs (u_Vq_Vt _ k_Vt_181) (fun _ h => h))) rfl rfl rfl (by decide +kernel) ⟨Nat.le_of_ble_eq_true rfl, Nat.le_of_ble_eq_true rfl⟩) (pv_ofE (X.same _) (fun U z1 z2 => X.mono _ _ U hFc (hEw _ _ hS U z1 z2)) hP hK hD (va_recv hK hP (ci := 11) (q0 := 0) rfl rfl)) rfl hl.1 rfl (Nat.le_of_ble_eq_true rfl) d_Vt_grow_10 ⟨ly_c2 m0.1 mc.1, ly_c2 m0.2 mc.2⟩ hlocks hout ⟨ly_c2 m0.1 mc.1, ly_c2 m0.2 mc.2⟩ (fun E st t U z1 z2 z3 z4 z5 => ly_outQ hS hK hFc z1 z3 z4 z5) ⟨hS.2.2, fun z h => hFc z h⟩
  have hB_5 : ∀ (y_1 : Int32) (y_2 : Int32) (y_3 : Int32) (z_1 : Int32) (Y : CT) (G : CG) (S : CS) (H : Heap) (locs : List Loc) (ls : Array Slot), f_Vt_grow_5 K y_1 y_2 y_3 z_1 G S = some (.error 2, G', S') → CG.le G0 G → va_P (dC, dI) classes (wV M Y G S) H → va_D A (wV M Y G S) → va_S A s.heap H locs → lv_has ls 8 [(0, .ref M.o_Vt), (1, .int y_1), (2, .int y_2), (3, .int y_3)] → W p l e ({ frames := 8, cells := G'.gc - G0.gc, slots := G'.gs - G0.gs, locals := 224 }) s m ([.ref M.o_Vt, .int p0, .int p1, .int p2] : List Value).toArray below meth c H locs (G.gc - G0.gc) (G.gs - G0.gs) Q (F0 m 5 ls [.int z_1, .ref M.o_Vt]) := by
    intro y_1 y_2 y_3 z_1 Y G S H locs ls h m0 hP hD hS hl
    have mF := mo_Vt_grow_5 h
    rw [f_Vt_grow_5] at h
    rcases lf_aT h with ⟨r_2, G_2, S_2, hc_2, h⟩ | h9
    · have mc := mo_Vt_wantSoundTable hc_2
      have ml_2 := mo_Vt_wantSoundTable hc_2
      have mF1 := mo_Vt_grow_8 h
      have hFc := lx_free hD hS hA
      refine va_callv (va_runV (As := [.int z_1]) (rest := []) ⟨hx, hb, hml, hown, hts⟩ (l_Vt_wantSoundTable l dC dI X _ hc_2) (cwV 1 hts (gwV good_Vq (u_Vq_Vt _ k_Vt_166) (u_Vq_Vt _ k_Vt_167) (u_Vq_Vt _ k_Vt_216) (u_Vq_Vt _ k_Vt_0) (wcs (u_Vq_Vt _ k_Vt_168) (fun _ h => h))) rfl rfl rfl (by decide +kernel) ⟨Nat.le_of_ble_eq_true rfl, Nat.le_of_ble_eq_true rfl⟩) (pv_ofE (X.same _) (fun U z1 z2 => X.mono _ _ U hFc (hEw _ _ hS U z1 z2)) hP hK hD (va_recv hK hP (ci := 11) (q0 := 0) rfl rfl)) rfl rfl hl.1 rfl (lv_room (Nat.le_of_ble_eq_true rfl)) d_Vt_grow_5 ⟨ly_c1 m0.1 mc.1 mF1.1, ly_c1 m0.2 mc.2 mF1.2⟩) hS (fun q _ h => hFc q h) hFc (fun Y_2 t H locs ht hvm hw hB hz1 hk1 hS => ?_)
      obtain ⟨hP, -, hD⟩ := hB
      rw [ht] at hP
      have hD := lx_dj hD hFc
      refine W.widen (k := G_2.gc - G0.gc) (n := G_2.gs - G0.gs) (ly_c2 m0.1 mc.1) (ly_c2 m0.2 mc.2) ?_
      have m0 := CG.le_tr m0 mc
      exact hB_8 y_1 y_2 y_3 Y_2 G_2 S_2 _ _ _ h m0 hP hD hS (lv_sub hl [0, 1, 2, 3] rfl)
    · exact absurd (th_Vt_wantSoundTable h9) (by decide)
  have m0 : CG.le G0 G0 := ⟨Nat.le_refl _, Nat.le_refl _⟩
  have mF := mo_Vt_grow h
  refine W.widen (k := G0.gc - G0.gc) (n := G0.gs - G0.gs) (Nat.zero_le _) (Nat.zero_le _) ?_
  rw [f_Vt_grow] at h
  refine lv_aload_n hx hb d_Vt_grow_0 rfl (lv_at hl 0 rfl) ?_
  refine lv_aload_n hx hb d_Vt_grow_1 rfl (lv_at hl 0 rfl) ?_
  obtain ⟨r_1, G_1, S_1, hc_1, h⟩ := lf_nE h
  have mc := mo_Vt_look hc_1
  have ml_1 := mo_Vt_look hc_1
  have mF1 := mo_Vt_grow_5 h
  have hFc := lx_free hD hS hA
  refine va_calli (va_runV (As := []) (rest := [.ref M.o_Vt]) ⟨hx, hb, hml, hown, hts⟩ (l_Vt_look l dC dI X _ hc_1) (cwV 0 hts (gwV good_Vq (u_Vq_Vt _ k_Vt_68) (u_Vq_Vt _ k_Vt_69) (u_Vq_Vt _ k_Vt_214) (u_Vq_Vt _ k_Vt_0) (wcs (u_Vq_Vt _ k_Vt_70) (fun _ h => h))) rfl rfl rfl (by decide +kernel) ⟨Nat.le_of_ble_eq_true rfl, Nat.le_of_ble_eq_true rfl⟩) (pv_ofE (X.same _) (fun U z1 z2 => X.mono _ _ U hFc (hEw _ _ hS U z1 z2)) hP hK hD (va_recv hK hP (ci := 11) (q0 := 0) rfl rfl)) rfl rfl hl.1 rfl (lv_room (Nat.le_of_ble_eq_true rfl)) d_Vt_grow_2 ⟨ly_c1 m0.1 mc.1 mF1.1, ly_c1 m0.2 mc.2 mF1.2⟩) hS (fun q _ h => hFc q h) hFc (fun r_ Y_1 t H locs ht hvm hw hB hz1 hk1 hS => ?_)
  rw [hw]
  obtain ⟨hP, -, hD⟩ := hB
  rw [ht] at hP
  have hD := lx_dj hD hFc
  refine W.widen (k := G_1.gc - G0.gc) (n := G_1.gs - G0.gs) (ly_c2 m0.1 mc.1) (ly_c2 m0.2 mc.2) ?_
  have m0 := CG.le_tr m0 mc
  exact hB_5 p0 p1 p2 r_1 Y_1 G_1 S_1 _ _ _ h m0 hP hD hS (lv_sub hl [0, 1, 2, 3] rfl)
set_option maxHeartbeats 4000000 in
set_option maxRecDepth 100000 in
theorem lt_Vt_grow_3 (l : Launch) (hfl : l.flags = pinnedFlags ++ [noTraceFlag]) (dC : Nat → ClassId) (dI : Nat → Nat → Nat) {K : Nat} {M : CA} {E : (Nat → Prop) → State → Prop} (X : ly_X l dC dI K M E) (sz : Nat) {Y : CT} {G0 G' : CG} {S S' : CS} {p0 : Int32} {p1 : Int32} {p2 : Int32} (h : f_Vt_grow K G0 S p0 p1 p2 = some (.error 3, G', S')) : MetX l y_Vt_grow (.code y_Vt_grow cb_Vt_grow 8 (some .int) :: V_Vq) ({ frames := 8, cells := G'.gc - G0.gc, slots := G'.gs - G0.gs, locals := 224 }) (va_Pc [.ref M.o_Vt, .int p0, .int p1, .int p2] (fun U => U.heap.size = sz ∧ at_ (dC, dI) (fun _ => True) (wV M Y G0 S) (tV M) U ∧ E (va_A (wV M Y G0 S) sz) U)) (fun _ _ _ _ => False) (x_Q "java/lang/UnsupportedOperationException" (va_A (wV M Y G0 S) sz) (fun t => ∃ u : CT, at_ (dC, dI) (va_A (wV M Y G0 S) sz) (wV M u G' S') (tV M) t)) (G'.gc - G0.gc) (G'.gs - G0.gs) (va_A (wV M Y G0 S) sz) := by
  refine MetX.ofW (cc := cb_Vt_grow) (maxL := 8) (ret := (some .int)) (by decide) rfl ?_
  intro p e s m args below meth c s₁ B hml hv
  obtain ⟨rfl, hsz, ⟨hP, hK, hD0⟩, hE⟩ := hv
  have hx := B.exec
  have hb := B.bytes
  have hr := B.returns
  have hts0 := atoms_spec (ws := .code y_Vt_grow cb_Vt_grow 8 (some .int) :: V_Vq) B.pre
  have hts : ∀ w ∈ V_Vq, w.before ([.ref M.o_Vt, .int p0, .int p1, .int p2] : List Value).toArray s = true := fun w h => hts0 w (List.mem_cons_of_mem _ h)
  have hown : s.vm.findClass R_Vt = some m.cls := findClass_of_methodNamed B.named
  have hlocks := B.notSynchronized
  have hout := x_table B (hts0 _ List.mem_cons_self)
  subst hsz
  have hD := hD0.self (sz := s.heap.size)
  generalize hAe : va_A (wV M Y G0 S) s.heap.size = A at hD hE ⊢
  have hA : ∀ q : Nat, s.heap.size ≤ q → A q := fun q h => by rw [← hAe]; exact Or.inr h
  have hS : va_S A s.heap s.heap [] := va_S.rf
  have hP : va_P (dC, dI) classes (wV M Y G0 S) s.heap := hP
  have hK : va_K (dC, dI) classes (tV M) s := hK
  have hEw : ∀ (H : Heap) (locs : List Loc), va_S A s.heap H locs → ∀ U : State, U.heap = H → s.WarmedH U.vm → E A U := fun H locs hS U hU hW => X.kept A s U H locs hE hS hU hW
  have hl := lv_entry ([.ref M.o_Vt, .int p0, .int p1, .int p2]) (n := 8) (Nat.le_of_ble_eq_true rfl)
  rw [lg_entry_eq]
  generalize (lg_sl ([.ref M.o_Vt, .int p0, .int p1, .int p2]) ++ List.replicate (8 - (lg_sl ([.ref M.o_Vt, .int p0, .int p1, .int p2])).length) Slot.unset).toArray = ls at hl ⊢
  have hl : lv_has ls 8 [(0, .ref M.o_Vt), (1, .int p0), (2, .int p1), (3, .int p2)] := hl
  refine qabs (fun Q hQ => ?_)
  have hB_26 : ∀ (Y : CT) (G : CG) (S : CS) (H : Heap) (locs : List Loc) (ls : Array Slot), f_Vt_grow_26 K G S = some (.error 3, G', S') → CG.le G0 G → va_P (dC, dI) classes (wV M Y G S) H → va_D A (wV M Y G S) → va_S A s.heap H locs → lv_has ls 8 [] → W p l e ({ frames := 8, cells := G'.gc - G0.gc, slots := G'.gs - G0.gs, locals := 224 }) s m ([.ref M.o_Vt, .int p0, .int p1, .int p2] : List Value).toArray below meth c H locs (G.gc - G0.gc) (G.gs - G0.gs) Q (F0 m 26 ls []) := by
    intro Y G S H locs ls h m0 hP hD hS hl
    have mF := mo_Vt_grow_26 h
    rw [f_Vt_grow_26] at h
    exact lf_xk h (by decide)
  have hB_62 : ∀ (k : Nat), ∀ (y_2 : Int32) (y_3 : Int32) (y_5 : Int32) (y_6 : Int32) (y_7 : Int32) (Y : CT) (G : CG) (S : CS) (H : Heap) (locs : List Loc) (ls : Array Slot), f_Vt_grow_62 K k y_2 y_3 y_5 y_6 y_7 G S = some (.error 3, G', S') → CG.le G0 G → va_P (dC, dI) classes (wV M Y G S) H → va_D A (wV M Y G S) → va_S A s.heap H locs → lv_has ls 8 [(0, .ref M.o_Vt), (2, .int y_2), (3, .int y_3), (5, .int y_5), (6, .int y_6), (7, .int y_7)] → W p l e ({ frames := 8, cells := G'.gc - G0.gc, slots := G'.gs - G0.gs, locals := 224 }) s m ([.ref M.o_Vt, .int p0, .int p1, .int p2] : List Value).toArray below meth c H locs (G.gc - G0.gc) (G.gs - G0.gs) Q (F0 m 62 ls []) := by
    intro k
    induction k with
    | zero => intro y_2 y_3 y_5 y_6 y_7 Y G S H locs ls h; exact lf_no h
    | succ k hr_62 =>
      intro y_2 y_3 y_5 y_6 y_7 Y G S H locs ls h m0 hP hD hS hl
      have mF := mo_Vt_grow_62 (k + 1) y_2 y_3 y_5 y_6 y_7 G S h
      have hm_62 : ∀ (y_2 : Int32) (y_3 : Int32) (y_5 : Int32) (y_6 : Int32) (y_7 : Int32) (G : CG) (S : CS) {x : Except Nat Int32} {G1 : CG} {S1 : CS}, f_Vt_grow_62 K k y_2 y_3 y_5 y_6 y_7 G S = some (x, G1, S1) → CG.le G G1 := fun y_2 y_3 y_5 y_6 y_7 G S => mo_Vt_grow_62 k y_2 y_3 y_5 y_6 y_7 G S
      rw [f_Vt_grow_62] at h
      refine lv_iload hx hb d_Vt_grow_62 (lv_at hl 5 rfl) ?_
      refine lv_iload_n hx hb d_Vt_grow_64 rfl (lv_at hl 1 rfl) ?_
      refine lv_icmp_ge (tgt := 112) hx hb d_Vt_grow_65 (by decide) (fun c_8 => ?_) (fun c_8 => ?_)
      · have h := lf_t h c_8
        refine lv_iload hx hb d_Vt_grow_112 (lv_at hl 3 rfl) ?_
        refine lv_iload_n hx hb d_Vt_grow_114 rfl (lv_at hl 1 rfl) ?_
        refine lv_iadd hx hb d_Vt_grow_115 ?_
        exact lf_xo h
      · have h := lf_f h c_8
        refine lv_aload_n hx hb d_Vt_grow_68 rfl (lv_at hl 0 rfl) ?_
        refine va_get (D := (dC, dI)) (ci := 11) (v := .ref M.o_Ed) (C := R_Vt) (T := F_Vt) (N := 16) hx hb hts (fun w h => u_Vq_Vt w (i_Vt w h)) hown hK hP 0 rfl rfl 5 (by decide) (hts _ (u_Vq_Vt _ k_Vt_34)) (fun _ h9 => h9) rfl d_Vt_grow_69 ?_
        refine lv_iload hx hb d_Vt_grow_72 (lv_at hl 4 rfl) ?_
        refine lv_iload hx hb d_Vt_grow_74 (lv_at hl 3 rfl) ?_
        refine lv_iload hx hb d_Vt_grow_76 (lv_at hl 5 rfl) ?_
        refine lv_iadd hx hb d_Vt_grow_78 ?_
        obtain ⟨r_9, S_9, hc_9, h⟩ := lf_cE h
        have hFc := lx_free hD hS hA
        refine va_calli (va_runV (As := [.int y_6, .int (y_5 + y_7)]) (rest := []) ⟨hx, hb, hml, hown, hts⟩ (l_Ed_placeBehind l dC dI X _ hc_9) (cwV 2 hts (gwV good_Vq (u_Vq_Vt _ k_Vt_188) (u_Vq_Ed _ k_Ed_116) (u_Vq_Ed _ k_Ed_117) (u_Vq_Ed _ k_Ed_0) (wcs (u_Vq_Ed _ k_Ed_118) (fun _ h => h))) rfl rfl rfl (by decide +kernel) ⟨Nat.le_of_ble_eq_true rfl, Nat.le_of_ble_eq_true rfl⟩) (pv_ofE (X.same _) (fun U z1 z2 => X.mono _ _ U hFc (hEw _ _ hS U z1 z2)) hP hK hD (va_recv hK hP (ci := 8) (q0 := 6) rfl rfl)) rfl rfl hl.1 rfl (lv_room (Nat.le_of_ble_eq_true rfl)) d_Vt_grow_79 ⟨ly_c0 mF.1, ly_c0 mF.2⟩) hS (fun q _ h => hFc q h) hFc (fun r_ u t H locs ht hvm hw hB hz1 hk1 hS => ?_)
        rw [hw]
        obtain ⟨hP, -, hD⟩ := hB
        rw [ht] at hP
        have hD := lx_dj hD hFc
        refine lv_istore (lv' := [(6, .int r_9), (0, .ref M.o_Vt), (2, .int y_2), (3, .int y_3), (5, .int y_5), (7, .int y_7)]) hx hb d_Vt_grow_82 hl (by decide) rfl (fun ls hl => ?_)
        refine lv_aload_n hx hb d_Vt_grow_84 rfl (lv_at hl 1 rfl) ?_
        refine va_get (D := (dC, dI)) (ci := 11) (v := .ref M.o_Dk) (C := R_Vt) (T := F_Vt) (N := 16) hx hb hts (fun w h => u_Vq_Vt w (i_Vt w h)) hown hK hP 0 rfl rfl 0 (by decide) (hts _ (u_Vq_Vt _ k_Vt_29)) (fun _ h9 => h9) rfl d_Vt_grow_85 ?_
        refine lv_iload hx hb d_Vt_grow_88 (lv_at hl 0 rfl) ?_
        refine lv_iload_n hx hb d_Vt_grow_90 rfl (lv_at hl 3 rfl) ?_
        refine lv_iload hx hb d_Vt_grow_91 (lv_at hl 5 rfl) ?_
        refine lv_iload hx hb d_Vt_grow_93 (lv_at hl 5 rfl) ?_
        refine lv_imul hx hb d_Vt_grow_95 ?_
        refine lv_iadd hx hb d_Vt_grow_96 ?_
        refine lv_iload hx hb d_Vt_grow_97 (lv_at hl 5 rfl) ?_
        refine lv_bipush (v := 8) hx hb d_Vt_grow_99 (by decide) ?_
        refine lv_ishr hx hb d_Vt_grow_101 ?_
        refine lv_iadd hx hb d_Vt_grow_102 ?_
        obtain ⟨S_10, hc_10, h⟩ := lf_bE h
        have hFc := lx_free hD hS hA
        refine va_callv (va_runV (As := [.int r_9, .int ((y_3 + (y_7 * y_7)) + (y_7 >>> ((8 : Int32) &&& 31)))]) (rest := []) ⟨hx, hb, hml, hown, hts⟩ (l_Dk_putOne l dC dI X _ hc_10) (cwV 2 hts (gwV good_Vq (u_Vq_Vt _ k_Vt_61) (u_Vq_Dk _ k_Dk_11) (u_Vq_Dk _ k_Dk_12) (u_Vq_Dk _ k_Dk_0) (wcs (u_Vq_Dk _ k_Dk_13) (fun _ h => h))) rfl rfl rfl (by decide +kernel) ⟨Nat.le_of_ble_eq_true rfl, Nat.le_of_ble_eq_true rfl⟩) (pv_ofE (X.same _) (fun U z1 z2 => X.mono _ _ U hFc (hEw _ _ hS U z1 z2)) hP hK hD (va_recv hK hP (ci := 0) (q0 := 1) rfl rfl)) rfl rfl hl.1 rfl (lv_room (Nat.le_of_ble_eq_true rfl)) d_Vt_grow_103 ⟨ly_c0 mF.1, ly_c0 mF.2⟩) hS (fun q _ h => hFc q h) hFc (fun u t H locs ht hvm hw hB hz1 hk1 hS => ?_)
        obtain ⟨hP, -, hD⟩ := hB
        rw [ht] at hP
        have hD := lx_dj hD hFc
        obtain ⟨x_11, ex_11, h⟩ := lf_lX h
        refine lv_iinc (v := x_11) (lv' := [(7, .int x_11), (6, .int r_9), (0, .ref M.o_Vt), (2, .int y_2), (3, .int y_3), (5, .int y_5)]) hx hb d_Vt_grow_106 hl (k := 5) rfl (by rw [ex_11]; rfl) (by decide) rfl (fun ls hl => ?_)
        refine lv_goto (tgt := 62) hx hb d_Vt_grow_109 (by decide) ?_
        exact hr_62 y_2 y_3 y_5 r_9 x_11 Y G S_10 _ _ _ h m0 hP hD hS (lv_sub hl [2, 3, 4, 5, 1, 0] rfl)
  have hB_44 : ∀ (y_2 : Int32) (y_3 : Int32) (z_0 : Int32) (Y : CT) (G : CG) (S : CS) (H : Heap) (locs : List Loc) (ls : Array Slot), f_Vt_grow_44 K y_2 y_3 z_0 G S = some (.error 3, G', S') → CG.le G0 G → va_P (dC, dI) classes (wV M Y G S) H → va_D A (wV M Y G S) → va_S A s.heap H locs → lv_has ls 8 [(0, .ref M.o_Vt), (2, .int y_2), (3, .int y_3)] → W p l e ({ frames := 8, cells := G'.gc - G0.gc, slots := G'.gs - G0.gs, locals := 224 }) s m ([.ref M.o_Vt, .int p0, .int p1, .int p2] : List Value).toArray below meth c H locs (G.gc - G0.gc) (G.gs - G0.gs) Q (F0 m 44 ls [.int z_0]) := by
    intro y_2 y_3 z_0 Y G S H locs ls h m0 hP hD hS hl
    have mF := mo_Vt_grow_44 h
    rw [f_Vt_grow_44] at h
    refine lv_istore (lv' := [(5, .int z_0), (0, .ref M.o_Vt), (2, .int y_2), (3, .int y_3)]) hx hb d_Vt_grow_44 hl (by decide) rfl (fun ls hl => ?_)
    refine lv_aload_n hx hb d_Vt_grow_46 rfl (lv_at hl 1 rfl) ?_
    refine va_get (D := (dC, dI)) (ci := 11) (v := .ref M.o_Ed) (C := R_Vt) (T := F_Vt) (N := 16) hx hb hts (fun w h => u_Vq_Vt w (i_Vt w h)) hown hK hP 0 rfl rfl 5 (by decide) (hts _ (u_Vq_Vt _ k_Vt_34)) (fun _ h9 => h9) rfl d_Vt_grow_47 ?_
    refine lv_iload hx hb d_Vt_grow_50 (lv_at hl 0 rfl) ?_
    refine lv_iconst (v := 1) hx hb d_Vt_grow_52 (by decide) ?_
    refine lv_isub hx hb d_Vt_grow_53 ?_
    obtain ⟨r_7, S_7, hc_7, h⟩ := lf_cE h
    have hFc := lx_free hD hS hA
    refine va_calli (va_runV (As := [.int (z_0 - 1)]) (rest := []) ⟨hx, hb, hml, hown, hts⟩ (l_Ed_placeOnRoad l dC dI X _ hc_7) (cwV 1 hts (gwV good_Vq (u_Vq_Vt _ k_Vt_187) (u_Vq_Ed _ k_Ed_33) (u_Vq_Ed _ k_Ed_34) (u_Vq_Ed _ k_Ed_0) (wcs (u_Vq_Ed _ k_Ed_35) (fun _ h => h))) rfl rfl rfl (by decide +kernel) ⟨Nat.le_of_ble_eq_true rfl, Nat.le_of_ble_eq_true rfl⟩) (pv_ofE (X.same _) (fun U z1 z2 => X.mono _ _ U hFc (hEw _ _ hS U z1 z2)) hP hK hD (va_recv hK hP (ci := 8) (q0 := 6) rfl rfl)) rfl rfl hl.1 rfl (lv_room (Nat.le_of_ble_eq_true rfl)) d_Vt_grow_54 ⟨ly_c0 mF.1, ly_c0 mF.2⟩) hS (fun q _ h => hFc q h) hFc (fun r_ u t H locs ht hvm hw hB hz1 hk1 hS => ?_)
    rw [hw]
    obtain ⟨hP, -, hD⟩ := hB
    rw [ht] at hP
    have hD := lx_dj hD hFc
    refine lv_istore (lv' := [(6, .int r_7), (5, .int z_0), (0, .ref M.o_Vt), (2, .int y_2), (3, .int y_3)]) hx hb d_Vt_grow_57 hl (by decide) rfl (fun ls hl => ?_)
    refine lv_iconst (v := 0) hx hb d_Vt_grow_59 (by decide) ?_
    refine lv_istore (lv' := [(7, .int 0), (6, .int r_7), (5, .int z_0), (0, .ref M.o_Vt), (2, .int y_2), (3, .int y_3)]) hx hb d_Vt_grow_60 hl (by decide) rfl (fun ls hl => ?_)
    exact hB_62 K y_2 y_3 z_0 r_7 0 Y G S_7 _ _ _ h m0 hP hD hS (lv_sub hl [3, 4, 5, 2, 1, 0] rfl)
  have hB_13 : ∀ (y_2 : Int32) (y_3 : Int32) (z_0 : Int32) (Y : CT) (G : CG) (S : CS) (H : Heap) (locs : List Loc) (ls : Array Slot), f_Vt_grow_13 K y_2 y_3 z_0 G S = some (.error 3, G', S') → CG.le G0 G → va_P (dC, dI) classes (wV M Y G S) H → va_D A (wV M Y G S) → va_S A s.heap H locs → lv_has ls 8 [(0, .ref M.o_Vt), (2, .int y_2), (3, .int y_3)] → W p l e ({ frames := 8, cells := G'.gc - G0.gc, slots := G'.gs - G0.gs, locals := 224 }) s m ([.ref M.o_Vt, .int p0, .int p1, .int p2] : List Value).toArray below meth c H locs (G.gc - G0.gc) (G.gs - G0.gs) Q (F0 m 13 ls [.int z_0]) := by
    intro y_2 y_3 z_0 Y G S H locs ls h m0 hP hD hS hl
    have mF := mo_Vt_grow_13 h
    rw [f_Vt_grow_13] at h
    refine lv_istore (lv' := [(4, .int z_0), (0, .ref M.o_Vt), (2, .int y_2), (3, .int y_3)]) hx hb d_Vt_grow_13 hl (by decide) rfl (fun ls hl => ?_)
    refine lv_iload_n hx hb d_Vt_grow_15 rfl (lv_at hl 2 rfl) ?_
    refine lv_if_lt (tgt := 26) hx hb d_Vt_grow_16 (by decide) (fun c_4 => ?_) (fun c_4 => ?_)
    · have h := lf_t h c_4
      exact hB_26 Y G S _ _ _ h m0 hP hD hS (lv_sub hl [] rfl)
    · have h := lf_f h c_4
      refine lv_iload_n hx hb d_Vt_grow_19 rfl (lv_at hl 2 rfl) ?_
      refine lv_ldcw (v := 400000) hx hb hown (hts _ (u_Vq_Vt _ k_Vt_193)) d_Vt_grow_20 ?_
      refine lv_icmp_le (tgt := 37) hx hb d_Vt_grow_23 (by decide) (fun c_5 => ?_) (fun c_5 => ?_)
      · have h := lf_t h c_5
        refine lv_aload_n hx hb d_Vt_grow_37 rfl (lv_at hl 1 rfl) ?_
        refine lv_iload hx hb d_Vt_grow_38 (lv_at hl 0 rfl) ?_
        refine lv_iload_n hx hb d_Vt_grow_40 rfl (lv_at hl 2 rfl) ?_
        rcases lf_aT h with ⟨r_6, G_6, S_6, hc_6, h⟩ | h9
        · have mc := mo_Vt_lengthen hc_6
          have ml_6 := mo_Vt_lengthen hc_6
          have mF1 := mo_Vt_grow_44 h
          have hFc := lx_free hD hS hA
          refine va_calli (va_runV (As := [.int z_0, .int y_2]) (rest := []) ⟨hx, hb, hml, hown, hts⟩ (l_Vt_lengthen l dC dI X _ hc_6) (cwV 2 hts (gwV good_Vq (u_Vq_Vt _ k_Vt_182) (u_Vq_Vt _ k_Vt_183) (u_Vq_Vt _ k_Vt_220) (u_Vq_Vt _ k_Vt_0) (wcs (u_Vq_Vt _ k_Vt_184) (fun _ h => h))) rfl rfl rfl (by decide +kernel) ⟨Nat.le_of_ble_eq_true rfl, Nat.le_of_ble_eq_true rfl⟩) (pv_ofE (X.same _) (fun U z1 z2 => X.mono _ _ U hFc (hEw _ _ hS U z1 z2)) hP hK hD (va_recv hK hP (ci := 11) (q0 := 0) rfl rfl)) rfl rfl hl.1 rfl (lv_room (Nat.le_of_ble_eq_true rfl)) d_Vt_grow_41 ⟨ly_c1 m0.1 mc.1 mF1.1, ly_c1 m0.2 mc.2 mF1.2⟩) hS (fun q _ h => hFc q h) hFc (fun r_ Y_6 t H locs ht hvm hw hB hz1 hk1 hS => ?_)
          rw [hw]
          obtain ⟨hP, -, hD⟩ := hB
          rw [ht] at hP
          have hD := lx_dj hD hFc
          refine W.widen (k := G_6.gc - G0.gc) (n := G_6.gs - G0.gs) (ly_c2 m0.1 mc.1) (ly_c2 m0.2 mc.2) ?_
          have m0 := CG.le_tr m0 mc
          exact hB_44 y_2 y_3 r_6 Y_6 G_6 S_6 _ _ _ h m0 hP hD hS (lv_sub hl [1, 2, 3] rfl)
        · have mc := mo_Vt_lengthen h9
          have hFc := lx_free hD hS hA
          rw [hQ]
          exact x_outV (n := 2) (As := [.int z_0, .int y_2]) (rest := []) (b := M.o_Vt) (st0 := [.int y_2, .int z_0, .ref M.o_Vt]) ⟨hx, hb, hml, hown, hts⟩ (lt_Vt_lengthen_3 l hfl dC dI X _ h9) (cwV 2 hts (gwV good_Vq (u_Vq_Vt _ k_Vt_182) (u_Vq_Vt _ k_Vt_183) (u_Vq_Vt _ k_Vt_220) (u_Vq_Vt _ k_Vt_0) (wcs (u_Vq_Vt _ k_Vt_184) (fun _ h => h))) rfl rfl rfl (by decide +kernel) ⟨Nat.le_of_ble_eq_true rfl, Nat.le_of_ble_eq_true rfl⟩) (pv_ofE (X.same _) (fun U z1 z2 => X.mono _ _ U hFc (hEw _ _ hS U z1 z2)) hP hK hD (va_recv hK hP (ci := 11) (q0 := 0) rfl rfl)) rfl hl.1 rfl (Nat.le_of_ble_eq_true rfl) d_Vt_grow_41 ⟨ly_c2 m0.1 mc.1, ly_c2 m0.2 mc.2⟩ hlocks hout ⟨ly_c2 m0.1 mc.1, ly_c2 m0.2 mc.2⟩ (fun E st t U z1 z2 z3 z4 z5 => ly_outQ hS hK hFc z1 z3 z4 z5) ⟨hS.2.2, fun z h => hFc z h⟩
      · have h := lf_f h c_5
        exact hB_26 Y G S _ _ _ h m0 hP hD hS (lv_sub hl [] rfl)
  have hB_8 : ∀ (y_1 : Int32) (y_2 : Int32) (y_3 : Int32) (Y : CT) (G : CG) (S : CS) (H : Heap) (locs : List Loc) (ls : Array Slot), f_Vt_grow_8 K y_1 y_2 y_3 G S = some (.error 3, G', S') → CG.le G0 G → va_P (dC, dI) classes (wV M Y G S) H → va_D A (wV M Y G S) → va_S A s.heap H locs → lv_has ls 8 [(0, .ref M.o_Vt), (1, .int y_1), (2, .int y_2), (3, .int y_3)] → W p l e ({ frames := 8, cells := G'.gc - G0.gc, slots := G'.gs - G0.gs, locals := 224 }) s m ([.ref M.o_Vt, .int p0, .int p1, .int p2] : List Value).toArray below meth c H locs (G.gc - G0.gc) (G.gs - G0.gs) Q (F0 m 8 ls []) := by
    intro y_1 y_2 y_3 Y G S H locs ls h m0 hP hD hS hl
    have mF := mo_Vt_grow_8 h
    rw [f_Vt_grow_8] at h
    refine lv_aload_n hx hb d_Vt_grow_8 rfl (lv_at hl 0 rfl) ?_
    refine lv_iload_n hx hb d_Vt_grow_9 rfl (lv_at hl 1 rfl) ?_
    rcases lf_aT h with ⟨r_3, G_3, S_3, hc_3, h⟩ | h9
    · have mc := mo_Vt_fileHere hc_3
      have ml_3 := mo_Vt_fileHere hc_3
      have mF1 := mo_Vt_grow_13 h
      have hFc := lx_free hD hS hA
      refine va_calli (va_runV (As := [.int y_1]) (rest := []) ⟨hx, hb, hml, hown, hts⟩ (l_Vt_fileHere l dC dI X _ hc_3) (cwV 1 hts (gwV good_Vq (u_Vq_Vt _ k_Vt_179) (u_Vq_Vt _ k_Vt_180) (u_Vq_Vt _ k_Vt_219) (u_Vq_Vt _ k_Vt_0) (wcs (u_Vq_Vt _ k_Vt_181) (fun _ h => h))) rfl rfl rfl (by decide +kernel) ⟨Nat.le_of_ble_eq_true rfl, Nat.le_of_ble_eq_true rfl⟩) (pv_ofE (X.same _) (fun U z1 z2 => X.mono _ _ U hFc (hEw _ _ hS U z1 z2)) hP hK hD (va_recv hK hP (ci := 11) (q0 := 0) rfl rfl)) rfl rfl hl.1 rfl (lv_room (Nat.le_of_ble_eq_true rfl)) d_Vt_grow_10 ⟨ly_c1 m0.1 mc.1 mF1.1, ly_c1 m0.2 mc.2 mF1.2⟩) hS (fun q _ h => hFc q h) hFc (fun r_ Y_3 t H locs ht hvm hw hB hz1 hk1 hS => ?_)
      rw [hw]
      obtain ⟨hP, -, hD⟩ := hB
      rw [ht] at hP
      have hD := lx_dj hD hFc
      refine W.widen (k := G_3.gc - G0.gc) (n := G_3.gs - G0.gs) (ly_c2 m0.1 mc.1) (ly_c2 m0.2 mc.2) ?_
      have m0 := CG.le_tr m0 mc
      exact hB_13 y_2 y_3 r_3 Y_3 G_3 S_3 _ _ _ h m0 hP hD hS (lv_sub hl [0, 2, 3] rfl)
    · exact absurd (th_Vt_fileHere h9) (by decide)
  have hB_5 : ∀ (y_1 : Int32) (y_2 : Int32) (y_3 : Int32) (z_1 : Int32) (Y : CT) (G : CG) (S : CS) (H : Heap) (locs : List Loc) (ls : Array Slot), f_Vt_grow_5 K y_1 y_2 y_3 z_1 G S = some (.error 3, G', S') → CG.le G0 G → va_P (dC, dI) classes (wV M Y G S) H → va_D A (wV M Y G S) → va_S A s.heap H locs → lv_has ls 8 [(0, .ref M.o_Vt), (1, .int y_1), (2, .int y_2), (3, .int y_3)] → W p l e ({ frames := 8, cells := G'.gc - G0.gc, slots := G'.gs - G0.gs, locals := 224 }) s m ([.ref M.o_Vt, .int p0, .int p1, .int p2] : List Value).toArray below meth c H locs (G.gc - G0.gc) (G.gs - G0.gs) Q (F0 m 5 ls [.int z_1, .ref M.o_Vt]) := by
    intro y_1 y_2 y_3 z_1 Y G S H locs ls h m0 hP hD hS hl
    have mF := mo_Vt_grow_5 h
    rw [f_Vt_grow_5] at h
    rcases lf_aT h with ⟨r_2, G_2, S_2, hc_2, h⟩ | h9
    · have mc := mo_Vt_wantSoundTable hc_2
      have ml_2 := mo_Vt_wantSoundTable hc_2
      have mF1 := mo_Vt_grow_8 h
      have hFc := lx_free hD hS hA
      refine va_callv (va_runV (As := [.int z_1]) (rest := []) ⟨hx, hb, hml, hown, hts⟩ (l_Vt_wantSoundTable l dC dI X _ hc_2) (cwV 1 hts (gwV good_Vq (u_Vq_Vt _ k_Vt_166) (u_Vq_Vt _ k_Vt_167) (u_Vq_Vt _ k_Vt_216) (u_Vq_Vt _ k_Vt_0) (wcs (u_Vq_Vt _ k_Vt_168) (fun _ h => h))) rfl rfl rfl (by decide +kernel) ⟨Nat.le_of_ble_eq_true rfl, Nat.le_of_ble_eq_true rfl⟩) (pv_ofE (X.same _) (fun U z1 z2 => X.mono _ _ U hFc (hEw _ _ hS U z1 z2)) hP hK hD (va_recv hK hP (ci := 11) (q0 := 0) rfl rfl)) rfl rfl hl.1 rfl (lv_room (Nat.le_of_ble_eq_true rfl)) d_Vt_grow_5 ⟨ly_c1 m0.1 mc.1 mF1.1, ly_c1 m0.2 mc.2 mF1.2⟩) hS (fun q _ h => hFc q h) hFc (fun Y_2 t H locs ht hvm hw hB hz1 hk1 hS => ?_)
      obtain ⟨hP, -, hD⟩ := hB
      rw [ht] at hP
      have hD := lx_dj hD hFc
      refine W.widen (k := G_2.gc - G0.gc) (n := G_2.gs - G0.gs) (ly_c2 m0.1 mc.1) (ly_c2 m0.2 mc.2) ?_
      have m0 := CG.le_tr m0 mc
      exact hB_8 y_1 y_2 y_3 Y_2 G_2 S_2 _ _ _ h m0 hP hD hS (lv_sub hl [0, 1, 2, 3] rfl)
    · exact absurd (th_Vt_wantSoundTable h9) (by decide)
  have m0 : CG.le G0 G0 := ⟨Nat.le_refl _, Nat.le_refl _⟩
  have mF := mo_Vt_grow h
  refine W.widen (k := G0.gc - G0.gc) (n := G0.gs - G0.gs) (Nat.zero_le _) (Nat.zero_le _) ?_
  rw [f_Vt_grow] at h
  refine lv_aload_n hx hb d_Vt_grow_0 rfl (lv_at hl 0 rfl) ?_
  refine lv_aload_n hx hb d_Vt_grow_1 rfl (lv_at hl 0 rfl) ?_
  obtain ⟨r_1, G_1, S_1, hc_1, h⟩ := lf_nE h
  have mc := mo_Vt_look hc_1
  have ml_1 := mo_Vt_look hc_1
  have mF1 := mo_Vt_grow_5 h
  have hFc := lx_free hD hS hA
  refine va_calli (va_runV (As := []) (rest := [.ref M.o_Vt]) ⟨hx, hb, hml, hown, hts⟩ (l_Vt_look l dC dI X _ hc_1) (cwV 0 hts (gwV good_Vq (u_Vq_Vt _ k_Vt_68) (u_Vq_Vt _ k_Vt_69) (u_Vq_Vt _ k_Vt_214) (u_Vq_Vt _ k_Vt_0) (wcs (u_Vq_Vt _ k_Vt_70) (fun _ h => h))) rfl rfl rfl (by decide +kernel) ⟨Nat.le_of_ble_eq_true rfl, Nat.le_of_ble_eq_true rfl⟩) (pv_ofE (X.same _) (fun U z1 z2 => X.mono _ _ U hFc (hEw _ _ hS U z1 z2)) hP hK hD (va_recv hK hP (ci := 11) (q0 := 0) rfl rfl)) rfl rfl hl.1 rfl (lv_room (Nat.le_of_ble_eq_true rfl)) d_Vt_grow_2 ⟨ly_c1 m0.1 mc.1 mF1.1, ly_c1 m0.2 mc.2 mF1.2⟩) hS (fun q _ h => hFc q h) hFc (fun r_ Y_1 t H locs ht hvm hw hB hz1 hk1 hS => ?_)
  rw [hw]
  obtain ⟨hP, -, hD⟩ := hB
  rw [ht] at hP
  have hD := lx_dj hD hFc
  refine W.widen (k := G_1.gc - G0.gc) (n := G_1.gs - G0.gs) (ly_c2 m0.1 mc.1) (ly_c2 m0.2 mc.2) ?_
  have m0 := CG.le_tr m0 mc
  exact hB_5 p0 p1 p2 r_1 Y_1 G_1 S_1 _ _ _ h m0 hP hD hS (lv_sub hl [0, 1, 2, 3] rfl)
set_option maxHeartbeats 4000000 in
set_option maxRecDepth 100000 in
theorem l_Vt_items (l : Launch) (dC : Nat → ClassId) (dI : Nat → Nat → Nat) {K : Nat} {M : CA} {E : (Nat → Prop) → State → Prop} (X : ly_X l dC dI K M E) (sz : Nat) {Y : CT} {G0 G' : CG} {S S' : CS} {r : Int32} (h : f_Vt_items K G0 S = some (.ok r, G', S')) : Met l y_Vt_items (.code y_Vt_items cb_Vt_items 1 (some .int) :: V_Vq) ({ frames := 8, cells := G'.gc - G0.gc, slots := G'.gs - G0.gs, locals := 224 }) (va_Pc [.ref M.o_Vt] (fun U => U.heap.size = sz ∧ at_ (dC, dI) (fun _ => True) (wV M Y G0 S) (tV M) U ∧ E (va_A (wV M Y G0 S) sz) U)) (va_Qi (fun (r_ : Int32) (u : CT) => r_ = r) (fun (u : CT) t => at_ (dC, dI) (va_A (wV M Y G0 S) sz) (wV M u G' S') (tV M) t) (va_A (wV M Y G0 S) sz)) (G'.gc - G0.gc) (G'.gs - G0.gs) (va_A (wV M Y G0 S) sz) := by
  refine Met.ofW (cc := cb_Vt_items) (maxL := 1) (ret := (some .int)) (by decide) rfl ?_
  intro p e s m args below meth c s₁ B hml hv
  obtain ⟨rfl, hsz, ⟨hP, hK, hD0⟩, hE⟩ := hv
  have hx := B.exec
  have hb := B.bytes
  have hr := B.returns
  have hts0 := atoms_spec (ws := .code y_Vt_items cb_Vt_items 1 (some .int) :: V_Vq) B.pre
  have hts : ∀ w ∈ V_Vq, w.before ([.ref M.o_Vt] : List Value).toArray s = true := fun w h => hts0 w (List.mem_cons_of_mem _ h)
  have hown : s.vm.findClass R_Vt = some m.cls := findClass_of_methodNamed B.named
  subst hsz
  have hD := hD0.self (sz := s.heap.size)
  generalize hAe : va_A (wV M Y G0 S) s.heap.size = A at hD hE ⊢
  have hA : ∀ q : Nat, s.heap.size ≤ q → A q := fun q h => by rw [← hAe]; exact Or.inr h
  have hS : va_S A s.heap s.heap [] := va_S.rf
  have hP : va_P (dC, dI) classes (wV M Y G0 S) s.heap := hP
  have hK : va_K (dC, dI) classes (tV M) s := hK
  have hEw : ∀ (H : Heap) (locs : List Loc), va_S A s.heap H locs → ∀ U : State, U.heap = H → s.WarmedH U.vm → E A U := fun H locs hS U hU hW => X.kept A s U H locs hE hS hU hW
  have hl := lv_entry ([.ref M.o_Vt]) (n := 1) (Nat.le_of_ble_eq_true rfl)
  rw [lg_entry_eq]
  generalize (lg_sl ([.ref M.o_Vt]) ++ List.replicate (1 - (lg_sl ([.ref M.o_Vt])).length) Slot.unset).toArray = ls at hl ⊢
  have hl : lv_has ls 1 [(0, .ref M.o_Vt)] := hl
  refine qabs (fun Q hQ => ?_)
  have hB_8 : ∀ (z_0 : Int32) (Y : CT) (G : CG) (S : CS) (H : Heap) (locs : List Loc) (ls : Array Slot), f_Vt_items_8 K z_0 G S = some (.ok r, G', S') → CG.le G0 G → va_P (dC, dI) classes (wV M Y G S) H → va_D A (wV M Y G S) → va_S A s.heap H locs → lv_has ls 1 [(0, .ref M.o_Vt)] → W p l e ({ frames := 8, cells := G'.gc - G0.gc, slots := G'.gs - G0.gs, locals := 224 }) s m ([.ref M.o_Vt] : List Value).toArray below meth c H locs (G.gc - G0.gc) (G.gs - G0.gs) Q (F0 m 8 ls [.int z_0]) := by
    intro z_0 Y G S H locs ls h m0 hP hD hS hl
    have mF := mo_Vt_items_8 h
    rw [f_Vt_items_8] at h
    refine lv_if_eq (tgt := 25) hx hb d_Vt_items_8 (by decide) (fun c_3 => ?_) (fun c_3 => ?_)
    · have h := lf_t h c_3
      refine lv_aload_n hx hb d_Vt_items_25 rfl (lv_at hl 0 rfl) ?_
      refine va_get (D := (dC, dI)) (ci := 11) (v := .ref M.o_Tr) (C := R_Vt) (T := F_Vt) (N := 16) hx hb hts (fun w h => u_Vq_Vt w (i_Vt w h)) hown hK hP 0 rfl rfl 3 (by decide) (hts _ (u_Vq_Vt _ k_Vt_32)) (fun _ h9 => h9) rfl d_Vt_items_26 ?_
      refine lv_aload_n hx hb d_Vt_items_29 rfl (lv_at hl 0 rfl) ?_
      refine va_get (D := (dC, dI)) (ci := 11) (v := .int S.v_Vt_here) (C := R_Vt) (T := F_Vt) (N := 16) hx hb hts (fun w h => u_Vq_Vt w (i_Vt w h)) hown hK hP 0 rfl rfl 12 (by decide) (hts _ (u_Vq_Vt _ k_Vt_41)) (fun _ h9 => h9) rfl d_Vt_items_30 ?_
      obtain ⟨r_4, S_4, hc_4, h⟩ := lf_cE h
      have hFc := lx_free hD hS hA
      refine va_calli (va_runV (As := [.int S.v_Vt_here]) (rest := []) ⟨hx, hb, hml, hown, hts⟩ (l_Tr_countIn l dC dI X _ hc_4) (cwV 1 hts (gwV good_Vq (u_Vq_Vt _ k_Vt_118) (u_Vq_Tr _ k_Tr_91) (u_Vq_Tr _ k_Tr_92) (u_Vq_Tr _ k_Tr_0) (wcs (u_Vq_Tr _ k_Tr_93) (fun _ h => h))) rfl rfl rfl (by decide +kernel) ⟨Nat.le_of_ble_eq_true rfl, Nat.le_of_ble_eq_true rfl⟩) (pv_ofE (X.same _) (fun U z1 z2 => X.mono _ _ U hFc (hEw _ _ hS U z1 z2)) hP hK hD (va_recv hK hP (ci := 5) (q0 := 4) rfl rfl)) rfl rfl hl.1 rfl (lv_room (Nat.le_of_ble_eq_true rfl)) d_Vt_items_33 ⟨ly_c0 mF.1, ly_c0 mF.2⟩) hS (fun q _ h => hFc q h) hFc (fun r_ u t H locs ht hvm hw hB hz1 hk1 hS => ?_)
      rw [hw]
      obtain ⟨hP, -, hD⟩ := hB
      rw [ht] at hP
      have hD := lx_dj hD hFc
      rw [hQ]
      have e1 : r_4 = r := Except.ok.inj (congrArg (fun z => z.1) (Option.some.inj h))
      have e2 : G = G' := congrArg (fun z => z.2.1) (Option.some.inj h)
      have e3 : S_4 = S' := congrArg (fun z => z.2.2) (Option.some.inj h)
      have hP := ly_newP3 e2.symm e3.symm hP
      have hD := ly_newD3 e2.symm e3.symm hD
      refine W.widen (k := G'.gc - G0.gc) (n := G'.gs - G0.gs) (ly_wc e2) (ly_ws e2) ?_
      exact W.iret (v := r_4) hx hb hr (fun t ht hW => ⟨⟨r_4, Y, rfl, e1, by rw [ht]; exact hP, va_K.moved hW.alike hK, hD⟩, hS.F ht⟩) hS.2.2 d_Vt_items_36
    · have h := lf_f h c_3
      refine lv_aload_n hx hb d_Vt_items_11 rfl (lv_at hl 0 rfl) ?_
      refine va_get (D := (dC, dI)) (ci := 11) (v := .ref M.o_In) (C := R_Vt) (T := F_Vt) (N := 16) hx hb hts (fun w h => u_Vq_Vt w (i_Vt w h)) hown hK hP 0 rfl rfl 8 (by decide) (hts _ (u_Vq_Vt _ k_Vt_37)) (fun _ h9 => h9) rfl d_Vt_items_12 ?_
      refine lv_aload_n hx hb d_Vt_items_15 rfl (lv_at hl 0 rfl) ?_
      refine va_get (D := (dC, dI)) (ci := 11) (v := .int S.v_Vt_here) (C := R_Vt) (T := F_Vt) (N := 16) hx hb hts (fun w h => u_Vq_Vt w (i_Vt w h)) hown hK hP 0 rfl rfl 12 (by decide) (hts _ (u_Vq_Vt _ k_Vt_41)) (fun _ h9 => h9) rfl d_Vt_items_16 ?_
      obtain ⟨r_5, S_5, hc_5, h⟩ := lf_cE h
      have hFc := lx_free hD hS hA
      refine va_calli (va_runV (As := [.int S.v_Vt_here]) (rest := []) ⟨hx, hb, hml, hown, hts⟩ (l_In_countIn l dC dI X _ hc_5) (cwV 1 hts (gwV good_Vq (u_Vq_Vt _ k_Vt_117) (u_Vq_In _ k_In_26) (u_Vq_In _ k_In_27) (u_Vq_In _ k_In_0) (wcs (u_Vq_In _ k_In_28) (fun _ h => h))) rfl rfl rfl (by decide +kernel) ⟨Nat.le_of_ble_eq_true rfl, Nat.le_of_ble_eq_true rfl⟩) (pv_ofE (X.same _) (fun U z1 z2 => X.mono _ _ U hFc (hEw _ _ hS U z1 z2)) hP hK hD (va_recv hK hP (ci := 6) (q0 := 9) rfl rfl)) rfl rfl hl.1 rfl (lv_room (Nat.le_of_ble_eq_true rfl)) d_Vt_items_19 ⟨ly_c0 mF.1, ly_c0 mF.2⟩) hS (fun q _ h => hFc q h) hFc (fun r_ u t H locs ht hvm hw hB hz1 hk1 hS => ?_)
      rw [hw]
      obtain ⟨hP, -, hD⟩ := hB
      rw [ht] at hP
      have hD := lx_dj hD hFc
      refine lv_goto (tgt := 36) hx hb d_Vt_items_22 (by decide) ?_
      rw [hQ]
      have e1 : r_5 = r := Except.ok.inj (congrArg (fun z => z.1) (Option.some.inj h))
      have e2 : G = G' := congrArg (fun z => z.2.1) (Option.some.inj h)
      have e3 : S_5 = S' := congrArg (fun z => z.2.2) (Option.some.inj h)
      have hP := ly_newP3 e2.symm e3.symm hP
      have hD := ly_newD3 e2.symm e3.symm hD
      refine W.widen (k := G'.gc - G0.gc) (n := G'.gs - G0.gs) (ly_wc e2) (ly_ws e2) ?_
      exact W.iret (v := r_5) hx hb hr (fun t ht hW => ⟨⟨r_5, Y, rfl, e1, by rw [ht]; exact hP, va_K.moved hW.alike hK, hD⟩, hS.F ht⟩) hS.2.2 d_Vt_items_36
  have hB_5 : ∀ (z_1 : Int32) (Y : CT) (G : CG) (S : CS) (H : Heap) (locs : List Loc) (ls : Array Slot), f_Vt_items_5 K z_1 G S = some (.ok r, G', S') → CG.le G0 G → va_P (dC, dI) classes (wV M Y G S) H → va_D A (wV M Y G S) → va_S A s.heap H locs → lv_has ls 1 [(0, .ref M.o_Vt)] → W p l e ({ frames := 8, cells := G'.gc - G0.gc, slots := G'.gs - G0.gs, locals := 224 }) s m ([.ref M.o_Vt] : List Value).toArray below meth c H locs (G.gc - G0.gc) (G.gs - G0.gs) Q (F0 m 5 ls [.int z_1, .ref M.o_Vt]) := by
    intro z_1 Y G S H locs ls h m0 hP hD hS hl
    have mF := mo_Vt_items_5 h
    rw [f_Vt_items_5] at h
    obtain ⟨r_2, G_2, S_2, hc_2, h⟩ := lf_aO h
    have mc := mo_Vt_readsInodes hc_2
    have ml_2 := mo_Vt_readsInodes hc_2
    have mF1 := mo_Vt_items_8 h
    have hFc := lx_free hD hS hA
    refine va_calli (va_runV (As := [.int z_1]) (rest := []) ⟨hx, hb, hml, hown, hts⟩ (l_Vt_readsInodes l dC dI X _ hc_2) (cwV 1 hts (gwV good_Vq (u_Vq_Vt _ k_Vt_111) (u_Vq_Vt _ k_Vt_112) (u_Vq_Vt _ k_Vt_215) (u_Vq_Vt _ k_Vt_0) (wcs (u_Vq_Vt _ k_Vt_113) (fun _ h => h))) rfl rfl rfl (by decide +kernel) ⟨Nat.le_of_ble_eq_true rfl, Nat.le_of_ble_eq_true rfl⟩) (pv_ofE (X.same _) (fun U z1 z2 => X.mono _ _ U hFc (hEw _ _ hS U z1 z2)) hP hK hD (va_recv hK hP (ci := 11) (q0 := 0) rfl rfl)) rfl rfl hl.1 rfl (lv_room (Nat.le_of_ble_eq_true rfl)) d_Vt_items_5 ⟨ly_c1 m0.1 mc.1 mF1.1, ly_c1 m0.2 mc.2 mF1.2⟩) hS (fun q _ h => hFc q h) hFc (fun r_ Y_2 t H locs ht hvm hw hB hz1 hk1 hS => ?_)
    rw [hw]
    obtain ⟨hP, -, hD⟩ := hB
    rw [ht] at hP
    have hD := lx_dj hD hFc
    refine W.widen (k := G_2.gc - G0.gc) (n := G_2.gs - G0.gs) (ly_c2 m0.1 mc.1) (ly_c2 m0.2 mc.2) ?_
    have m0 := CG.le_tr m0 mc
    exact hB_8 r_2 Y_2 G_2 S_2 _ _ _ h m0 hP hD hS (lv_sub hl [0] rfl)
  have m0 : CG.le G0 G0 := ⟨Nat.le_refl _, Nat.le_refl _⟩
  have mF := mo_Vt_items h
  refine W.widen (k := G0.gc - G0.gc) (n := G0.gs - G0.gs) (Nat.zero_le _) (Nat.zero_le _) ?_
  rw [f_Vt_items] at h
  refine lv_aload_n hx hb d_Vt_items_0 rfl (lv_at hl 0 rfl) ?_
  refine lv_aload_n hx hb d_Vt_items_1 rfl (lv_at hl 0 rfl) ?_
  obtain ⟨r_1, G_1, S_1, hc_1, h⟩ := lf_nE h
  have mc := mo_Vt_look hc_1
  have ml_1 := mo_Vt_look hc_1
  have mF1 := mo_Vt_items_5 h
  have hFc := lx_free hD hS hA
  refine va_calli (va_runV (As := []) (rest := [.ref M.o_Vt]) ⟨hx, hb, hml, hown, hts⟩ (l_Vt_look l dC dI X _ hc_1) (cwV 0 hts (gwV good_Vq (u_Vq_Vt _ k_Vt_68) (u_Vq_Vt _ k_Vt_69) (u_Vq_Vt _ k_Vt_214) (u_Vq_Vt _ k_Vt_0) (wcs (u_Vq_Vt _ k_Vt_70) (fun _ h => h))) rfl rfl rfl (by decide +kernel) ⟨Nat.le_of_ble_eq_true rfl, Nat.le_of_ble_eq_true rfl⟩) (pv_ofE (X.same _) (fun U z1 z2 => X.mono _ _ U hFc (hEw _ _ hS U z1 z2)) hP hK hD (va_recv hK hP (ci := 11) (q0 := 0) rfl rfl)) rfl rfl hl.1 rfl (lv_room (Nat.le_of_ble_eq_true rfl)) d_Vt_items_2 ⟨ly_c1 m0.1 mc.1 mF1.1, ly_c1 m0.2 mc.2 mF1.2⟩) hS (fun q _ h => hFc q h) hFc (fun r_ Y_1 t H locs ht hvm hw hB hz1 hk1 hS => ?_)
  rw [hw]
  obtain ⟨hP, -, hD⟩ := hB
  rw [ht] at hP
  have hD := lx_dj hD hFc
  refine W.widen (k := G_1.gc - G0.gc) (n := G_1.gs - G0.gs) (ly_c2 m0.1 mc.1) (ly_c2 m0.2 mc.2) ?_
  have m0 := CG.le_tr m0 mc
  exact hB_5 r_1 Y_1 G_1 S_1 _ _ _ h m0 hP hD hS (lv_sub hl [0] rfl)
set_option maxHeartbeats 4000000 in
set_option maxRecDepth 100000 in
theorem lt_Vt_items_1 (l : Launch) (hfl : l.flags = pinnedFlags ++ [noTraceFlag]) (dC : Nat → ClassId) (dI : Nat → Nat → Nat) {K : Nat} {M : CA} {E : (Nat → Prop) → State → Prop} (X : ly_X l dC dI K M E) (sz : Nat) {Y : CT} {G0 G' : CG} {S S' : CS} (h : f_Vt_items K G0 S = some (.error 1, G', S')) : MetX l y_Vt_items (.code y_Vt_items cb_Vt_items 1 (some .int) :: V_Vq) ({ frames := 8, cells := G'.gc - G0.gc, slots := G'.gs - G0.gs, locals := 224 }) (va_Pc [.ref M.o_Vt] (fun U => U.heap.size = sz ∧ at_ (dC, dI) (fun _ => True) (wV M Y G0 S) (tV M) U ∧ E (va_A (wV M Y G0 S) sz) U)) (fun _ _ _ _ => False) (x_Q "java/lang/IllegalStateException" (va_A (wV M Y G0 S) sz) (fun t => ∃ u : CT, at_ (dC, dI) (va_A (wV M Y G0 S) sz) (wV M u G' S') (tV M) t)) (G'.gc - G0.gc) (G'.gs - G0.gs) (va_A (wV M Y G0 S) sz) := by
  refine MetX.ofW (cc := cb_Vt_items) (maxL := 1) (ret := (some .int)) (by decide) rfl ?_
  intro p e s m args below meth c s₁ B hml hv
  obtain ⟨rfl, hsz, ⟨hP, hK, hD0⟩, hE⟩ := hv
  have hx := B.exec
  have hb := B.bytes
  have hr := B.returns
  have hts0 := atoms_spec (ws := .code y_Vt_items cb_Vt_items 1 (some .int) :: V_Vq) B.pre
  have hts : ∀ w ∈ V_Vq, w.before ([.ref M.o_Vt] : List Value).toArray s = true := fun w h => hts0 w (List.mem_cons_of_mem _ h)
  have hown : s.vm.findClass R_Vt = some m.cls := findClass_of_methodNamed B.named
  have hlocks := B.notSynchronized
  have hout := x_table B (hts0 _ List.mem_cons_self)
  subst hsz
  have hD := hD0.self (sz := s.heap.size)
  generalize hAe : va_A (wV M Y G0 S) s.heap.size = A at hD hE ⊢
  have hA : ∀ q : Nat, s.heap.size ≤ q → A q := fun q h => by rw [← hAe]; exact Or.inr h
  have hS : va_S A s.heap s.heap [] := va_S.rf
  have hP : va_P (dC, dI) classes (wV M Y G0 S) s.heap := hP
  have hK : va_K (dC, dI) classes (tV M) s := hK
  have hEw : ∀ (H : Heap) (locs : List Loc), va_S A s.heap H locs → ∀ U : State, U.heap = H → s.WarmedH U.vm → E A U := fun H locs hS U hU hW => X.kept A s U H locs hE hS hU hW
  have hl := lv_entry ([.ref M.o_Vt]) (n := 1) (Nat.le_of_ble_eq_true rfl)
  rw [lg_entry_eq]
  generalize (lg_sl ([.ref M.o_Vt]) ++ List.replicate (1 - (lg_sl ([.ref M.o_Vt])).length) Slot.unset).toArray = ls at hl ⊢
  have hl : lv_has ls 1 [(0, .ref M.o_Vt)] := hl
  refine qabs (fun Q hQ => ?_)
  have hB_8 : ∀ (z_0 : Int32) (Y : CT) (G : CG) (S : CS) (H : Heap) (locs : List Loc) (ls : Array Slot), f_Vt_items_8 K z_0 G S = some (.error 1, G', S') → CG.le G0 G → va_P (dC, dI) classes (wV M Y G S) H → va_D A (wV M Y G S) → va_S A s.heap H locs → lv_has ls 1 [(0, .ref M.o_Vt)] → W p l e ({ frames := 8, cells := G'.gc - G0.gc, slots := G'.gs - G0.gs, locals := 224 }) s m ([.ref M.o_Vt] : List Value).toArray below meth c H locs (G.gc - G0.gc) (G.gs - G0.gs) Q (F0 m 8 ls [.int z_0]) := by
    intro z_0 Y G S H locs ls h m0 hP hD hS hl
    have mF := mo_Vt_items_8 h
    rw [f_Vt_items_8] at h
    refine lv_if_eq (tgt := 25) hx hb d_Vt_items_8 (by decide) (fun c_3 => ?_) (fun c_3 => ?_)
    · have h := lf_t h c_3
      refine lv_aload_n hx hb d_Vt_items_25 rfl (lv_at hl 0 rfl) ?_
      refine va_get (D := (dC, dI)) (ci := 11) (v := .ref M.o_Tr) (C := R_Vt) (T := F_Vt) (N := 16) hx hb hts (fun w h => u_Vq_Vt w (i_Vt w h)) hown hK hP 0 rfl rfl 3 (by decide) (hts _ (u_Vq_Vt _ k_Vt_32)) (fun _ h9 => h9) rfl d_Vt_items_26 ?_
      refine lv_aload_n hx hb d_Vt_items_29 rfl (lv_at hl 0 rfl) ?_
      refine va_get (D := (dC, dI)) (ci := 11) (v := .int S.v_Vt_here) (C := R_Vt) (T := F_Vt) (N := 16) hx hb hts (fun w h => u_Vq_Vt w (i_Vt w h)) hown hK hP 0 rfl rfl 12 (by decide) (hts _ (u_Vq_Vt _ k_Vt_41)) (fun _ h9 => h9) rfl d_Vt_items_30 ?_
      obtain ⟨r_4, S_4, hc_4, h⟩ := lf_cE h
      have hFc := lx_free hD hS hA
      refine va_calli (va_runV (As := [.int S.v_Vt_here]) (rest := []) ⟨hx, hb, hml, hown, hts⟩ (l_Tr_countIn l dC dI X _ hc_4) (cwV 1 hts (gwV good_Vq (u_Vq_Vt _ k_Vt_118) (u_Vq_Tr _ k_Tr_91) (u_Vq_Tr _ k_Tr_92) (u_Vq_Tr _ k_Tr_0) (wcs (u_Vq_Tr _ k_Tr_93) (fun _ h => h))) rfl rfl rfl (by decide +kernel) ⟨Nat.le_of_ble_eq_true rfl, Nat.le_of_ble_eq_true rfl⟩) (pv_ofE (X.same _) (fun U z1 z2 => X.mono _ _ U hFc (hEw _ _ hS U z1 z2)) hP hK hD (va_recv hK hP (ci := 5) (q0 := 4) rfl rfl)) rfl rfl hl.1 rfl (lv_room (Nat.le_of_ble_eq_true rfl)) d_Vt_items_33 ⟨ly_c0 mF.1, ly_c0 mF.2⟩) hS (fun q _ h => hFc q h) hFc (fun r_ u t H locs ht hvm hw hB hz1 hk1 hS => ?_)
      rw [hw]
      obtain ⟨hP, -, hD⟩ := hB
      rw [ht] at hP
      have hD := lx_dj hD hFc
      exact lf_xo h
    · have h := lf_f h c_3
      refine lv_aload_n hx hb d_Vt_items_11 rfl (lv_at hl 0 rfl) ?_
      refine va_get (D := (dC, dI)) (ci := 11) (v := .ref M.o_In) (C := R_Vt) (T := F_Vt) (N := 16) hx hb hts (fun w h => u_Vq_Vt w (i_Vt w h)) hown hK hP 0 rfl rfl 8 (by decide) (hts _ (u_Vq_Vt _ k_Vt_37)) (fun _ h9 => h9) rfl d_Vt_items_12 ?_
      refine lv_aload_n hx hb d_Vt_items_15 rfl (lv_at hl 0 rfl) ?_
      refine va_get (D := (dC, dI)) (ci := 11) (v := .int S.v_Vt_here) (C := R_Vt) (T := F_Vt) (N := 16) hx hb hts (fun w h => u_Vq_Vt w (i_Vt w h)) hown hK hP 0 rfl rfl 12 (by decide) (hts _ (u_Vq_Vt _ k_Vt_41)) (fun _ h9 => h9) rfl d_Vt_items_16 ?_
      obtain ⟨r_5, S_5, hc_5, h⟩ := lf_cE h
      have hFc := lx_free hD hS hA
      refine va_calli (va_runV (As := [.int S.v_Vt_here]) (rest := []) ⟨hx, hb, hml, hown, hts⟩ (l_In_countIn l dC dI X _ hc_5) (cwV 1 hts (gwV good_Vq (u_Vq_Vt _ k_Vt_117) (u_Vq_In _ k_In_26) (u_Vq_In _ k_In_27) (u_Vq_In _ k_In_0) (wcs (u_Vq_In _ k_In_28) (fun _ h => h))) rfl rfl rfl (by decide +kernel) ⟨Nat.le_of_ble_eq_true rfl, Nat.le_of_ble_eq_true rfl⟩) (pv_ofE (X.same _) (fun U z1 z2 => X.mono _ _ U hFc (hEw _ _ hS U z1 z2)) hP hK hD (va_recv hK hP (ci := 6) (q0 := 9) rfl rfl)) rfl rfl hl.1 rfl (lv_room (Nat.le_of_ble_eq_true rfl)) d_Vt_items_19 ⟨ly_c0 mF.1, ly_c0 mF.2⟩) hS (fun q _ h => hFc q h) hFc (fun r_ u t H locs ht hvm hw hB hz1 hk1 hS => ?_)
      rw [hw]
      obtain ⟨hP, -, hD⟩ := hB
      rw [ht] at hP
      have hD := lx_dj hD hFc
      refine lv_goto (tgt := 36) hx hb d_Vt_items_22 (by decide) ?_
      exact lf_xo h
  have hB_5 : ∀ (z_1 : Int32) (Y : CT) (G : CG) (S : CS) (H : Heap) (locs : List Loc) (ls : Array Slot), f_Vt_items_5 K z_1 G S = some (.error 1, G', S') → CG.le G0 G → va_P (dC, dI) classes (wV M Y G S) H → va_D A (wV M Y G S) → va_S A s.heap H locs → lv_has ls 1 [(0, .ref M.o_Vt)] → W p l e ({ frames := 8, cells := G'.gc - G0.gc, slots := G'.gs - G0.gs, locals := 224 }) s m ([.ref M.o_Vt] : List Value).toArray below meth c H locs (G.gc - G0.gc) (G.gs - G0.gs) Q (F0 m 5 ls [.int z_1, .ref M.o_Vt]) := by
    intro z_1 Y G S H locs ls h m0 hP hD hS hl
    have mF := mo_Vt_items_5 h
    rw [f_Vt_items_5] at h
    rcases lf_aT h with ⟨r_2, G_2, S_2, hc_2, h⟩ | h9
    · have mc := mo_Vt_readsInodes hc_2
      have ml_2 := mo_Vt_readsInodes hc_2
      have mF1 := mo_Vt_items_8 h
      have hFc := lx_free hD hS hA
      refine va_calli (va_runV (As := [.int z_1]) (rest := []) ⟨hx, hb, hml, hown, hts⟩ (l_Vt_readsInodes l dC dI X _ hc_2) (cwV 1 hts (gwV good_Vq (u_Vq_Vt _ k_Vt_111) (u_Vq_Vt _ k_Vt_112) (u_Vq_Vt _ k_Vt_215) (u_Vq_Vt _ k_Vt_0) (wcs (u_Vq_Vt _ k_Vt_113) (fun _ h => h))) rfl rfl rfl (by decide +kernel) ⟨Nat.le_of_ble_eq_true rfl, Nat.le_of_ble_eq_true rfl⟩) (pv_ofE (X.same _) (fun U z1 z2 => X.mono _ _ U hFc (hEw _ _ hS U z1 z2)) hP hK hD (va_recv hK hP (ci := 11) (q0 := 0) rfl rfl)) rfl rfl hl.1 rfl (lv_room (Nat.le_of_ble_eq_true rfl)) d_Vt_items_5 ⟨ly_c1 m0.1 mc.1 mF1.1, ly_c1 m0.2 mc.2 mF1.2⟩) hS (fun q _ h => hFc q h) hFc (fun r_ Y_2 t H locs ht hvm hw hB hz1 hk1 hS => ?_)
      rw [hw]
      obtain ⟨hP, -, hD⟩ := hB
      rw [ht] at hP
      have hD := lx_dj hD hFc
      refine W.widen (k := G_2.gc - G0.gc) (n := G_2.gs - G0.gs) (ly_c2 m0.1 mc.1) (ly_c2 m0.2 mc.2) ?_
      have m0 := CG.le_tr m0 mc
      exact hB_8 r_2 Y_2 G_2 S_2 _ _ _ h m0 hP hD hS (lv_sub hl [0] rfl)
    · have mc := mo_Vt_readsInodes h9
      have hFc := lx_free hD hS hA
      rw [hQ]
      exact x_outV (n := 1) (As := [.int z_1]) (rest := []) (b := M.o_Vt) (st0 := [.int z_1, .ref M.o_Vt]) ⟨hx, hb, hml, hown, hts⟩ (lt_Vt_readsInodes_1 l hfl dC dI X _ h9) (cwV 1 hts (gwV good_Vq (u_Vq_Vt _ k_Vt_111) (u_Vq_Vt _ k_Vt_112) (u_Vq_Vt _ k_Vt_215) (u_Vq_Vt _ k_Vt_0) (wcs (u_Vq_Vt _ k_Vt_113) (fun _ h => h))) rfl rfl rfl (by decide +kernel) ⟨Nat.le_of_ble_eq_true rfl, Nat.le_of_ble_eq_true rfl⟩) (pv_ofE (X.same _) (fun U z1 z2 => X.mono _ _ U hFc (hEw _ _ hS U z1 z2)) hP hK hD (va_recv hK hP (ci := 11) (q0 := 0) rfl rfl)) rfl hl.1 rfl (Nat.le_of_ble_eq_true rfl) d_Vt_items_5 ⟨ly_c2 m0.1 mc.1, ly_c2 m0.2 mc.2⟩ hlocks hout ⟨ly_c2 m0.1 mc.1, ly_c2 m0.2 mc.2⟩ (fun E st t U z1 z2 z3 z4 z5 => ly_outQ hS hK hFc z1 z3 z4 z5) ⟨hS.2.2, fun z h => hFc z h⟩
  have m0 : CG.le G0 G0 := ⟨Nat.le_refl _, Nat.le_refl _⟩
  have mF := mo_Vt_items h
  refine W.widen (k := G0.gc - G0.gc) (n := G0.gs - G0.gs) (Nat.zero_le _) (Nat.zero_le _) ?_
  rw [f_Vt_items] at h
  refine lv_aload_n hx hb d_Vt_items_0 rfl (lv_at hl 0 rfl) ?_
  refine lv_aload_n hx hb d_Vt_items_1 rfl (lv_at hl 0 rfl) ?_
  obtain ⟨r_1, G_1, S_1, hc_1, h⟩ := lf_nE h
  have mc := mo_Vt_look hc_1
  have ml_1 := mo_Vt_look hc_1
  have mF1 := mo_Vt_items_5 h
  have hFc := lx_free hD hS hA
  refine va_calli (va_runV (As := []) (rest := [.ref M.o_Vt]) ⟨hx, hb, hml, hown, hts⟩ (l_Vt_look l dC dI X _ hc_1) (cwV 0 hts (gwV good_Vq (u_Vq_Vt _ k_Vt_68) (u_Vq_Vt _ k_Vt_69) (u_Vq_Vt _ k_Vt_214) (u_Vq_Vt _ k_Vt_0) (wcs (u_Vq_Vt _ k_Vt_70) (fun _ h => h))) rfl rfl rfl (by decide +kernel) ⟨Nat.le_of_ble_eq_true rfl, Nat.le_of_ble_eq_true rfl⟩) (pv_ofE (X.same _) (fun U z1 z2 => X.mono _ _ U hFc (hEw _ _ hS U z1 z2)) hP hK hD (va_recv hK hP (ci := 11) (q0 := 0) rfl rfl)) rfl rfl hl.1 rfl (lv_room (Nat.le_of_ble_eq_true rfl)) d_Vt_items_2 ⟨ly_c1 m0.1 mc.1 mF1.1, ly_c1 m0.2 mc.2 mF1.2⟩) hS (fun q _ h => hFc q h) hFc (fun r_ Y_1 t H locs ht hvm hw hB hz1 hk1 hS => ?_)
  rw [hw]
  obtain ⟨hP, -, hD⟩ := hB
  rw [ht] at hP
  have hD := lx_dj hD hFc
  refine W.widen (k := G_1.gc - G0.gc) (n := G_1.gs - G0.gs) (ly_c2 m0.1 mc.1) (ly_c2 m0.2 mc.2) ?_
  have m0 := CG.le_tr m0 mc
  exact hB_5 r_1 Y_1 G_1 S_1 _ _ _ h m0 hP hD hS (lv_sub hl [0] rfl)
set_option maxHeartbeats 4000000 in
set_option maxRecDepth 100000 in
theorem l_Vt_letter (l : Launch) (dC : Nat → ClassId) (dI : Nat → Nat → Nat) {K : Nat} {M : CA} {E : (Nat → Prop) → State → Prop} (X : ly_X l dC dI K M E) (sz : Nat) {Y : CT} {G0 G' : CG} {S S' : CS} {p0 : Int32} {p1 : Int32} {r : Int32} (h : f_Vt_letter K G0 S p0 p1 = some (.ok r, G', S')) : Met l y_Vt_letter (.code y_Vt_letter cb_Vt_letter 3 (some .int) :: V_Vq) ({ frames := 8, cells := G'.gc - G0.gc, slots := G'.gs - G0.gs, locals := 224 }) (va_Pc [.ref M.o_Vt, .int p0, .int p1] (fun U => U.heap.size = sz ∧ at_ (dC, dI) (fun _ => True) (wV M Y G0 S) (tV M) U ∧ E (va_A (wV M Y G0 S) sz) U)) (va_Qi (fun (r_ : Int32) (u : CT) => r_ = r) (fun (u : CT) t => at_ (dC, dI) (va_A (wV M Y G0 S) sz) (wV M u G' S') (tV M) t) (va_A (wV M Y G0 S) sz)) (G'.gc - G0.gc) (G'.gs - G0.gs) (va_A (wV M Y G0 S) sz) := by
  refine Met.ofW (cc := cb_Vt_letter) (maxL := 3) (ret := (some .int)) (by decide) rfl ?_
  intro p e s m args below meth c s₁ B hml hv
  obtain ⟨rfl, hsz, ⟨hP, hK, hD0⟩, hE⟩ := hv
  have hx := B.exec
  have hb := B.bytes
  have hr := B.returns
  have hts0 := atoms_spec (ws := .code y_Vt_letter cb_Vt_letter 3 (some .int) :: V_Vq) B.pre
  have hts : ∀ w ∈ V_Vq, w.before ([.ref M.o_Vt, .int p0, .int p1] : List Value).toArray s = true := fun w h => hts0 w (List.mem_cons_of_mem _ h)
  have hown : s.vm.findClass R_Vt = some m.cls := findClass_of_methodNamed B.named
  subst hsz
  have hD := hD0.self (sz := s.heap.size)
  generalize hAe : va_A (wV M Y G0 S) s.heap.size = A at hD hE ⊢
  have hA : ∀ q : Nat, s.heap.size ≤ q → A q := fun q h => by rw [← hAe]; exact Or.inr h
  have hS : va_S A s.heap s.heap [] := va_S.rf
  have hP : va_P (dC, dI) classes (wV M Y G0 S) s.heap := hP
  have hK : va_K (dC, dI) classes (tV M) s := hK
  have hEw : ∀ (H : Heap) (locs : List Loc), va_S A s.heap H locs → ∀ U : State, U.heap = H → s.WarmedH U.vm → E A U := fun H locs hS U hU hW => X.kept A s U H locs hE hS hU hW
  have hl := lv_entry ([.ref M.o_Vt, .int p0, .int p1]) (n := 3) (Nat.le_of_ble_eq_true rfl)
  rw [lg_entry_eq]
  generalize (lg_sl ([.ref M.o_Vt, .int p0, .int p1]) ++ List.replicate (3 - (lg_sl ([.ref M.o_Vt, .int p0, .int p1])).length) Slot.unset).toArray = ls at hl ⊢
  have hl : lv_has ls 3 [(0, .ref M.o_Vt), (1, .int p0), (2, .int p1)] := hl
  refine qabs (fun Q hQ => ?_)
  have hB_20 : ∀ (y_2 : Int32) (z_1 : Int32) (Y : CT) (G : CG) (S : CS) (H : Heap) (locs : List Loc) (ls : Array Slot), f_Vt_letter_20 K y_2 z_1 G S = some (.ok r, G', S') → CG.le G0 G → va_P (dC, dI) classes (wV M Y G S) H → va_D A (wV M Y G S) → va_S A s.heap H locs → lv_has ls 3 [(2, .int y_2)] → W p l e ({ frames := 8, cells := G'.gc - G0.gc, slots := G'.gs - G0.gs, locals := 224 }) s m ([.ref M.o_Vt, .int p0, .int p1] : List Value).toArray below meth c H locs (G.gc - G0.gc) (G.gs - G0.gs) Q (F0 m 20 ls [.int z_1, .ref M.o_In]) := by
    intro y_2 z_1 Y G S H locs ls h m0 hP hD hS hl
    have mF := mo_Vt_letter_20 h
    rw [f_Vt_letter_20] at h
    refine lv_iload_n hx hb d_Vt_letter_20 rfl (lv_at hl 0 rfl) ?_
    obtain ⟨r_7, S_7, hc_7, h⟩ := lf_cE h
    have hFc := lx_free hD hS hA
    refine va_calli (va_runV (As := [.int z_1, .int y_2]) (rest := []) ⟨hx, hb, hml, hown, hts⟩ (l_In_nameByte l dC dI X _ hc_7) (cwV 2 hts (gwV good_Vq (u_Vq_Vt _ k_Vt_129) (u_Vq_In _ k_In_43) (u_Vq_In _ k_In_44) (u_Vq_In _ k_In_0) (wcs (u_Vq_In _ k_In_45) (fun _ h => h))) rfl rfl rfl (by decide +kernel) ⟨Nat.le_of_ble_eq_true rfl, Nat.le_of_ble_eq_true rfl⟩) (pv_ofE (X.same _) (fun U z1 z2 => X.mono _ _ U hFc (hEw _ _ hS U z1 z2)) hP hK hD (va_recv hK hP (ci := 6) (q0 := 9) rfl rfl)) rfl rfl hl.1 rfl (lv_room (Nat.le_of_ble_eq_true rfl)) d_Vt_letter_21 ⟨ly_c0 mF.1, ly_c0 mF.2⟩) hS (fun q _ h => hFc q h) hFc (fun r_ u t H locs ht hvm hw hB hz1 hk1 hS => ?_)
    rw [hw]
    obtain ⟨hP, -, hD⟩ := hB
    rw [ht] at hP
    have hD := lx_dj hD hFc
    rw [hQ]
    have e1 : r_7 = r := Except.ok.inj (congrArg (fun z => z.1) (Option.some.inj h))
    have e2 : G = G' := congrArg (fun z => z.2.1) (Option.some.inj h)
    have e3 : S_7 = S' := congrArg (fun z => z.2.2) (Option.some.inj h)
    have hP := ly_newP3 e2.symm e3.symm hP
    have hD := ly_newD3 e2.symm e3.symm hD
    refine W.widen (k := G'.gc - G0.gc) (n := G'.gs - G0.gs) (ly_wc e2) (ly_ws e2) ?_
    exact W.iret (v := r_7) hx hb hr (fun t ht hW => ⟨⟨r_7, Y, rfl, e1, by rw [ht]; exact hP, va_K.moved hW.alike hK, hD⟩, hS.F ht⟩) hS.2.2 d_Vt_letter_24
  have hB_34 : ∀ (y_2 : Int32) (z_1 : Int32) (Y : CT) (G : CG) (S : CS) (H : Heap) (locs : List Loc) (ls : Array Slot), f_Vt_letter_34 K y_2 z_1 G S = some (.ok r, G', S') → CG.le G0 G → va_P (dC, dI) classes (wV M Y G S) H → va_D A (wV M Y G S) → va_S A s.heap H locs → lv_has ls 3 [(2, .int y_2)] → W p l e ({ frames := 8, cells := G'.gc - G0.gc, slots := G'.gs - G0.gs, locals := 224 }) s m ([.ref M.o_Vt, .int p0, .int p1] : List Value).toArray below meth c H locs (G.gc - G0.gc) (G.gs - G0.gs) Q (F0 m 34 ls [.int z_1, .ref M.o_Tr]) := by
    intro y_2 z_1 Y G S H locs ls h m0 hP hD hS hl
    have mF := mo_Vt_letter_34 h
    rw [f_Vt_letter_34] at h
    refine lv_iload_n hx hb d_Vt_letter_34 rfl (lv_at hl 0 rfl) ?_
    obtain ⟨r_6, S_6, hc_6, h⟩ := lf_cE h
    have hFc := lx_free hD hS hA
    refine va_calli (va_runV (As := [.int z_1, .int y_2]) (rest := []) ⟨hx, hb, hml, hown, hts⟩ (l_Tr_nameByte l dC dI X _ hc_6) (cwV 2 hts (gwV good_Vq (u_Vq_Vt _ k_Vt_134) (u_Vq_Tr _ k_Tr_97) (u_Vq_Tr _ k_Tr_98) (u_Vq_Tr _ k_Tr_0) (wcs (u_Vq_Tr _ k_Tr_99) (fun _ h => h))) rfl rfl rfl (by decide +kernel) ⟨Nat.le_of_ble_eq_true rfl, Nat.le_of_ble_eq_true rfl⟩) (pv_ofE (X.same _) (fun U z1 z2 => X.mono _ _ U hFc (hEw _ _ hS U z1 z2)) hP hK hD (va_recv hK hP (ci := 5) (q0 := 4) rfl rfl)) rfl rfl hl.1 rfl (lv_room (Nat.le_of_ble_eq_true rfl)) d_Vt_letter_35 ⟨ly_c0 mF.1, ly_c0 mF.2⟩) hS (fun q _ h => hFc q h) hFc (fun r_ u t H locs ht hvm hw hB hz1 hk1 hS => ?_)
    rw [hw]
    obtain ⟨hP, -, hD⟩ := hB
    rw [ht] at hP
    have hD := lx_dj hD hFc
    rw [hQ]
    have e1 : r_6 = r := Except.ok.inj (congrArg (fun z => z.1) (Option.some.inj h))
    have e2 : G = G' := congrArg (fun z => z.2.1) (Option.some.inj h)
    have e3 : S_6 = S' := congrArg (fun z => z.2.2) (Option.some.inj h)
    have hP := ly_newP3 e2.symm e3.symm hP
    have hD := ly_newD3 e2.symm e3.symm hD
    refine W.widen (k := G'.gc - G0.gc) (n := G'.gs - G0.gs) (ly_wc e2) (ly_ws e2) ?_
    exact W.iret (v := r_6) hx hb hr (fun t ht hW => ⟨⟨r_6, Y, rfl, e1, by rw [ht]; exact hP, va_K.moved hW.alike hK, hD⟩, hS.F ht⟩) hS.2.2 d_Vt_letter_38
  have hB_8 : ∀ (y_1 : Int32) (y_2 : Int32) (z_0 : Int32) (Y : CT) (G : CG) (S : CS) (H : Heap) (locs : List Loc) (ls : Array Slot), f_Vt_letter_8 K y_1 y_2 z_0 G S = some (.ok r, G', S') → CG.le G0 G → va_P (dC, dI) classes (wV M Y G S) H → va_D A (wV M Y G S) → va_S A s.heap H locs → lv_has ls 3 [(0, .ref M.o_Vt), (1, .int y_1), (2, .int y_2)] → W p l e ({ frames := 8, cells := G'.gc - G0.gc, slots := G'.gs - G0.gs, locals := 224 }) s m ([.ref M.o_Vt, .int p0, .int p1] : List Value).toArray below meth c H locs (G.gc - G0.gc) (G.gs - G0.gs) Q (F0 m 8 ls [.int z_0]) := by
    intro y_1 y_2 z_0 Y G S H locs ls h m0 hP hD hS hl
    have mF := mo_Vt_letter_8 h
    rw [f_Vt_letter_8] at h
    refine lv_if_eq (tgt := 25) hx hb d_Vt_letter_8 (by decide) (fun c_3 => ?_) (fun c_3 => ?_)
    · have h := lf_t h c_3
      refine lv_aload_n hx hb d_Vt_letter_25 rfl (lv_at hl 0 rfl) ?_
      refine va_get (D := (dC, dI)) (ci := 11) (v := .ref M.o_Tr) (C := R_Vt) (T := F_Vt) (N := 16) hx hb hts (fun w h => u_Vq_Vt w (i_Vt w h)) hown hK hP 0 rfl rfl 3 (by decide) (hts _ (u_Vq_Vt _ k_Vt_32)) (fun _ h9 => h9) rfl d_Vt_letter_26 ?_
      refine lv_aload_n hx hb d_Vt_letter_29 rfl (lv_at hl 0 rfl) ?_
      refine lv_iload_n hx hb d_Vt_letter_30 rfl (lv_at hl 1 rfl) ?_
      obtain ⟨r_4, G_4, S_4, hc_4, h⟩ := lf_aO h
      have mc := mo_Vt_itemHere hc_4
      have ml_4 := mo_Vt_itemHere hc_4
      have mF1 := mo_Vt_letter_34 h
      have hFc := lx_free hD hS hA
      refine va_calli (va_runV (As := [.int y_1]) (rest := [.ref M.o_Tr]) ⟨hx, hb, hml, hown, hts⟩ (l_Vt_itemHere l dC dI X _ hc_4) (cwV 1 hts (gwV good_Vq (u_Vq_Vt _ k_Vt_130) (u_Vq_Vt _ k_Vt_131) (u_Vq_Vt _ k_Vt_217) (u_Vq_Vt _ k_Vt_0) (wcs (u_Vq_Vt _ k_Vt_132) (fun _ h => h))) rfl rfl rfl (by decide +kernel) ⟨Nat.le_of_ble_eq_true rfl, Nat.le_of_ble_eq_true rfl⟩) (pv_ofE (X.same _) (fun U z1 z2 => X.mono _ _ U hFc (hEw _ _ hS U z1 z2)) hP hK hD (va_recv hK hP (ci := 11) (q0 := 0) rfl rfl)) rfl rfl hl.1 rfl (lv_room (Nat.le_of_ble_eq_true rfl)) d_Vt_letter_31 ⟨ly_c1 m0.1 mc.1 mF1.1, ly_c1 m0.2 mc.2 mF1.2⟩) hS (fun q _ h => hFc q h) hFc (fun r_ Y_4 t H locs ht hvm hw hB hz1 hk1 hS => ?_)
      rw [hw]
      obtain ⟨hP, -, hD⟩ := hB
      rw [ht] at hP
      have hD := lx_dj hD hFc
      refine W.widen (k := G_4.gc - G0.gc) (n := G_4.gs - G0.gs) (ly_c2 m0.1 mc.1) (ly_c2 m0.2 mc.2) ?_
      have m0 := CG.le_tr m0 mc
      exact hB_34 y_2 r_4 Y_4 G_4 S_4 _ _ _ h m0 hP hD hS (lv_sub hl [2] rfl)
    · have h := lf_f h c_3
      refine lv_aload_n hx hb d_Vt_letter_11 rfl (lv_at hl 0 rfl) ?_
      refine va_get (D := (dC, dI)) (ci := 11) (v := .ref M.o_In) (C := R_Vt) (T := F_Vt) (N := 16) hx hb hts (fun w h => u_Vq_Vt w (i_Vt w h)) hown hK hP 0 rfl rfl 8 (by decide) (hts _ (u_Vq_Vt _ k_Vt_37)) (fun _ h9 => h9) rfl d_Vt_letter_12 ?_
      refine lv_aload_n hx hb d_Vt_letter_15 rfl (lv_at hl 0 rfl) ?_
      refine lv_iload_n hx hb d_Vt_letter_16 rfl (lv_at hl 1 rfl) ?_
      obtain ⟨r_5, G_5, S_5, hc_5, h⟩ := lf_aO h
      have mc := mo_Vt_entryHere hc_5
      have ml_5 := mo_Vt_entryHere hc_5
      have mF1 := mo_Vt_letter_20 h
      have hFc := lx_free hD hS hA
      refine va_calli (va_runV (As := [.int y_1]) (rest := [.ref M.o_In]) ⟨hx, hb, hml, hown, hts⟩ (l_Vt_entryHere l dC dI X _ hc_5) (cwV 1 hts (gwV good_Vq (u_Vq_Vt _ k_Vt_122) (u_Vq_Vt _ k_Vt_123) (u_Vq_Vt _ k_Vt_218) (u_Vq_Vt _ k_Vt_0) (wcs (u_Vq_Vt _ k_Vt_124) (fun _ h => h))) rfl rfl rfl (by decide +kernel) ⟨Nat.le_of_ble_eq_true rfl, Nat.le_of_ble_eq_true rfl⟩) (pv_ofE (X.same _) (fun U z1 z2 => X.mono _ _ U hFc (hEw _ _ hS U z1 z2)) hP hK hD (va_recv hK hP (ci := 11) (q0 := 0) rfl rfl)) rfl rfl hl.1 rfl (lv_room (Nat.le_of_ble_eq_true rfl)) d_Vt_letter_17 ⟨ly_c1 m0.1 mc.1 mF1.1, ly_c1 m0.2 mc.2 mF1.2⟩) hS (fun q _ h => hFc q h) hFc (fun r_ Y_5 t H locs ht hvm hw hB hz1 hk1 hS => ?_)
      rw [hw]
      obtain ⟨hP, -, hD⟩ := hB
      rw [ht] at hP
      have hD := lx_dj hD hFc
      refine W.widen (k := G_5.gc - G0.gc) (n := G_5.gs - G0.gs) (ly_c2 m0.1 mc.1) (ly_c2 m0.2 mc.2) ?_
      have m0 := CG.le_tr m0 mc
      exact hB_20 y_2 r_5 Y_5 G_5 S_5 _ _ _ h m0 hP hD hS (lv_sub hl [2] rfl)
  have hB_5 : ∀ (y_1 : Int32) (y_2 : Int32) (z_1 : Int32) (Y : CT) (G : CG) (S : CS) (H : Heap) (locs : List Loc) (ls : Array Slot), f_Vt_letter_5 K y_1 y_2 z_1 G S = some (.ok r, G', S') → CG.le G0 G → va_P (dC, dI) classes (wV M Y G S) H → va_D A (wV M Y G S) → va_S A s.heap H locs → lv_has ls 3 [(0, .ref M.o_Vt), (1, .int y_1), (2, .int y_2)] → W p l e ({ frames := 8, cells := G'.gc - G0.gc, slots := G'.gs - G0.gs, locals := 224 }) s m ([.ref M.o_Vt, .int p0, .int p1] : List Value).toArray below meth c H locs (G.gc - G0.gc) (G.gs - G0.gs) Q (F0 m 5 ls [.int z_1, .ref M.o_Vt]) := by
    intro y_1 y_2 z_1 Y G S H locs ls h m0 hP hD hS hl
    have mF := mo_Vt_letter_5 h
    rw [f_Vt_letter_5] at h
    obtain ⟨r_2, G_2, S_2, hc_2, h⟩ := lf_aO h
    have mc := mo_Vt_readsInodes hc_2
    have ml_2 := mo_Vt_readsInodes hc_2
    have mF1 := mo_Vt_letter_8 h
    have hFc := lx_free hD hS hA
    refine va_calli (va_runV (As := [.int z_1]) (rest := []) ⟨hx, hb, hml, hown, hts⟩ (l_Vt_readsInodes l dC dI X _ hc_2) (cwV 1 hts (gwV good_Vq (u_Vq_Vt _ k_Vt_111) (u_Vq_Vt _ k_Vt_112) (u_Vq_Vt _ k_Vt_215) (u_Vq_Vt _ k_Vt_0) (wcs (u_Vq_Vt _ k_Vt_113) (fun _ h => h))) rfl rfl rfl (by decide +kernel) ⟨Nat.le_of_ble_eq_true rfl, Nat.le_of_ble_eq_true rfl⟩) (pv_ofE (X.same _) (fun U z1 z2 => X.mono _ _ U hFc (hEw _ _ hS U z1 z2)) hP hK hD (va_recv hK hP (ci := 11) (q0 := 0) rfl rfl)) rfl rfl hl.1 rfl (lv_room (Nat.le_of_ble_eq_true rfl)) d_Vt_letter_5 ⟨ly_c1 m0.1 mc.1 mF1.1, ly_c1 m0.2 mc.2 mF1.2⟩) hS (fun q _ h => hFc q h) hFc (fun r_ Y_2 t H locs ht hvm hw hB hz1 hk1 hS => ?_)
    rw [hw]
    obtain ⟨hP, -, hD⟩ := hB
    rw [ht] at hP
    have hD := lx_dj hD hFc
    refine W.widen (k := G_2.gc - G0.gc) (n := G_2.gs - G0.gs) (ly_c2 m0.1 mc.1) (ly_c2 m0.2 mc.2) ?_
    have m0 := CG.le_tr m0 mc
    exact hB_8 y_1 y_2 r_2 Y_2 G_2 S_2 _ _ _ h m0 hP hD hS (lv_sub hl [0, 1, 2] rfl)
  have m0 : CG.le G0 G0 := ⟨Nat.le_refl _, Nat.le_refl _⟩
  have mF := mo_Vt_letter h
  refine W.widen (k := G0.gc - G0.gc) (n := G0.gs - G0.gs) (Nat.zero_le _) (Nat.zero_le _) ?_
  rw [f_Vt_letter] at h
  refine lv_aload_n hx hb d_Vt_letter_0 rfl (lv_at hl 0 rfl) ?_
  refine lv_aload_n hx hb d_Vt_letter_1 rfl (lv_at hl 0 rfl) ?_
  obtain ⟨r_1, G_1, S_1, hc_1, h⟩ := lf_nE h
  have mc := mo_Vt_look hc_1
  have ml_1 := mo_Vt_look hc_1
  have mF1 := mo_Vt_letter_5 h
  have hFc := lx_free hD hS hA
  refine va_calli (va_runV (As := []) (rest := [.ref M.o_Vt]) ⟨hx, hb, hml, hown, hts⟩ (l_Vt_look l dC dI X _ hc_1) (cwV 0 hts (gwV good_Vq (u_Vq_Vt _ k_Vt_68) (u_Vq_Vt _ k_Vt_69) (u_Vq_Vt _ k_Vt_214) (u_Vq_Vt _ k_Vt_0) (wcs (u_Vq_Vt _ k_Vt_70) (fun _ h => h))) rfl rfl rfl (by decide +kernel) ⟨Nat.le_of_ble_eq_true rfl, Nat.le_of_ble_eq_true rfl⟩) (pv_ofE (X.same _) (fun U z1 z2 => X.mono _ _ U hFc (hEw _ _ hS U z1 z2)) hP hK hD (va_recv hK hP (ci := 11) (q0 := 0) rfl rfl)) rfl rfl hl.1 rfl (lv_room (Nat.le_of_ble_eq_true rfl)) d_Vt_letter_2 ⟨ly_c1 m0.1 mc.1 mF1.1, ly_c1 m0.2 mc.2 mF1.2⟩) hS (fun q _ h => hFc q h) hFc (fun r_ Y_1 t H locs ht hvm hw hB hz1 hk1 hS => ?_)
  rw [hw]
  obtain ⟨hP, -, hD⟩ := hB
  rw [ht] at hP
  have hD := lx_dj hD hFc
  refine W.widen (k := G_1.gc - G0.gc) (n := G_1.gs - G0.gs) (ly_c2 m0.1 mc.1) (ly_c2 m0.2 mc.2) ?_
  have m0 := CG.le_tr m0 mc
  exact hB_5 p0 p1 r_1 Y_1 G_1 S_1 _ _ _ h m0 hP hD hS (lv_sub hl [0, 1, 2] rfl)
set_option maxHeartbeats 4000000 in
set_option maxRecDepth 100000 in
theorem lt_Vt_letter_1 (l : Launch) (hfl : l.flags = pinnedFlags ++ [noTraceFlag]) (dC : Nat → ClassId) (dI : Nat → Nat → Nat) {K : Nat} {M : CA} {E : (Nat → Prop) → State → Prop} (X : ly_X l dC dI K M E) (sz : Nat) {Y : CT} {G0 G' : CG} {S S' : CS} {p0 : Int32} {p1 : Int32} (h : f_Vt_letter K G0 S p0 p1 = some (.error 1, G', S')) : MetX l y_Vt_letter (.code y_Vt_letter cb_Vt_letter 3 (some .int) :: V_Vq) ({ frames := 8, cells := G'.gc - G0.gc, slots := G'.gs - G0.gs, locals := 224 }) (va_Pc [.ref M.o_Vt, .int p0, .int p1] (fun U => U.heap.size = sz ∧ at_ (dC, dI) (fun _ => True) (wV M Y G0 S) (tV M) U ∧ E (va_A (wV M Y G0 S) sz) U)) (fun _ _ _ _ => False) (x_Q "java/lang/IllegalStateException" (va_A (wV M Y G0 S) sz) (fun t => ∃ u : CT, at_ (dC, dI) (va_A (wV M Y G0 S) sz) (wV M u G' S') (tV M) t)) (G'.gc - G0.gc) (G'.gs - G0.gs) (va_A (wV M Y G0 S) sz) := by
  refine MetX.ofW (cc := cb_Vt_letter) (maxL := 3) (ret := (some .int)) (by decide) rfl ?_
  intro p e s m args below meth c s₁ B hml hv
  obtain ⟨rfl, hsz, ⟨hP, hK, hD0⟩, hE⟩ := hv
  have hx := B.exec
  have hb := B.bytes
  have hr := B.returns
  have hts0 := atoms_spec (ws := .code y_Vt_letter cb_Vt_letter 3 (some .int) :: V_Vq) B.pre
  have hts : ∀ w ∈ V_Vq, w.before ([.ref M.o_Vt, .int p0, .int p1] : List Value).toArray s = true := fun w h => hts0 w (List.mem_cons_of_mem _ h)
  have hown : s.vm.findClass R_Vt = some m.cls := findClass_of_methodNamed B.named
  have hlocks := B.notSynchronized
  have hout := x_table B (hts0 _ List.mem_cons_self)
  subst hsz
  have hD := hD0.self (sz := s.heap.size)
  generalize hAe : va_A (wV M Y G0 S) s.heap.size = A at hD hE ⊢
  have hA : ∀ q : Nat, s.heap.size ≤ q → A q := fun q h => by rw [← hAe]; exact Or.inr h
  have hS : va_S A s.heap s.heap [] := va_S.rf
  have hP : va_P (dC, dI) classes (wV M Y G0 S) s.heap := hP
  have hK : va_K (dC, dI) classes (tV M) s := hK
  have hEw : ∀ (H : Heap) (locs : List Loc), va_S A s.heap H locs → ∀ U : State, U.heap = H → s.WarmedH U.vm → E A U := fun H locs hS U hU hW => X.kept A s U H locs hE hS hU hW
  have hl := lv_entry ([.ref M.o_Vt, .int p0, .int p1]) (n := 3) (Nat.le_of_ble_eq_true rfl)
  rw [lg_entry_eq]
  generalize (lg_sl ([.ref M.o_Vt, .int p0, .int p1]) ++ List.replicate (3 - (lg_sl ([.ref M.o_Vt, .int p0, .int p1])).length) Slot.unset).toArray = ls at hl ⊢
  have hl : lv_has ls 3 [(0, .ref M.o_Vt), (1, .int p0), (2, .int p1)] := hl
  refine qabs (fun Q hQ => ?_)
  have hB_20 : ∀ (y_2 : Int32) (z_1 : Int32) (Y : CT) (G : CG) (S : CS) (H : Heap) (locs : List Loc) (ls : Array Slot), f_Vt_letter_20 K y_2 z_1 G S = some (.error 1, G', S') → CG.le G0 G → va_P (dC, dI) classes (wV M Y G S) H → va_D A (wV M Y G S) → va_S A s.heap H locs → lv_has ls 3 [(2, .int y_2)] → W p l e ({ frames := 8, cells := G'.gc - G0.gc, slots := G'.gs - G0.gs, locals := 224 }) s m ([.ref M.o_Vt, .int p0, .int p1] : List Value).toArray below meth c H locs (G.gc - G0.gc) (G.gs - G0.gs) Q (F0 m 20 ls [.int z_1, .ref M.o_In]) := by
    intro y_2 z_1 Y G S H locs ls h m0 hP hD hS hl
    have mF := mo_Vt_letter_20 h
    rw [f_Vt_letter_20] at h
    refine lv_iload_n hx hb d_Vt_letter_20 rfl (lv_at hl 0 rfl) ?_
    obtain ⟨r_7, S_7, hc_7, h⟩ := lf_cE h
    have hFc := lx_free hD hS hA
    refine va_calli (va_runV (As := [.int z_1, .int y_2]) (rest := []) ⟨hx, hb, hml, hown, hts⟩ (l_In_nameByte l dC dI X _ hc_7) (cwV 2 hts (gwV good_Vq (u_Vq_Vt _ k_Vt_129) (u_Vq_In _ k_In_43) (u_Vq_In _ k_In_44) (u_Vq_In _ k_In_0) (wcs (u_Vq_In _ k_In_45) (fun _ h => h))) rfl rfl rfl (by decide +kernel) ⟨Nat.le_of_ble_eq_true rfl, Nat.le_of_ble_eq_true rfl⟩) (pv_ofE (X.same _) (fun U z1 z2 => X.mono _ _ U hFc (hEw _ _ hS U z1 z2)) hP hK hD (va_recv hK hP (ci := 6) (q0 := 9) rfl rfl)) rfl rfl hl.1 rfl (lv_room (Nat.le_of_ble_eq_true rfl)) d_Vt_letter_21 ⟨ly_c0 mF.1, ly_c0 mF.2⟩) hS (fun q _ h => hFc q h) hFc (fun r_ u t H locs ht hvm hw hB hz1 hk1 hS => ?_)
    rw [hw]
    obtain ⟨hP, -, hD⟩ := hB
    rw [ht] at hP
    have hD := lx_dj hD hFc
    exact lf_xo h
  have hB_34 : ∀ (y_2 : Int32) (z_1 : Int32) (Y : CT) (G : CG) (S : CS) (H : Heap) (locs : List Loc) (ls : Array Slot), f_Vt_letter_34 K y_2 z_1 G S = some (.error 1, G', S') → CG.le G0 G → va_P (dC, dI) classes (wV M Y G S) H → va_D A (wV M Y G S) → va_S A s.heap H locs → lv_has ls 3 [(2, .int y_2)] → W p l e ({ frames := 8, cells := G'.gc - G0.gc, slots := G'.gs - G0.gs, locals := 224 }) s m ([.ref M.o_Vt, .int p0, .int p1] : List Value).toArray below meth c H locs (G.gc - G0.gc) (G.gs - G0.gs) Q (F0 m 34 ls [.int z_1, .ref M.o_Tr]) := by
    intro y_2 z_1 Y G S H locs ls h m0 hP hD hS hl
    have mF := mo_Vt_letter_34 h
    rw [f_Vt_letter_34] at h
    refine lv_iload_n hx hb d_Vt_letter_34 rfl (lv_at hl 0 rfl) ?_
    obtain ⟨r_6, S_6, hc_6, h⟩ := lf_cE h
    have hFc := lx_free hD hS hA
    refine va_calli (va_runV (As := [.int z_1, .int y_2]) (rest := []) ⟨hx, hb, hml, hown, hts⟩ (l_Tr_nameByte l dC dI X _ hc_6) (cwV 2 hts (gwV good_Vq (u_Vq_Vt _ k_Vt_134) (u_Vq_Tr _ k_Tr_97) (u_Vq_Tr _ k_Tr_98) (u_Vq_Tr _ k_Tr_0) (wcs (u_Vq_Tr _ k_Tr_99) (fun _ h => h))) rfl rfl rfl (by decide +kernel) ⟨Nat.le_of_ble_eq_true rfl, Nat.le_of_ble_eq_true rfl⟩) (pv_ofE (X.same _) (fun U z1 z2 => X.mono _ _ U hFc (hEw _ _ hS U z1 z2)) hP hK hD (va_recv hK hP (ci := 5) (q0 := 4) rfl rfl)) rfl rfl hl.1 rfl (lv_room (Nat.le_of_ble_eq_true rfl)) d_Vt_letter_35 ⟨ly_c0 mF.1, ly_c0 mF.2⟩) hS (fun q _ h => hFc q h) hFc (fun r_ u t H locs ht hvm hw hB hz1 hk1 hS => ?_)
    rw [hw]
    obtain ⟨hP, -, hD⟩ := hB
    rw [ht] at hP
    have hD := lx_dj hD hFc
    exact lf_xo h
  have hB_8 : ∀ (y_1 : Int32) (y_2 : Int32) (z_0 : Int32) (Y : CT) (G : CG) (S : CS) (H : Heap) (locs : List Loc) (ls : Array Slot), f_Vt_letter_8 K y_1 y_2 z_0 G S = some (.error 1, G', S') → CG.le G0 G → va_P (dC, dI) classes (wV M Y G S) H → va_D A (wV M Y G S) → va_S A s.heap H locs → lv_has ls 3 [(0, .ref M.o_Vt), (1, .int y_1), (2, .int y_2)] → W p l e ({ frames := 8, cells := G'.gc - G0.gc, slots := G'.gs - G0.gs, locals := 224 }) s m ([.ref M.o_Vt, .int p0, .int p1] : List Value).toArray below meth c H locs (G.gc - G0.gc) (G.gs - G0.gs) Q (F0 m 8 ls [.int z_0]) := by
    intro y_1 y_2 z_0 Y G S H locs ls h m0 hP hD hS hl
    have mF := mo_Vt_letter_8 h
    rw [f_Vt_letter_8] at h
    refine lv_if_eq (tgt := 25) hx hb d_Vt_letter_8 (by decide) (fun c_3 => ?_) (fun c_3 => ?_)
    · have h := lf_t h c_3
      refine lv_aload_n hx hb d_Vt_letter_25 rfl (lv_at hl 0 rfl) ?_
      refine va_get (D := (dC, dI)) (ci := 11) (v := .ref M.o_Tr) (C := R_Vt) (T := F_Vt) (N := 16) hx hb hts (fun w h => u_Vq_Vt w (i_Vt w h)) hown hK hP 0 rfl rfl 3 (by decide) (hts _ (u_Vq_Vt _ k_Vt_32)) (fun _ h9 => h9) rfl d_Vt_letter_26 ?_
      refine lv_aload_n hx hb d_Vt_letter_29 rfl (lv_at hl 0 rfl) ?_
      refine lv_iload_n hx hb d_Vt_letter_30 rfl (lv_at hl 1 rfl) ?_
      rcases lf_aT h with ⟨r_4, G_4, S_4, hc_4, h⟩ | h9
      · have mc := mo_Vt_itemHere hc_4
        have ml_4 := mo_Vt_itemHere hc_4
        have mF1 := mo_Vt_letter_34 h
        have hFc := lx_free hD hS hA
        refine va_calli (va_runV (As := [.int y_1]) (rest := [.ref M.o_Tr]) ⟨hx, hb, hml, hown, hts⟩ (l_Vt_itemHere l dC dI X _ hc_4) (cwV 1 hts (gwV good_Vq (u_Vq_Vt _ k_Vt_130) (u_Vq_Vt _ k_Vt_131) (u_Vq_Vt _ k_Vt_217) (u_Vq_Vt _ k_Vt_0) (wcs (u_Vq_Vt _ k_Vt_132) (fun _ h => h))) rfl rfl rfl (by decide +kernel) ⟨Nat.le_of_ble_eq_true rfl, Nat.le_of_ble_eq_true rfl⟩) (pv_ofE (X.same _) (fun U z1 z2 => X.mono _ _ U hFc (hEw _ _ hS U z1 z2)) hP hK hD (va_recv hK hP (ci := 11) (q0 := 0) rfl rfl)) rfl rfl hl.1 rfl (lv_room (Nat.le_of_ble_eq_true rfl)) d_Vt_letter_31 ⟨ly_c1 m0.1 mc.1 mF1.1, ly_c1 m0.2 mc.2 mF1.2⟩) hS (fun q _ h => hFc q h) hFc (fun r_ Y_4 t H locs ht hvm hw hB hz1 hk1 hS => ?_)
        rw [hw]
        obtain ⟨hP, -, hD⟩ := hB
        rw [ht] at hP
        have hD := lx_dj hD hFc
        refine W.widen (k := G_4.gc - G0.gc) (n := G_4.gs - G0.gs) (ly_c2 m0.1 mc.1) (ly_c2 m0.2 mc.2) ?_
        have m0 := CG.le_tr m0 mc
        exact hB_34 y_2 r_4 Y_4 G_4 S_4 _ _ _ h m0 hP hD hS (lv_sub hl [2] rfl)
      · exact absurd (th_Vt_itemHere h9) (by decide)
    · have h := lf_f h c_3
      refine lv_aload_n hx hb d_Vt_letter_11 rfl (lv_at hl 0 rfl) ?_
      refine va_get (D := (dC, dI)) (ci := 11) (v := .ref M.o_In) (C := R_Vt) (T := F_Vt) (N := 16) hx hb hts (fun w h => u_Vq_Vt w (i_Vt w h)) hown hK hP 0 rfl rfl 8 (by decide) (hts _ (u_Vq_Vt _ k_Vt_37)) (fun _ h9 => h9) rfl d_Vt_letter_12 ?_
      refine lv_aload_n hx hb d_Vt_letter_15 rfl (lv_at hl 0 rfl) ?_
      refine lv_iload_n hx hb d_Vt_letter_16 rfl (lv_at hl 1 rfl) ?_
      rcases lf_aT h with ⟨r_5, G_5, S_5, hc_5, h⟩ | h9
      · have mc := mo_Vt_entryHere hc_5
        have ml_5 := mo_Vt_entryHere hc_5
        have mF1 := mo_Vt_letter_20 h
        have hFc := lx_free hD hS hA
        refine va_calli (va_runV (As := [.int y_1]) (rest := [.ref M.o_In]) ⟨hx, hb, hml, hown, hts⟩ (l_Vt_entryHere l dC dI X _ hc_5) (cwV 1 hts (gwV good_Vq (u_Vq_Vt _ k_Vt_122) (u_Vq_Vt _ k_Vt_123) (u_Vq_Vt _ k_Vt_218) (u_Vq_Vt _ k_Vt_0) (wcs (u_Vq_Vt _ k_Vt_124) (fun _ h => h))) rfl rfl rfl (by decide +kernel) ⟨Nat.le_of_ble_eq_true rfl, Nat.le_of_ble_eq_true rfl⟩) (pv_ofE (X.same _) (fun U z1 z2 => X.mono _ _ U hFc (hEw _ _ hS U z1 z2)) hP hK hD (va_recv hK hP (ci := 11) (q0 := 0) rfl rfl)) rfl rfl hl.1 rfl (lv_room (Nat.le_of_ble_eq_true rfl)) d_Vt_letter_17 ⟨ly_c1 m0.1 mc.1 mF1.1, ly_c1 m0.2 mc.2 mF1.2⟩) hS (fun q _ h => hFc q h) hFc (fun r_ Y_5 t H locs ht hvm hw hB hz1 hk1 hS => ?_)
        rw [hw]
        obtain ⟨hP, -, hD⟩ := hB
        rw [ht] at hP
        have hD := lx_dj hD hFc
        refine W.widen (k := G_5.gc - G0.gc) (n := G_5.gs - G0.gs) (ly_c2 m0.1 mc.1) (ly_c2 m0.2 mc.2) ?_
        have m0 := CG.le_tr m0 mc
        exact hB_20 y_2 r_5 Y_5 G_5 S_5 _ _ _ h m0 hP hD hS (lv_sub hl [2] rfl)
      · exact absurd (th_Vt_entryHere h9) (by decide)
  have hB_5 : ∀ (y_1 : Int32) (y_2 : Int32) (z_1 : Int32) (Y : CT) (G : CG) (S : CS) (H : Heap) (locs : List Loc) (ls : Array Slot), f_Vt_letter_5 K y_1 y_2 z_1 G S = some (.error 1, G', S') → CG.le G0 G → va_P (dC, dI) classes (wV M Y G S) H → va_D A (wV M Y G S) → va_S A s.heap H locs → lv_has ls 3 [(0, .ref M.o_Vt), (1, .int y_1), (2, .int y_2)] → W p l e ({ frames := 8, cells := G'.gc - G0.gc, slots := G'.gs - G0.gs, locals := 224 }) s m ([.ref M.o_Vt, .int p0, .int p1] : List Value).toArray below meth c H locs (G.gc - G0.gc) (G.gs - G0.gs) Q (F0 m 5 ls [.int z_1, .ref M.o_Vt]) := by
    intro y_1 y_2 z_1 Y G S H locs ls h m0 hP hD hS hl
    have mF := mo_Vt_letter_5 h
    rw [f_Vt_letter_5] at h
    rcases lf_aT h with ⟨r_2, G_2, S_2, hc_2, h⟩ | h9
    · have mc := mo_Vt_readsInodes hc_2
      have ml_2 := mo_Vt_readsInodes hc_2
      have mF1 := mo_Vt_letter_8 h
      have hFc := lx_free hD hS hA
      refine va_calli (va_runV (As := [.int z_1]) (rest := []) ⟨hx, hb, hml, hown, hts⟩ (l_Vt_readsInodes l dC dI X _ hc_2) (cwV 1 hts (gwV good_Vq (u_Vq_Vt _ k_Vt_111) (u_Vq_Vt _ k_Vt_112) (u_Vq_Vt _ k_Vt_215) (u_Vq_Vt _ k_Vt_0) (wcs (u_Vq_Vt _ k_Vt_113) (fun _ h => h))) rfl rfl rfl (by decide +kernel) ⟨Nat.le_of_ble_eq_true rfl, Nat.le_of_ble_eq_true rfl⟩) (pv_ofE (X.same _) (fun U z1 z2 => X.mono _ _ U hFc (hEw _ _ hS U z1 z2)) hP hK hD (va_recv hK hP (ci := 11) (q0 := 0) rfl rfl)) rfl rfl hl.1 rfl (lv_room (Nat.le_of_ble_eq_true rfl)) d_Vt_letter_5 ⟨ly_c1 m0.1 mc.1 mF1.1, ly_c1 m0.2 mc.2 mF1.2⟩) hS (fun q _ h => hFc q h) hFc (fun r_ Y_2 t H locs ht hvm hw hB hz1 hk1 hS => ?_)
      rw [hw]
      obtain ⟨hP, -, hD⟩ := hB
      rw [ht] at hP
      have hD := lx_dj hD hFc
      refine W.widen (k := G_2.gc - G0.gc) (n := G_2.gs - G0.gs) (ly_c2 m0.1 mc.1) (ly_c2 m0.2 mc.2) ?_
      have m0 := CG.le_tr m0 mc
      exact hB_8 y_1 y_2 r_2 Y_2 G_2 S_2 _ _ _ h m0 hP hD hS (lv_sub hl [0, 1, 2] rfl)
    · have mc := mo_Vt_readsInodes h9
      have hFc := lx_free hD hS hA
      rw [hQ]
      exact x_outV (n := 1) (As := [.int z_1]) (rest := []) (b := M.o_Vt) (st0 := [.int z_1, .ref M.o_Vt]) ⟨hx, hb, hml, hown, hts⟩ (lt_Vt_readsInodes_1 l hfl dC dI X _ h9) (cwV 1 hts (gwV good_Vq (u_Vq_Vt _ k_Vt_111) (u_Vq_Vt _ k_Vt_112) (u_Vq_Vt _ k_Vt_215) (u_Vq_Vt _ k_Vt_0) (wcs (u_Vq_Vt _ k_Vt_113) (fun _ h => h))) rfl rfl rfl (by decide +kernel) ⟨Nat.le_of_ble_eq_true rfl, Nat.le_of_ble_eq_true rfl⟩) (pv_ofE (X.same _) (fun U z1 z2 => X.mono _ _ U hFc (hEw _ _ hS U z1 z2)) hP hK hD (va_recv hK hP (ci := 11) (q0 := 0) rfl rfl)) rfl hl.1 rfl (Nat.le_of_ble_eq_true rfl) d_Vt_letter_5 ⟨ly_c2 m0.1 mc.1, ly_c2 m0.2 mc.2⟩ hlocks hout ⟨ly_c2 m0.1 mc.1, ly_c2 m0.2 mc.2⟩ (fun E st t U z1 z2 z3 z4 z5 => ly_outQ hS hK hFc z1 z3 z4 z5) ⟨hS.2.2, fun z h => hFc z h⟩
  have m0 : CG.le G0 G0 := ⟨Nat.le_refl _, Nat.le_refl _⟩
  have mF := mo_Vt_letter h
  refine W.widen (k := G0.gc - G0.gc) (n := G0.gs - G0.gs) (Nat.zero_le _) (Nat.zero_le _) ?_
  rw [f_Vt_letter] at h
  refine lv_aload_n hx hb d_Vt_letter_0 rfl (lv_at hl 0 rfl) ?_
  refine lv_aload_n hx hb d_Vt_letter_1 rfl (lv_at hl 0 rfl) ?_
  obtain ⟨r_1, G_1, S_1, hc_1, h⟩ := lf_nE h
  have mc := mo_Vt_look hc_1
  have ml_1 := mo_Vt_look hc_1
  have mF1 := mo_Vt_letter_5 h
  have hFc := lx_free hD hS hA
  refine va_calli (va_runV (As := []) (rest := [.ref M.o_Vt]) ⟨hx, hb, hml, hown, hts⟩ (l_Vt_look l dC dI X _ hc_1) (cwV 0 hts (gwV good_Vq (u_Vq_Vt _ k_Vt_68) (u_Vq_Vt _ k_Vt_69) (u_Vq_Vt _ k_Vt_214) (u_Vq_Vt _ k_Vt_0) (wcs (u_Vq_Vt _ k_Vt_70) (fun _ h => h))) rfl rfl rfl (by decide +kernel) ⟨Nat.le_of_ble_eq_true rfl, Nat.le_of_ble_eq_true rfl⟩) (pv_ofE (X.same _) (fun U z1 z2 => X.mono _ _ U hFc (hEw _ _ hS U z1 z2)) hP hK hD (va_recv hK hP (ci := 11) (q0 := 0) rfl rfl)) rfl rfl hl.1 rfl (lv_room (Nat.le_of_ble_eq_true rfl)) d_Vt_letter_2 ⟨ly_c1 m0.1 mc.1 mF1.1, ly_c1 m0.2 mc.2 mF1.2⟩) hS (fun q _ h => hFc q h) hFc (fun r_ Y_1 t H locs ht hvm hw hB hz1 hk1 hS => ?_)
  rw [hw]
  obtain ⟨hP, -, hD⟩ := hB
  rw [ht] at hP
  have hD := lx_dj hD hFc
  refine W.widen (k := G_1.gc - G0.gc) (n := G_1.gs - G0.gs) (ly_c2 m0.1 mc.1) (ly_c2 m0.2 mc.2) ?_
  have m0 := CG.le_tr m0 mc
  exact hB_5 p0 p1 r_1 Y_1 G_1 S_1 _ _ _ h m0 hP hD hS (lv_sub hl [0, 1, 2] rfl)
set_option maxHeartbeats 4000000 in
set_option maxRecDepth 100000 in
theorem lt_Vt_letter_2 (l : Launch) (hfl : l.flags = pinnedFlags ++ [noTraceFlag]) (dC : Nat → ClassId) (dI : Nat → Nat → Nat) {K : Nat} {M : CA} {E : (Nat → Prop) → State → Prop} (X : ly_X l dC dI K M E) (sz : Nat) {Y : CT} {G0 G' : CG} {S S' : CS} {p0 : Int32} {p1 : Int32} (h : f_Vt_letter K G0 S p0 p1 = some (.error 2, G', S')) : MetX l y_Vt_letter (.code y_Vt_letter cb_Vt_letter 3 (some .int) :: V_Vq) ({ frames := 8, cells := G'.gc - G0.gc, slots := G'.gs - G0.gs, locals := 224 }) (va_Pc [.ref M.o_Vt, .int p0, .int p1] (fun U => U.heap.size = sz ∧ at_ (dC, dI) (fun _ => True) (wV M Y G0 S) (tV M) U ∧ E (va_A (wV M Y G0 S) sz) U)) (fun _ _ _ _ => False) (x_Q "java/lang/IndexOutOfBoundsException" (va_A (wV M Y G0 S) sz) (fun t => ∃ u : CT, at_ (dC, dI) (va_A (wV M Y G0 S) sz) (wV M u G' S') (tV M) t)) (G'.gc - G0.gc) (G'.gs - G0.gs) (va_A (wV M Y G0 S) sz) := by
  refine MetX.ofW (cc := cb_Vt_letter) (maxL := 3) (ret := (some .int)) (by decide) rfl ?_
  intro p e s m args below meth c s₁ B hml hv
  obtain ⟨rfl, hsz, ⟨hP, hK, hD0⟩, hE⟩ := hv
  have hx := B.exec
  have hb := B.bytes
  have hr := B.returns
  have hts0 := atoms_spec (ws := .code y_Vt_letter cb_Vt_letter 3 (some .int) :: V_Vq) B.pre
  have hts : ∀ w ∈ V_Vq, w.before ([.ref M.o_Vt, .int p0, .int p1] : List Value).toArray s = true := fun w h => hts0 w (List.mem_cons_of_mem _ h)
  have hown : s.vm.findClass R_Vt = some m.cls := findClass_of_methodNamed B.named
  have hlocks := B.notSynchronized
  have hout := x_table B (hts0 _ List.mem_cons_self)
  subst hsz
  have hD := hD0.self (sz := s.heap.size)
  generalize hAe : va_A (wV M Y G0 S) s.heap.size = A at hD hE ⊢
  have hA : ∀ q : Nat, s.heap.size ≤ q → A q := fun q h => by rw [← hAe]; exact Or.inr h
  have hS : va_S A s.heap s.heap [] := va_S.rf
  have hP : va_P (dC, dI) classes (wV M Y G0 S) s.heap := hP
  have hK : va_K (dC, dI) classes (tV M) s := hK
  have hEw : ∀ (H : Heap) (locs : List Loc), va_S A s.heap H locs → ∀ U : State, U.heap = H → s.WarmedH U.vm → E A U := fun H locs hS U hU hW => X.kept A s U H locs hE hS hU hW
  have hl := lv_entry ([.ref M.o_Vt, .int p0, .int p1]) (n := 3) (Nat.le_of_ble_eq_true rfl)
  rw [lg_entry_eq]
  generalize (lg_sl ([.ref M.o_Vt, .int p0, .int p1]) ++ List.replicate (3 - (lg_sl ([.ref M.o_Vt, .int p0, .int p1])).length) Slot.unset).toArray = ls at hl ⊢
  have hl : lv_has ls 3 [(0, .ref M.o_Vt), (1, .int p0), (2, .int p1)] := hl
  refine qabs (fun Q hQ => ?_)
  have hB_20 : ∀ (y_2 : Int32) (z_1 : Int32) (Y : CT) (G : CG) (S : CS) (H : Heap) (locs : List Loc) (ls : Array Slot), f_Vt_letter_20 K y_2 z_1 G S = some (.error 2, G', S') → CG.le G0 G → va_P (dC, dI) classes (wV M Y G S) H → va_D A (wV M Y G S) → va_S A s.heap H locs → lv_has ls 3 [(2, .int y_2)] → W p l e ({ frames := 8, cells := G'.gc - G0.gc, slots := G'.gs - G0.gs, locals := 224 }) s m ([.ref M.o_Vt, .int p0, .int p1] : List Value).toArray below meth c H locs (G.gc - G0.gc) (G.gs - G0.gs) Q (F0 m 20 ls [.int z_1, .ref M.o_In]) := by
    intro y_2 z_1 Y G S H locs ls h m0 hP hD hS hl
    have mF := mo_Vt_letter_20 h
    rw [f_Vt_letter_20] at h
    refine lv_iload_n hx hb d_Vt_letter_20 rfl (lv_at hl 0 rfl) ?_
    obtain ⟨r_7, S_7, hc_7, h⟩ := lf_cE h
    have hFc := lx_free hD hS hA
    refine va_calli (va_runV (As := [.int z_1, .int y_2]) (rest := []) ⟨hx, hb, hml, hown, hts⟩ (l_In_nameByte l dC dI X _ hc_7) (cwV 2 hts (gwV good_Vq (u_Vq_Vt _ k_Vt_129) (u_Vq_In _ k_In_43) (u_Vq_In _ k_In_44) (u_Vq_In _ k_In_0) (wcs (u_Vq_In _ k_In_45) (fun _ h => h))) rfl rfl rfl (by decide +kernel) ⟨Nat.le_of_ble_eq_true rfl, Nat.le_of_ble_eq_true rfl⟩) (pv_ofE (X.same _) (fun U z1 z2 => X.mono _ _ U hFc (hEw _ _ hS U z1 z2)) hP hK hD (va_recv hK hP (ci := 6) (q0 := 9) rfl rfl)) rfl rfl hl.1 rfl (lv_room (Nat.le_of_ble_eq_true rfl)) d_Vt_letter_21 ⟨ly_c0 mF.1, ly_c0 mF.2⟩) hS (fun q _ h => hFc q h) hFc (fun r_ u t H locs ht hvm hw hB hz1 hk1 hS => ?_)
    rw [hw]
    obtain ⟨hP, -, hD⟩ := hB
    rw [ht] at hP
    have hD := lx_dj hD hFc
    exact lf_xo h
  have hB_34 : ∀ (y_2 : Int32) (z_1 : Int32) (Y : CT) (G : CG) (S : CS) (H : Heap) (locs : List Loc) (ls : Array Slot), f_Vt_letter_34 K y_2 z_1 G S = some (.error 2, G', S') → CG.le G0 G → va_P (dC, dI) classes (wV M Y G S) H → va_D A (wV M Y G S) → va_S A s.heap H locs → lv_has ls 3 [(2, .int y_2)] → W p l e ({ frames := 8, cells := G'.gc - G0.gc, slots := G'.gs - G0.gs, locals := 224 }) s m ([.ref M.o_Vt, .int p0, .int p1] : List Value).toArray below meth c H locs (G.gc - G0.gc) (G.gs - G0.gs) Q (F0 m 34 ls [.int z_1, .ref M.o_Tr]) := by
    intro y_2 z_1 Y G S H locs ls h m0 hP hD hS hl
    have mF := mo_Vt_letter_34 h
    rw [f_Vt_letter_34] at h
    refine lv_iload_n hx hb d_Vt_letter_34 rfl (lv_at hl 0 rfl) ?_
    obtain ⟨r_6, S_6, hc_6, h⟩ := lf_cE h
    have hFc := lx_free hD hS hA
    refine va_calli (va_runV (As := [.int z_1, .int y_2]) (rest := []) ⟨hx, hb, hml, hown, hts⟩ (l_Tr_nameByte l dC dI X _ hc_6) (cwV 2 hts (gwV good_Vq (u_Vq_Vt _ k_Vt_134) (u_Vq_Tr _ k_Tr_97) (u_Vq_Tr _ k_Tr_98) (u_Vq_Tr _ k_Tr_0) (wcs (u_Vq_Tr _ k_Tr_99) (fun _ h => h))) rfl rfl rfl (by decide +kernel) ⟨Nat.le_of_ble_eq_true rfl, Nat.le_of_ble_eq_true rfl⟩) (pv_ofE (X.same _) (fun U z1 z2 => X.mono _ _ U hFc (hEw _ _ hS U z1 z2)) hP hK hD (va_recv hK hP (ci := 5) (q0 := 4) rfl rfl)) rfl rfl hl.1 rfl (lv_room (Nat.le_of_ble_eq_true rfl)) d_Vt_letter_35 ⟨ly_c0 mF.1, ly_c0 mF.2⟩) hS (fun q _ h => hFc q h) hFc (fun r_ u t H locs ht hvm hw hB hz1 hk1 hS => ?_)
    rw [hw]
    obtain ⟨hP, -, hD⟩ := hB
    rw [ht] at hP
    have hD := lx_dj hD hFc
    exact lf_xo h
  have hB_8 : ∀ (y_1 : Int32) (y_2 : Int32) (z_0 : Int32) (Y : CT) (G : CG) (S : CS) (H : Heap) (locs : List Loc) (ls : Array Slot), f_Vt_letter_8 K y_1 y_2 z_0 G S = some (.error 2, G', S') → CG.le G0 G → va_P (dC, dI) classes (wV M Y G S) H → va_D A (wV M Y G S) → va_S A s.heap H locs → lv_has ls 3 [(0, .ref M.o_Vt), (1, .int y_1), (2, .int y_2)] → W p l e ({ frames := 8, cells := G'.gc - G0.gc, slots := G'.gs - G0.gs, locals := 224 }) s m ([.ref M.o_Vt, .int p0, .int p1] : List Value).toArray below meth c H locs (G.gc - G0.gc) (G.gs - G0.gs) Q (F0 m 8 ls [.int z_0]) := by
    intro y_1 y_2 z_0 Y G S H locs ls h m0 hP hD hS hl
    have mF := mo_Vt_letter_8 h
    rw [f_Vt_letter_8] at h
    refine lv_if_eq (tgt := 25) hx hb d_Vt_letter_8 (by decide) (fun c_3 => ?_) (fun c_3 => ?_)
    · have h := lf_t h c_3
      refine lv_aload_n hx hb d_Vt_letter_25 rfl (lv_at hl 0 rfl) ?_
      refine va_get (D := (dC, dI)) (ci := 11) (v := .ref M.o_Tr) (C := R_Vt) (T := F_Vt) (N := 16) hx hb hts (fun w h => u_Vq_Vt w (i_Vt w h)) hown hK hP 0 rfl rfl 3 (by decide) (hts _ (u_Vq_Vt _ k_Vt_32)) (fun _ h9 => h9) rfl d_Vt_letter_26 ?_
      refine lv_aload_n hx hb d_Vt_letter_29 rfl (lv_at hl 0 rfl) ?_
      refine lv_iload_n hx hb d_Vt_letter_30 rfl (lv_at hl 1 rfl) ?_
      rcases lf_aT h with ⟨r_4, G_4, S_4, hc_4, h⟩ | h9
      · have mc := mo_Vt_itemHere hc_4
        have ml_4 := mo_Vt_itemHere hc_4
        have mF1 := mo_Vt_letter_34 h
        have hFc := lx_free hD hS hA
        refine va_calli (va_runV (As := [.int y_1]) (rest := [.ref M.o_Tr]) ⟨hx, hb, hml, hown, hts⟩ (l_Vt_itemHere l dC dI X _ hc_4) (cwV 1 hts (gwV good_Vq (u_Vq_Vt _ k_Vt_130) (u_Vq_Vt _ k_Vt_131) (u_Vq_Vt _ k_Vt_217) (u_Vq_Vt _ k_Vt_0) (wcs (u_Vq_Vt _ k_Vt_132) (fun _ h => h))) rfl rfl rfl (by decide +kernel) ⟨Nat.le_of_ble_eq_true rfl, Nat.le_of_ble_eq_true rfl⟩) (pv_ofE (X.same _) (fun U z1 z2 => X.mono _ _ U hFc (hEw _ _ hS U z1 z2)) hP hK hD (va_recv hK hP (ci := 11) (q0 := 0) rfl rfl)) rfl rfl hl.1 rfl (lv_room (Nat.le_of_ble_eq_true rfl)) d_Vt_letter_31 ⟨ly_c1 m0.1 mc.1 mF1.1, ly_c1 m0.2 mc.2 mF1.2⟩) hS (fun q _ h => hFc q h) hFc (fun r_ Y_4 t H locs ht hvm hw hB hz1 hk1 hS => ?_)
        rw [hw]
        obtain ⟨hP, -, hD⟩ := hB
        rw [ht] at hP
        have hD := lx_dj hD hFc
        refine W.widen (k := G_4.gc - G0.gc) (n := G_4.gs - G0.gs) (ly_c2 m0.1 mc.1) (ly_c2 m0.2 mc.2) ?_
        have m0 := CG.le_tr m0 mc
        exact hB_34 y_2 r_4 Y_4 G_4 S_4 _ _ _ h m0 hP hD hS (lv_sub hl [2] rfl)
      · have mc := mo_Vt_itemHere h9
        have hFc := lx_free hD hS hA
        rw [hQ]
        exact x_outV (n := 1) (As := [.int y_1]) (rest := [.ref M.o_Tr]) (b := M.o_Vt) (st0 := [.int y_1, .ref M.o_Vt, .ref M.o_Tr]) ⟨hx, hb, hml, hown, hts⟩ (lt_Vt_itemHere_2 l hfl dC dI X _ h9) (cwV 1 hts (gwV good_Vq (u_Vq_Vt _ k_Vt_130) (u_Vq_Vt _ k_Vt_131) (u_Vq_Vt _ k_Vt_217) (u_Vq_Vt _ k_Vt_0) (wcs (u_Vq_Vt _ k_Vt_132) (fun _ h => h))) rfl rfl rfl (by decide +kernel) ⟨Nat.le_of_ble_eq_true rfl, Nat.le_of_ble_eq_true rfl⟩) (pv_ofE (X.same _) (fun U z1 z2 => X.mono _ _ U hFc (hEw _ _ hS U z1 z2)) hP hK hD (va_recv hK hP (ci := 11) (q0 := 0) rfl rfl)) rfl hl.1 rfl (Nat.le_of_ble_eq_true rfl) d_Vt_letter_31 ⟨ly_c2 m0.1 mc.1, ly_c2 m0.2 mc.2⟩ hlocks hout ⟨ly_c2 m0.1 mc.1, ly_c2 m0.2 mc.2⟩ (fun E st t U z1 z2 z3 z4 z5 => ly_outQ hS hK hFc z1 z3 z4 z5) ⟨hS.2.2, fun z h => hFc z h⟩
    · have h := lf_f h c_3
      refine lv_aload_n hx hb d_Vt_letter_11 rfl (lv_at hl 0 rfl) ?_
      refine va_get (D := (dC, dI)) (ci := 11) (v := .ref M.o_In) (C := R_Vt) (T := F_Vt) (N := 16) hx hb hts (fun w h => u_Vq_Vt w (i_Vt w h)) hown hK hP 0 rfl rfl 8 (by decide) (hts _ (u_Vq_Vt _ k_Vt_37)) (fun _ h9 => h9) rfl d_Vt_letter_12 ?_
      refine lv_aload_n hx hb d_Vt_letter_15 rfl (lv_at hl 0 rfl) ?_
      refine lv_iload_n hx hb d_Vt_letter_16 rfl (lv_at hl 1 rfl) ?_
      rcases lf_aT h with ⟨r_5, G_5, S_5, hc_5, h⟩ | h9
      · have mc := mo_Vt_entryHere hc_5
        have ml_5 := mo_Vt_entryHere hc_5
        have mF1 := mo_Vt_letter_20 h
        have hFc := lx_free hD hS hA
        refine va_calli (va_runV (As := [.int y_1]) (rest := [.ref M.o_In]) ⟨hx, hb, hml, hown, hts⟩ (l_Vt_entryHere l dC dI X _ hc_5) (cwV 1 hts (gwV good_Vq (u_Vq_Vt _ k_Vt_122) (u_Vq_Vt _ k_Vt_123) (u_Vq_Vt _ k_Vt_218) (u_Vq_Vt _ k_Vt_0) (wcs (u_Vq_Vt _ k_Vt_124) (fun _ h => h))) rfl rfl rfl (by decide +kernel) ⟨Nat.le_of_ble_eq_true rfl, Nat.le_of_ble_eq_true rfl⟩) (pv_ofE (X.same _) (fun U z1 z2 => X.mono _ _ U hFc (hEw _ _ hS U z1 z2)) hP hK hD (va_recv hK hP (ci := 11) (q0 := 0) rfl rfl)) rfl rfl hl.1 rfl (lv_room (Nat.le_of_ble_eq_true rfl)) d_Vt_letter_17 ⟨ly_c1 m0.1 mc.1 mF1.1, ly_c1 m0.2 mc.2 mF1.2⟩) hS (fun q _ h => hFc q h) hFc (fun r_ Y_5 t H locs ht hvm hw hB hz1 hk1 hS => ?_)
        rw [hw]
        obtain ⟨hP, -, hD⟩ := hB
        rw [ht] at hP
        have hD := lx_dj hD hFc
        refine W.widen (k := G_5.gc - G0.gc) (n := G_5.gs - G0.gs) (ly_c2 m0.1 mc.1) (ly_c2 m0.2 mc.2) ?_
        have m0 := CG.le_tr m0 mc
        exact hB_20 y_2 r_5 Y_5 G_5 S_5 _ _ _ h m0 hP hD hS (lv_sub hl [2] rfl)
      · have mc := mo_Vt_entryHere h9
        have hFc := lx_free hD hS hA
        rw [hQ]
        exact x_outV (n := 1) (As := [.int y_1]) (rest := [.ref M.o_In]) (b := M.o_Vt) (st0 := [.int y_1, .ref M.o_Vt, .ref M.o_In]) ⟨hx, hb, hml, hown, hts⟩ (lt_Vt_entryHere_2 l hfl dC dI X _ h9) (cwV 1 hts (gwV good_Vq (u_Vq_Vt _ k_Vt_122) (u_Vq_Vt _ k_Vt_123) (u_Vq_Vt _ k_Vt_218) (u_Vq_Vt _ k_Vt_0) (wcs (u_Vq_Vt _ k_Vt_124) (fun _ h => h))) rfl rfl rfl (by decide +kernel) ⟨Nat.le_of_ble_eq_true rfl, Nat.le_of_ble_eq_true rfl⟩) (pv_ofE (X.same _) (fun U z1 z2 => X.mono _ _ U hFc (hEw _ _ hS U z1 z2)) hP hK hD (va_recv hK hP (ci := 11) (q0 := 0) rfl rfl)) rfl hl.1 rfl (Nat.le_of_ble_eq_true rfl) d_Vt_letter_17 ⟨ly_c2 m0.1 mc.1, ly_c2 m0.2 mc.2⟩ hlocks hout ⟨ly_c2 m0.1 mc.1, ly_c2 m0.2 mc.2⟩ (fun E st t U z1 z2 z3 z4 z5 => ly_outQ hS hK hFc z1 z3 z4 z5) ⟨hS.2.2, fun z h => hFc z h⟩
  have hB_5 : ∀ (y_1 : Int32) (y_2 : Int32) (z_1 : Int32) (Y : CT) (G : CG) (S : CS) (H : Heap) (locs : List Loc) (ls : Array Slot), f_Vt_letter_5 K y_1 y_2 z_1 G S = some (.error 2, G', S') → CG.le G0 G → va_P (dC, dI) classes (wV M Y G S) H → va_D A (wV M Y G S) → va_S A s.heap H locs → lv_has ls 3 [(0, .ref M.o_Vt), (1, .int y_1), (2, .int y_2)] → W p l e ({ frames := 8, cells := G'.gc - G0.gc, slots := G'.gs - G0.gs, locals := 224 }) s m ([.ref M.o_Vt, .int p0, .int p1] : List Value).toArray below meth c H locs (G.gc - G0.gc) (G.gs - G0.gs) Q (F0 m 5 ls [.int z_1, .ref M.o_Vt]) := by
    intro y_1 y_2 z_1 Y G S H locs ls h m0 hP hD hS hl
    have mF := mo_Vt_letter_5 h
    rw [f_Vt_letter_5] at h
    rcases lf_aT h with ⟨r_2, G_2, S_2, hc_2, h⟩ | h9
    · have mc := mo_Vt_readsInodes hc_2
      have ml_2 := mo_Vt_readsInodes hc_2
      have mF1 := mo_Vt_letter_8 h
      have hFc := lx_free hD hS hA
      refine va_calli (va_runV (As := [.int z_1]) (rest := []) ⟨hx, hb, hml, hown, hts⟩ (l_Vt_readsInodes l dC dI X _ hc_2) (cwV 1 hts (gwV good_Vq (u_Vq_Vt _ k_Vt_111) (u_Vq_Vt _ k_Vt_112) (u_Vq_Vt _ k_Vt_215) (u_Vq_Vt _ k_Vt_0) (wcs (u_Vq_Vt _ k_Vt_113) (fun _ h => h))) rfl rfl rfl (by decide +kernel) ⟨Nat.le_of_ble_eq_true rfl, Nat.le_of_ble_eq_true rfl⟩) (pv_ofE (X.same _) (fun U z1 z2 => X.mono _ _ U hFc (hEw _ _ hS U z1 z2)) hP hK hD (va_recv hK hP (ci := 11) (q0 := 0) rfl rfl)) rfl rfl hl.1 rfl (lv_room (Nat.le_of_ble_eq_true rfl)) d_Vt_letter_5 ⟨ly_c1 m0.1 mc.1 mF1.1, ly_c1 m0.2 mc.2 mF1.2⟩) hS (fun q _ h => hFc q h) hFc (fun r_ Y_2 t H locs ht hvm hw hB hz1 hk1 hS => ?_)
      rw [hw]
      obtain ⟨hP, -, hD⟩ := hB
      rw [ht] at hP
      have hD := lx_dj hD hFc
      refine W.widen (k := G_2.gc - G0.gc) (n := G_2.gs - G0.gs) (ly_c2 m0.1 mc.1) (ly_c2 m0.2 mc.2) ?_
      have m0 := CG.le_tr m0 mc
      exact hB_8 y_1 y_2 r_2 Y_2 G_2 S_2 _ _ _ h m0 hP hD hS (lv_sub hl [0, 1, 2] rfl)
    · exact absurd (th_Vt_readsInodes h9) (by decide)
  have m0 : CG.le G0 G0 := ⟨Nat.le_refl _, Nat.le_refl _⟩
  have mF := mo_Vt_letter h
  refine W.widen (k := G0.gc - G0.gc) (n := G0.gs - G0.gs) (Nat.zero_le _) (Nat.zero_le _) ?_
  rw [f_Vt_letter] at h
  refine lv_aload_n hx hb d_Vt_letter_0 rfl (lv_at hl 0 rfl) ?_
  refine lv_aload_n hx hb d_Vt_letter_1 rfl (lv_at hl 0 rfl) ?_
  obtain ⟨r_1, G_1, S_1, hc_1, h⟩ := lf_nE h
  have mc := mo_Vt_look hc_1
  have ml_1 := mo_Vt_look hc_1
  have mF1 := mo_Vt_letter_5 h
  have hFc := lx_free hD hS hA
  refine va_calli (va_runV (As := []) (rest := [.ref M.o_Vt]) ⟨hx, hb, hml, hown, hts⟩ (l_Vt_look l dC dI X _ hc_1) (cwV 0 hts (gwV good_Vq (u_Vq_Vt _ k_Vt_68) (u_Vq_Vt _ k_Vt_69) (u_Vq_Vt _ k_Vt_214) (u_Vq_Vt _ k_Vt_0) (wcs (u_Vq_Vt _ k_Vt_70) (fun _ h => h))) rfl rfl rfl (by decide +kernel) ⟨Nat.le_of_ble_eq_true rfl, Nat.le_of_ble_eq_true rfl⟩) (pv_ofE (X.same _) (fun U z1 z2 => X.mono _ _ U hFc (hEw _ _ hS U z1 z2)) hP hK hD (va_recv hK hP (ci := 11) (q0 := 0) rfl rfl)) rfl rfl hl.1 rfl (lv_room (Nat.le_of_ble_eq_true rfl)) d_Vt_letter_2 ⟨ly_c1 m0.1 mc.1 mF1.1, ly_c1 m0.2 mc.2 mF1.2⟩) hS (fun q _ h => hFc q h) hFc (fun r_ Y_1 t H locs ht hvm hw hB hz1 hk1 hS => ?_)
  rw [hw]
  obtain ⟨hP, -, hD⟩ := hB
  rw [ht] at hP
  have hD := lx_dj hD hFc
  refine W.widen (k := G_1.gc - G0.gc) (n := G_1.gs - G0.gs) (ly_c2 m0.1 mc.1) (ly_c2 m0.2 mc.2) ?_
  have m0 := CG.le_tr m0 mc
  exact hB_5 p0 p1 r_1 Y_1 G_1 S_1 _ _ _ h m0 hP hD hS (lv_sub hl [0, 1, 2] rfl)
set_option maxHeartbeats 4000000 in
set_option maxRecDepth 100000 in
theorem l_Vt_make (l : Launch) (dC : Nat → ClassId) (dI : Nat → Nat → Nat) {K : Nat} {M : CA} {E : (Nat → Prop) → State → Prop} (X : ly_X l dC dI K M E) (sz : Nat) {Y : CT} {G0 G' : CG} {S S' : CS} {p0 : Int32} {r : Int32} (h : f_Vt_make K G0 S p0 = some (.ok r, G', S')) : Met l y_Vt_make (.code y_Vt_make cb_Vt_make 3 (some .int) :: V_Vq) ({ frames := 8, cells := G'.gc - G0.gc, slots := G'.gs - G0.gs, locals := 224 }) (va_Pc [.ref M.o_Vt, .int p0] (fun U => U.heap.size = sz ∧ at_ (dC, dI) (fun _ => True) (wV M Y G0 S) (tV M) U ∧ E (va_A (wV M Y G0 S) sz) U)) (va_Qi (fun (r_ : Int32) (u : CT) => r_ = r) (fun (u : CT) t => at_ (dC, dI) (va_A (wV M Y G0 S) sz) (wV M u G' S') (tV M) t) (va_A (wV M Y G0 S) sz)) (G'.gc - G0.gc) (G'.gs - G0.gs) (va_A (wV M Y G0 S) sz) := by
  refine Met.ofW (cc := cb_Vt_make) (maxL := 3) (ret := (some .int)) (by decide) rfl ?_
  intro p e s m args below meth c s₁ B hml hv
  obtain ⟨rfl, hsz, ⟨hP, hK, hD0⟩, hE⟩ := hv
  have hx := B.exec
  have hb := B.bytes
  have hr := B.returns
  have hts0 := atoms_spec (ws := .code y_Vt_make cb_Vt_make 3 (some .int) :: V_Vq) B.pre
  have hts : ∀ w ∈ V_Vq, w.before ([.ref M.o_Vt, .int p0] : List Value).toArray s = true := fun w h => hts0 w (List.mem_cons_of_mem _ h)
  have hown : s.vm.findClass R_Vt = some m.cls := findClass_of_methodNamed B.named
  subst hsz
  have hD := hD0.self (sz := s.heap.size)
  generalize hAe : va_A (wV M Y G0 S) s.heap.size = A at hD hE ⊢
  have hA : ∀ q : Nat, s.heap.size ≤ q → A q := fun q h => by rw [← hAe]; exact Or.inr h
  have hS : va_S A s.heap s.heap [] := va_S.rf
  have hP : va_P (dC, dI) classes (wV M Y G0 S) s.heap := hP
  have hK : va_K (dC, dI) classes (tV M) s := hK
  have hEw : ∀ (H : Heap) (locs : List Loc), va_S A s.heap H locs → ∀ U : State, U.heap = H → s.WarmedH U.vm → E A U := fun H locs hS U hU hW => X.kept A s U H locs hE hS hU hW
  have hl := lv_entry ([.ref M.o_Vt, .int p0]) (n := 3) (Nat.le_of_ble_eq_true rfl)
  rw [lg_entry_eq]
  generalize (lg_sl ([.ref M.o_Vt, .int p0]) ++ List.replicate (3 - (lg_sl ([.ref M.o_Vt, .int p0])).length) Slot.unset).toArray = ls at hl ⊢
  have hl : lv_has ls 3 [(0, .ref M.o_Vt), (1, .int p0)] := hl
  refine qabs (fun Q hQ => ?_)
  have hB_45 : ∀ (Y : CT) (G : CG) (S : CS) (H : Heap) (locs : List Loc) (ls : Array Slot), f_Vt_make_45 K G S = some (.ok r, G', S') → CG.le G0 G → va_P (dC, dI) classes (wV M Y G S) H → va_D A (wV M Y G S) → va_S A s.heap H locs → lv_has ls 3 [] → W p l e ({ frames := 8, cells := G'.gc - G0.gc, slots := G'.gs - G0.gs, locals := 224 }) s m ([.ref M.o_Vt, .int p0] : List Value).toArray below meth c H locs (G.gc - G0.gc) (G.gs - G0.gs) Q (F0 m 45 ls []) := by
    intro Y G S H locs ls h m0 hP hD hS hl
    have mF := mo_Vt_make_45 h
    rw [f_Vt_make_45] at h
    exact lf_xe h
  have hB_16 : ∀ (y_1 : Int32) (y_2 : Int32) (Y : CT) (G : CG) (S : CS) (H : Heap) (locs : List Loc) (ls : Array Slot), f_Vt_make_16 K y_1 y_2 G S = some (.ok r, G', S') → CG.le G0 G → va_P (dC, dI) classes (wV M Y G S) H → va_D A (wV M Y G S) → va_S A s.heap H locs → lv_has ls 3 [(0, .ref M.o_Vt), (1, .int y_1), (2, .int y_2)] → W p l e ({ frames := 8, cells := G'.gc - G0.gc, slots := G'.gs - G0.gs, locals := 224 }) s m ([.ref M.o_Vt, .int p0] : List Value).toArray below meth c H locs (G.gc - G0.gc) (G.gs - G0.gs) Q (F0 m 16 ls []) := by
    intro y_1 y_2 Y G S H locs ls h m0 hP hD hS hl
    have mF := mo_Vt_make_16 h
    rw [f_Vt_make_16] at h
    refine lv_aload_n hx hb d_Vt_make_16 rfl (lv_at hl 0 rfl) ?_
    refine va_get (D := (dC, dI)) (ci := 11) (v := .ref M.o_Ed) (C := R_Vt) (T := F_Vt) (N := 16) hx hb hts (fun w h => u_Vq_Vt w (i_Vt w h)) hown hK hP 0 rfl rfl 5 (by decide) (hts _ (u_Vq_Vt _ k_Vt_34)) (fun _ h9 => h9) rfl d_Vt_make_17 ?_
    refine lv_aload_n hx hb d_Vt_make_20 rfl (lv_at hl 0 rfl) ?_
    refine va_get (D := (dC, dI)) (ci := 11) (v := .ref M.o_Tp) (C := R_Vt) (T := F_Vt) (N := 16) hx hb hts (fun w h => u_Vq_Vt w (i_Vt w h)) hown hK hP 0 rfl rfl 1 (by decide) (hts _ (u_Vq_Vt _ k_Vt_30)) (fun _ h9 => h9) rfl d_Vt_make_21 ?_
    refine lv_iload_n hx hb d_Vt_make_24 rfl (lv_at hl 2 rfl) ?_
    obtain ⟨r_4, S_4, hc_4, h⟩ := lf_cE h
    have hFc := lx_free hD hS hA
    refine va_calli (va_runV (As := [.ref M.o_Tp, .int y_2]) (rest := []) ⟨hx, hb, hml, hown, hts⟩ (l_Ed_readName l dC dI X _ hc_4) (cwV 2 hts (gwV good_Vq (u_Vq_Vt _ k_Vt_169) (u_Vq_Ed _ k_Ed_37) (u_Vq_Ed _ k_Ed_38) (u_Vq_Ed _ k_Ed_0) (wcs (u_Vq_Ed _ k_Ed_39) (fun _ h => h))) rfl rfl rfl (by decide +kernel) ⟨Nat.le_of_ble_eq_true rfl, Nat.le_of_ble_eq_true rfl⟩) (pv_ofE (X.same _) (fun U z1 z2 => X.mono _ _ U hFc (hEw _ _ hS U z1 z2)) hP hK hD (va_recv hK hP (ci := 8) (q0 := 6) rfl rfl)) rfl rfl hl.1 rfl (lv_room (Nat.le_of_ble_eq_true rfl)) d_Vt_make_25 ⟨ly_c0 mF.1, ly_c0 mF.2⟩) hS (fun q _ h => hFc q h) hFc (fun r_ u t H locs ht hvm hw hB hz1 hk1 hS => ?_)
    rw [hw]
    obtain ⟨hP, -, hD⟩ := hB
    rw [ht] at hP
    have hD := lx_dj hD hFc
    refine lv_if_eq (tgt := 45) hx hb d_Vt_make_28 (by decide) (fun c_5 => ?_) (fun c_5 => ?_)
    · have h := lf_t h c_5
      exact hB_45 Y G S_4 _ _ _ h m0 hP hD hS (lv_sub hl [] rfl)
    · have h := lf_f h c_5
      refine lv_aload_n hx hb d_Vt_make_31 rfl (lv_at hl 0 rfl) ?_
      refine va_get (D := (dC, dI)) (ci := 11) (v := .ref M.o_Ed) (C := R_Vt) (T := F_Vt) (N := 16) hx hb hts (fun w h => u_Vq_Vt w (i_Vt w h)) hown hK hP 0 rfl rfl 5 (by decide) (hts _ (u_Vq_Vt _ k_Vt_34)) (fun _ h9 => h9) rfl d_Vt_make_32 ?_
      refine lv_aload_n hx hb d_Vt_make_35 rfl (lv_at hl 0 rfl) ?_
      refine va_get (D := (dC, dI)) (ci := 11) (v := .int S_4.v_Vt_here) (C := R_Vt) (T := F_Vt) (N := 16) hx hb hts (fun w h => u_Vq_Vt w (i_Vt w h)) hown hK hP 0 rfl rfl 12 (by decide) (hts _ (u_Vq_Vt _ k_Vt_41)) (fun _ h9 => h9) rfl d_Vt_make_36 ?_
      obtain ⟨r_6, S_6, hc_6, h⟩ := lf_cE h
      have hFc := lx_free hD hS hA
      refine va_calli (va_runV (As := [.int S_4.v_Vt_here]) (rest := []) ⟨hx, hb, hml, hown, hts⟩ (l_Ed_clashes l dC dI X _ hc_6) (cwV 1 hts (gwV good_Vq (u_Vq_Vt _ k_Vt_170) (u_Vq_Ed _ k_Ed_49) (u_Vq_Ed _ k_Ed_50) (u_Vq_Ed _ k_Ed_0) (wcs (u_Vq_Ed _ k_Ed_51) (fun _ h => h))) rfl rfl rfl (by decide +kernel) ⟨Nat.le_of_ble_eq_true rfl, Nat.le_of_ble_eq_true rfl⟩) (pv_ofE (X.same _) (fun U z1 z2 => X.mono _ _ U hFc (hEw _ _ hS U z1 z2)) hP hK hD (va_recv hK hP (ci := 8) (q0 := 6) rfl rfl)) rfl rfl hl.1 rfl (lv_room (Nat.le_of_ble_eq_true rfl)) d_Vt_make_39 ⟨ly_c0 mF.1, ly_c0 mF.2⟩) hS (fun q _ h => hFc q h) hFc (fun r_ u t H locs ht hvm hw hB hz1 hk1 hS => ?_)
      rw [hw]
      obtain ⟨hP, -, hD⟩ := hB
      rw [ht] at hP
      have hD := lx_dj hD hFc
      refine lv_if_eq (tgt := 55) hx hb d_Vt_make_42 (by decide) (fun c_7 => ?_) (fun c_7 => ?_)
      · have h := lf_t h c_7
        refine lv_aload_n hx hb d_Vt_make_55 rfl (lv_at hl 0 rfl) ?_
        refine va_get (D := (dC, dI)) (ci := 11) (v := .ref M.o_Ed) (C := R_Vt) (T := F_Vt) (N := 16) hx hb hts (fun w h => u_Vq_Vt w (i_Vt w h)) hown hK hP 0 rfl rfl 5 (by decide) (hts _ (u_Vq_Vt _ k_Vt_34)) (fun _ h9 => h9) rfl d_Vt_make_56 ?_
        refine lv_aload_n hx hb d_Vt_make_59 rfl (lv_at hl 0 rfl) ?_
        refine va_get (D := (dC, dI)) (ci := 11) (v := .int S_6.v_Vt_here) (C := R_Vt) (T := F_Vt) (N := 16) hx hb hts (fun w h => u_Vq_Vt w (i_Vt w h)) hown hK hP 0 rfl rfl 12 (by decide) (hts _ (u_Vq_Vt _ k_Vt_41)) (fun _ h9 => h9) rfl d_Vt_make_60 ?_
        refine lv_iload_n hx hb d_Vt_make_63 rfl (lv_at hl 1 rfl) ?_
        obtain ⟨r_8, S_8, hc_8, h⟩ := lf_cE h
        have hFc := lx_free hD hS hA
        refine va_calli (va_runV (As := [.int S_6.v_Vt_here, .int y_1]) (rest := []) ⟨hx, hb, hml, hown, hts⟩ (l_Ed_findSlots l dC dI X _ hc_8) (cwV 2 hts (gwV good_Vq (u_Vq_Vt _ k_Vt_171) (u_Vq_Ed _ k_Ed_60) (u_Vq_Ed _ k_Ed_61) (u_Vq_Ed _ k_Ed_0) (wcs (u_Vq_Ed _ k_Ed_62) (fun _ h => h))) rfl rfl rfl (by decide +kernel) ⟨Nat.le_of_ble_eq_true rfl, Nat.le_of_ble_eq_true rfl⟩) (pv_ofE (X.same _) (fun U z1 z2 => X.mono _ _ U hFc (hEw _ _ hS U z1 z2)) hP hK hD (va_recv hK hP (ci := 8) (q0 := 6) rfl rfl)) rfl rfl hl.1 rfl (lv_room (Nat.le_of_ble_eq_true rfl)) d_Vt_make_64 ⟨ly_c0 mF.1, ly_c0 mF.2⟩) hS (fun q _ h => hFc q h) hFc (fun r_ u t H locs ht hvm hw hB hz1 hk1 hS => ?_)
        rw [hw]
        obtain ⟨hP, -, hD⟩ := hB
        rw [ht] at hP
        have hD := lx_dj hD hFc
        refine lv_if_ne (tgt := 80) hx hb d_Vt_make_67 (by decide) (fun c_9 => ?_) (fun c_9 => ?_)
        · have h := lf_f h c_9
          refine lv_aload_n hx hb d_Vt_make_80 rfl (lv_at hl 0 rfl) ?_
          obtain ⟨S_10, hc_10, h⟩ := lf_bE h
          have hFc := lx_free hD hS hA
          refine va_callv (va_runV (As := []) (rest := []) ⟨hx, hb, hml, hown, hts⟩ (l_Vt_changed l dC dI X _ hc_10) (cwV 0 hts (gwV good_Vq (u_Vq_Vt _ k_Vt_62) (u_Vq_Vt _ k_Vt_63) (u_Vq_Vt _ k_Vt_213) (u_Vq_Vt _ k_Vt_0) (wcs (u_Vq_Vt _ k_Vt_64) (fun _ h => h))) rfl rfl rfl (by decide +kernel) ⟨Nat.le_of_ble_eq_true rfl, Nat.le_of_ble_eq_true rfl⟩) (pv_ofE (X.same _) (fun U z1 z2 => X.mono _ _ U hFc (hEw _ _ hS U z1 z2)) hP hK hD (va_recv hK hP (ci := 11) (q0 := 0) rfl rfl)) rfl rfl hl.1 rfl (lv_room (Nat.le_of_ble_eq_true rfl)) d_Vt_make_81 ⟨ly_c0 mF.1, ly_c0 mF.2⟩) hS (fun q _ h => hFc q h) hFc (fun u t H locs ht hvm hw hB hz1 hk1 hS => ?_)
          obtain ⟨hP, -, hD⟩ := hB
          rw [ht] at hP
          have hD := lx_dj hD hFc
          refine lv_aload_n hx hb d_Vt_make_84 rfl (lv_at hl 0 rfl) ?_
          refine va_get (D := (dC, dI)) (ci := 11) (v := .ref M.o_Ed) (C := R_Vt) (T := F_Vt) (N := 16) hx hb hts (fun w h => u_Vq_Vt w (i_Vt w h)) hown hK hP 0 rfl rfl 5 (by decide) (hts _ (u_Vq_Vt _ k_Vt_34)) (fun _ h9 => h9) rfl d_Vt_make_85 ?_
          refine lv_aload_n hx hb d_Vt_make_88 rfl (lv_at hl 0 rfl) ?_
          refine va_get (D := (dC, dI)) (ci := 11) (v := .int S_10.v_Vt_here) (C := R_Vt) (T := F_Vt) (N := 16) hx hb hts (fun w h => u_Vq_Vt w (i_Vt w h)) hown hK hP 0 rfl rfl 12 (by decide) (hts _ (u_Vq_Vt _ k_Vt_41)) (fun _ h9 => h9) rfl d_Vt_make_89 ?_
          refine lv_iload_n hx hb d_Vt_make_92 rfl (lv_at hl 1 rfl) ?_
          obtain ⟨r_11, S_11, hc_11, h⟩ := lf_cE h
          have hFc := lx_free hD hS hA
          refine va_calli (va_runV (As := [.int S_10.v_Vt_here, .int y_1]) (rest := []) ⟨hx, hb, hml, hown, hts⟩ (l_Ed_addItem l dC dI X _ hc_11) (cwV 2 hts (gwV good_Vq (u_Vq_Vt _ k_Vt_175) (u_Vq_Ed _ k_Ed_69) (u_Vq_Ed _ k_Ed_70) (u_Vq_Ed _ k_Ed_0) (wcs (u_Vq_Ed _ k_Ed_71) (fun _ h => h))) rfl rfl rfl (by decide +kernel) ⟨Nat.le_of_ble_eq_true rfl, Nat.le_of_ble_eq_true rfl⟩) (pv_ofE (X.same _) (fun U z1 z2 => X.mono _ _ U hFc (hEw _ _ hS U z1 z2)) hP hK hD (va_recv hK hP (ci := 8) (q0 := 6) rfl rfl)) rfl rfl hl.1 rfl (lv_room (Nat.le_of_ble_eq_true rfl)) d_Vt_make_93 ⟨ly_c0 mF.1, ly_c0 mF.2⟩) hS (fun q _ h => hFc q h) hFc (fun r_ u t H locs ht hvm hw hB hz1 hk1 hS => ?_)
          rw [hw]
          obtain ⟨hP, -, hD⟩ := hB
          rw [ht] at hP
          have hD := lx_dj hD hFc
          rw [hQ]
          have e1 : r_11 = r := Except.ok.inj (congrArg (fun z => z.1) (Option.some.inj h))
          have e2 : G = G' := congrArg (fun z => z.2.1) (Option.some.inj h)
          have e3 : S_11 = S' := congrArg (fun z => z.2.2) (Option.some.inj h)
          have hP := ly_newP3 e2.symm e3.symm hP
          have hD := ly_newD3 e2.symm e3.symm hD
          refine W.widen (k := G'.gc - G0.gc) (n := G'.gs - G0.gs) (ly_wc e2) (ly_ws e2) ?_
          exact W.iret (v := r_11) hx hb hr (fun t ht hW => ⟨⟨r_11, Y, rfl, e1, by rw [ht]; exact hP, va_K.moved hW.alike hK, hD⟩, hS.F ht⟩) hS.2.2 d_Vt_make_96
        · have h := lf_t h c_9
          exact lf_xe h
      · have h := lf_f h c_7
        exact hB_45 Y G S_6 _ _ _ h m0 hP hD hS (lv_sub hl [] rfl)
  have hB_13 : ∀ (y_1 : Int32) (y_2 : Int32) (z_1 : Int32) (Y : CT) (G : CG) (S : CS) (H : Heap) (locs : List Loc) (ls : Array Slot), f_Vt_make_13 K y_1 y_2 z_1 G S = some (.ok r, G', S') → CG.le G0 G → va_P (dC, dI) classes (wV M Y G S) H → va_D A (wV M Y G S) → va_S A s.heap H locs → lv_has ls 3 [(0, .ref M.o_Vt), (1, .int y_1), (2, .int y_2)] → W p l e ({ frames := 8, cells := G'.gc - G0.gc, slots := G'.gs - G0.gs, locals := 224 }) s m ([.ref M.o_Vt, .int p0] : List Value).toArray below meth c H locs (G.gc - G0.gc) (G.gs - G0.gs) Q (F0 m 13 ls [.int z_1, .ref M.o_Vt]) := by
    intro y_1 y_2 z_1 Y G S H locs ls h m0 hP hD hS hl
    have mF := mo_Vt_make_13 h
    rw [f_Vt_make_13] at h
    obtain ⟨r_3, G_3, S_3, hc_3, h⟩ := lf_aO h
    have mc := mo_Vt_wantSoundTable hc_3
    have ml_3 := mo_Vt_wantSoundTable hc_3
    have mF1 := mo_Vt_make_16 h
    have hFc := lx_free hD hS hA
    refine va_callv (va_runV (As := [.int z_1]) (rest := []) ⟨hx, hb, hml, hown, hts⟩ (l_Vt_wantSoundTable l dC dI X _ hc_3) (cwV 1 hts (gwV good_Vq (u_Vq_Vt _ k_Vt_166) (u_Vq_Vt _ k_Vt_167) (u_Vq_Vt _ k_Vt_216) (u_Vq_Vt _ k_Vt_0) (wcs (u_Vq_Vt _ k_Vt_168) (fun _ h => h))) rfl rfl rfl (by decide +kernel) ⟨Nat.le_of_ble_eq_true rfl, Nat.le_of_ble_eq_true rfl⟩) (pv_ofE (X.same _) (fun U z1 z2 => X.mono _ _ U hFc (hEw _ _ hS U z1 z2)) hP hK hD (va_recv hK hP (ci := 11) (q0 := 0) rfl rfl)) rfl rfl hl.1 rfl (lv_room (Nat.le_of_ble_eq_true rfl)) d_Vt_make_13 ⟨ly_c1 m0.1 mc.1 mF1.1, ly_c1 m0.2 mc.2 mF1.2⟩) hS (fun q _ h => hFc q h) hFc (fun Y_3 t H locs ht hvm hw hB hz1 hk1 hS => ?_)
    obtain ⟨hP, -, hD⟩ := hB
    rw [ht] at hP
    have hD := lx_dj hD hFc
    refine W.widen (k := G_3.gc - G0.gc) (n := G_3.gs - G0.gs) (ly_c2 m0.1 mc.1) (ly_c2 m0.2 mc.2) ?_
    have m0 := CG.le_tr m0 mc
    exact hB_16 y_1 y_2 Y_3 G_3 S_3 _ _ _ h m0 hP hD hS (lv_sub hl [0, 1, 2] rfl)
  have m0 : CG.le G0 G0 := ⟨Nat.le_refl _, Nat.le_refl _⟩
  have mF := mo_Vt_make h
  refine W.widen (k := G0.gc - G0.gc) (n := G0.gs - G0.gs) (Nat.zero_le _) (Nat.zero_le _) ?_
  rw [f_Vt_make] at h
  refine lv_aload_n hx hb d_Vt_make_0 rfl (lv_at hl 0 rfl) ?_
  refine va_get (D := (dC, dI)) (ci := 11) (v := .ref M.o_Tp) (C := R_Vt) (T := F_Vt) (N := 16) hx hb hts (fun w h => u_Vq_Vt w (i_Vt w h)) hown hK hP 0 rfl rfl 1 (by decide) (hts _ (u_Vq_Vt _ k_Vt_30)) (fun _ h9 => h9) rfl d_Vt_make_1 ?_
  obtain ⟨r_1, S_1, hc_1, h⟩ := lf_cE h
  have hFc := lx_free hD hS hA
  refine va_calli (va_runV (As := []) (rest := []) ⟨hx, hb, hml, hown, hts⟩ (l_Tp_useUp l dC dI X _ hc_1) (cwV 0 hts (gwV good_Vq (u_Vq_Vt _ k_Vt_56) (u_Vq_Tp _ k_Tp_16) (u_Vq_Tp _ k_Tp_17) (u_Vq_Tp _ k_Tp_0) (wcs (u_Vq_Tp _ k_Tp_18) (fun _ h => h))) rfl rfl rfl (by decide +kernel) ⟨Nat.le_of_ble_eq_true rfl, Nat.le_of_ble_eq_true rfl⟩) (pv_ofE (X.same _) (fun U z1 z2 => X.mono _ _ U hFc (hEw _ _ hS U z1 z2)) hP hK hD (va_recv hK hP (ci := 3) (q0 := 2) rfl rfl)) rfl rfl hl.1 rfl (lv_room (Nat.le_of_ble_eq_true rfl)) d_Vt_make_4 ⟨ly_c0 mF.1, ly_c0 mF.2⟩) hS (fun q _ h => hFc q h) hFc (fun r_ u t H locs ht hvm hw hB hz1 hk1 hS => ?_)
  rw [hw]
  obtain ⟨hP, -, hD⟩ := hB
  rw [ht] at hP
  have hD := lx_dj hD hFc
  refine lv_istore_n (lv' := [(2, .int r_1), (0, .ref M.o_Vt), (1, .int p0)]) hx hb d_Vt_make_7 rfl hl (by decide) rfl (fun ls hl => ?_)
  refine lv_aload_n hx hb d_Vt_make_8 rfl (lv_at hl 1 rfl) ?_
  refine lv_aload_n hx hb d_Vt_make_9 rfl (lv_at hl 1 rfl) ?_
  obtain ⟨r_2, G_2, S_2, hc_2, h⟩ := lf_nE h
  have mc := mo_Vt_look hc_2
  have ml_2 := mo_Vt_look hc_2
  have mF1 := mo_Vt_make_13 h
  have hFc := lx_free hD hS hA
  refine va_calli (va_runV (As := []) (rest := [.ref M.o_Vt]) ⟨hx, hb, hml, hown, hts⟩ (l_Vt_look l dC dI X _ hc_2) (cwV 0 hts (gwV good_Vq (u_Vq_Vt _ k_Vt_68) (u_Vq_Vt _ k_Vt_69) (u_Vq_Vt _ k_Vt_214) (u_Vq_Vt _ k_Vt_0) (wcs (u_Vq_Vt _ k_Vt_70) (fun _ h => h))) rfl rfl rfl (by decide +kernel) ⟨Nat.le_of_ble_eq_true rfl, Nat.le_of_ble_eq_true rfl⟩) (pv_ofE (X.same _) (fun U z1 z2 => X.mono _ _ U hFc (hEw _ _ hS U z1 z2)) hP hK hD (va_recv hK hP (ci := 11) (q0 := 0) rfl rfl)) rfl rfl hl.1 rfl (lv_room (Nat.le_of_ble_eq_true rfl)) d_Vt_make_10 ⟨ly_c1 m0.1 mc.1 mF1.1, ly_c1 m0.2 mc.2 mF1.2⟩) hS (fun q _ h => hFc q h) hFc (fun r_ Y_2 t H locs ht hvm hw hB hz1 hk1 hS => ?_)
  rw [hw]
  obtain ⟨hP, -, hD⟩ := hB
  rw [ht] at hP
  have hD := lx_dj hD hFc
  refine W.widen (k := G_2.gc - G0.gc) (n := G_2.gs - G0.gs) (ly_c2 m0.1 mc.1) (ly_c2 m0.2 mc.2) ?_
  have m0 := CG.le_tr m0 mc
  exact hB_13 p0 r_1 r_2 Y_2 G_2 S_2 _ _ _ h m0 hP hD hS (lv_sub hl [1, 2, 0] rfl)
set_option maxHeartbeats 4000000 in
set_option maxRecDepth 100000 in
theorem lt_Vt_make_0 (l : Launch) (hfl : l.flags = pinnedFlags ++ [noTraceFlag]) (dC : Nat → ClassId) (dI : Nat → Nat → Nat) {K : Nat} {M : CA} {E : (Nat → Prop) → State → Prop} (X : ly_X l dC dI K M E) (sz : Nat) {Y : CT} {G0 G' : CG} {S S' : CS} {p0 : Int32} (h : f_Vt_make K G0 S p0 = some (.error 0, G', S')) : MetX l y_Vt_make (.code y_Vt_make cb_Vt_make 3 (some .int) :: V_Vq) ({ frames := 8, cells := G'.gc - G0.gc, slots := G'.gs - G0.gs, locals := 224 }) (va_Pc [.ref M.o_Vt, .int p0] (fun U => U.heap.size = sz ∧ at_ (dC, dI) (fun _ => True) (wV M Y G0 S) (tV M) U ∧ E (va_A (wV M Y G0 S) sz) U)) (fun _ _ _ _ => False) (x_Q "java/lang/IllegalArgumentException" (va_A (wV M Y G0 S) sz) (fun t => ∃ u : CT, at_ (dC, dI) (va_A (wV M Y G0 S) sz) (wV M u G' S') (tV M) t)) (G'.gc - G0.gc) (G'.gs - G0.gs) (va_A (wV M Y G0 S) sz) := by
  refine MetX.ofW (cc := cb_Vt_make) (maxL := 3) (ret := (some .int)) (by decide) rfl ?_
  intro p e s m args below meth c s₁ B hml hv
  obtain ⟨rfl, hsz, ⟨hP, hK, hD0⟩, hE⟩ := hv
  have hx := B.exec
  have hb := B.bytes
  have hr := B.returns
  have hts0 := atoms_spec (ws := .code y_Vt_make cb_Vt_make 3 (some .int) :: V_Vq) B.pre
  have hts : ∀ w ∈ V_Vq, w.before ([.ref M.o_Vt, .int p0] : List Value).toArray s = true := fun w h => hts0 w (List.mem_cons_of_mem _ h)
  have hown : s.vm.findClass R_Vt = some m.cls := findClass_of_methodNamed B.named
  have hlocks := B.notSynchronized
  have hout := x_table B (hts0 _ List.mem_cons_self)
  subst hsz
  have hD := hD0.self (sz := s.heap.size)
  generalize hAe : va_A (wV M Y G0 S) s.heap.size = A at hD hE ⊢
  have hA : ∀ q : Nat, s.heap.size ≤ q → A q := fun q h => by rw [← hAe]; exact Or.inr h
  have hS : va_S A s.heap s.heap [] := va_S.rf
  have hP : va_P (dC, dI) classes (wV M Y G0 S) s.heap := hP
  have hK : va_K (dC, dI) classes (tV M) s := hK
  have hEw : ∀ (H : Heap) (locs : List Loc), va_S A s.heap H locs → ∀ U : State, U.heap = H → s.WarmedH U.vm → E A U := fun H locs hS U hU hW => X.kept A s U H locs hE hS hU hW
  have hl := lv_entry ([.ref M.o_Vt, .int p0]) (n := 3) (Nat.le_of_ble_eq_true rfl)
  rw [lg_entry_eq]
  generalize (lg_sl ([.ref M.o_Vt, .int p0]) ++ List.replicate (3 - (lg_sl ([.ref M.o_Vt, .int p0])).length) Slot.unset).toArray = ls at hl ⊢
  have hl : lv_has ls 3 [(0, .ref M.o_Vt), (1, .int p0)] := hl
  refine qabs (fun Q hQ => ?_)
  have hB_45 : ∀ (Y : CT) (G : CG) (S : CS) (H : Heap) (locs : List Loc) (ls : Array Slot), f_Vt_make_45 K G S = some (.error 0, G', S') → CG.le G0 G → va_P (dC, dI) classes (wV M Y G S) H → va_D A (wV M Y G S) → va_S A s.heap H locs → lv_has ls 3 [] → W p l e ({ frames := 8, cells := G'.gc - G0.gc, slots := G'.gs - G0.gs, locals := 224 }) s m ([.ref M.o_Vt, .int p0] : List Value).toArray below meth c H locs (G.gc - G0.gc) (G.gs - G0.gs) Q (F0 m 45 ls []) := by
    intro Y G S H locs ls h m0 hP hD hS hl
    have mF := mo_Vt_make_45 h
    rw [f_Vt_make_45] at h
    rw [hQ]
    have e2 : G.made 1 6 = G' := congrArg (fun z => z.2.1) (Option.some.inj h)
    have e3 : S = S' := congrArg (fun z => z.2.2) (Option.some.inj h)
    have hP := ly_newP3 e2.symm e3.symm (ly_madeP (c := 1) (n := 6) hP)
    have hD := ly_newD3 e2.symm e3.symm (ly_madeD (c := 1) (n := 6) hD)
    refine W.mono (ly_mqx (fun t z => ⟨Y, z⟩)) ?_
    exact x_thrG (own := R_Vt) (cls := "java/lang/IllegalArgumentException") (ik := 133) (is := 242) (ic := 137) (k := 2) hx hb (Launch.traces_off hfl (Stand.of_body B).admits) hlocks hown (by decide) (fun T hT => (X.xt_242 _ _ (hEw _ _ hS (xs s T) hT (State.WarmedH.refl s))).1) (hts _ (u_Vq_Vt _ k_Vt_100)) (hts _ (u_Vq_Vt _ k_Vt_101)) (hts _ (u_Vq_Vt _ k_Vt_1)) (X.xt_242 _ _ hE).2 (hl.1.trans hml.symm) d_Vt_make_45 d_Vt_make_48 (Or.inl ⟨d_Vt_make_49, rfl⟩) d_Vt_make_51 d_Vt_make_54 hout (Nat.le_of_ble_eq_true rfl) (Nat.le_of_ble_eq_true rfl) (ly_t1 e2 m0) (Nat.le_refl _) (ly_t2 e2 m0) (Nat.le_refl _) hP hK hD hS
  have hB_16 : ∀ (y_1 : Int32) (y_2 : Int32) (Y : CT) (G : CG) (S : CS) (H : Heap) (locs : List Loc) (ls : Array Slot), f_Vt_make_16 K y_1 y_2 G S = some (.error 0, G', S') → CG.le G0 G → va_P (dC, dI) classes (wV M Y G S) H → va_D A (wV M Y G S) → va_S A s.heap H locs → lv_has ls 3 [(0, .ref M.o_Vt), (1, .int y_1), (2, .int y_2)] → W p l e ({ frames := 8, cells := G'.gc - G0.gc, slots := G'.gs - G0.gs, locals := 224 }) s m ([.ref M.o_Vt, .int p0] : List Value).toArray below meth c H locs (G.gc - G0.gc) (G.gs - G0.gs) Q (F0 m 16 ls []) := by
    intro y_1 y_2 Y G S H locs ls h m0 hP hD hS hl
    have mF := mo_Vt_make_16 h
    rw [f_Vt_make_16] at h
    refine lv_aload_n hx hb d_Vt_make_16 rfl (lv_at hl 0 rfl) ?_
    refine va_get (D := (dC, dI)) (ci := 11) (v := .ref M.o_Ed) (C := R_Vt) (T := F_Vt) (N := 16) hx hb hts (fun w h => u_Vq_Vt w (i_Vt w h)) hown hK hP 0 rfl rfl 5 (by decide) (hts _ (u_Vq_Vt _ k_Vt_34)) (fun _ h9 => h9) rfl d_Vt_make_17 ?_
    refine lv_aload_n hx hb d_Vt_make_20 rfl (lv_at hl 0 rfl) ?_
    refine va_get (D := (dC, dI)) (ci := 11) (v := .ref M.o_Tp) (C := R_Vt) (T := F_Vt) (N := 16) hx hb hts (fun w h => u_Vq_Vt w (i_Vt w h)) hown hK hP 0 rfl rfl 1 (by decide) (hts _ (u_Vq_Vt _ k_Vt_30)) (fun _ h9 => h9) rfl d_Vt_make_21 ?_
    refine lv_iload_n hx hb d_Vt_make_24 rfl (lv_at hl 2 rfl) ?_
    obtain ⟨r_4, S_4, hc_4, h⟩ := lf_cE h
    have hFc := lx_free hD hS hA
    refine va_calli (va_runV (As := [.ref M.o_Tp, .int y_2]) (rest := []) ⟨hx, hb, hml, hown, hts⟩ (l_Ed_readName l dC dI X _ hc_4) (cwV 2 hts (gwV good_Vq (u_Vq_Vt _ k_Vt_169) (u_Vq_Ed _ k_Ed_37) (u_Vq_Ed _ k_Ed_38) (u_Vq_Ed _ k_Ed_0) (wcs (u_Vq_Ed _ k_Ed_39) (fun _ h => h))) rfl rfl rfl (by decide +kernel) ⟨Nat.le_of_ble_eq_true rfl, Nat.le_of_ble_eq_true rfl⟩) (pv_ofE (X.same _) (fun U z1 z2 => X.mono _ _ U hFc (hEw _ _ hS U z1 z2)) hP hK hD (va_recv hK hP (ci := 8) (q0 := 6) rfl rfl)) rfl rfl hl.1 rfl (lv_room (Nat.le_of_ble_eq_true rfl)) d_Vt_make_25 ⟨ly_c0 mF.1, ly_c0 mF.2⟩) hS (fun q _ h => hFc q h) hFc (fun r_ u t H locs ht hvm hw hB hz1 hk1 hS => ?_)
    rw [hw]
    obtain ⟨hP, -, hD⟩ := hB
    rw [ht] at hP
    have hD := lx_dj hD hFc
    refine lv_if_eq (tgt := 45) hx hb d_Vt_make_28 (by decide) (fun c_5 => ?_) (fun c_5 => ?_)
    · have h := lf_t h c_5
      exact hB_45 Y G S_4 _ _ _ h m0 hP hD hS (lv_sub hl [] rfl)
    · have h := lf_f h c_5
      refine lv_aload_n hx hb d_Vt_make_31 rfl (lv_at hl 0 rfl) ?_
      refine va_get (D := (dC, dI)) (ci := 11) (v := .ref M.o_Ed) (C := R_Vt) (T := F_Vt) (N := 16) hx hb hts (fun w h => u_Vq_Vt w (i_Vt w h)) hown hK hP 0 rfl rfl 5 (by decide) (hts _ (u_Vq_Vt _ k_Vt_34)) (fun _ h9 => h9) rfl d_Vt_make_32 ?_
      refine lv_aload_n hx hb d_Vt_make_35 rfl (lv_at hl 0 rfl) ?_
      refine va_get (D := (dC, dI)) (ci := 11) (v := .int S_4.v_Vt_here) (C := R_Vt) (T := F_Vt) (N := 16) hx hb hts (fun w h => u_Vq_Vt w (i_Vt w h)) hown hK hP 0 rfl rfl 12 (by decide) (hts _ (u_Vq_Vt _ k_Vt_41)) (fun _ h9 => h9) rfl d_Vt_make_36 ?_
      obtain ⟨r_6, S_6, hc_6, h⟩ := lf_cE h
      have hFc := lx_free hD hS hA
      refine va_calli (va_runV (As := [.int S_4.v_Vt_here]) (rest := []) ⟨hx, hb, hml, hown, hts⟩ (l_Ed_clashes l dC dI X _ hc_6) (cwV 1 hts (gwV good_Vq (u_Vq_Vt _ k_Vt_170) (u_Vq_Ed _ k_Ed_49) (u_Vq_Ed _ k_Ed_50) (u_Vq_Ed _ k_Ed_0) (wcs (u_Vq_Ed _ k_Ed_51) (fun _ h => h))) rfl rfl rfl (by decide +kernel) ⟨Nat.le_of_ble_eq_true rfl, Nat.le_of_ble_eq_true rfl⟩) (pv_ofE (X.same _) (fun U z1 z2 => X.mono _ _ U hFc (hEw _ _ hS U z1 z2)) hP hK hD (va_recv hK hP (ci := 8) (q0 := 6) rfl rfl)) rfl rfl hl.1 rfl (lv_room (Nat.le_of_ble_eq_true rfl)) d_Vt_make_39 ⟨ly_c0 mF.1, ly_c0 mF.2⟩) hS (fun q _ h => hFc q h) hFc (fun r_ u t H locs ht hvm hw hB hz1 hk1 hS => ?_)
      rw [hw]
      obtain ⟨hP, -, hD⟩ := hB
      rw [ht] at hP
      have hD := lx_dj hD hFc
      refine lv_if_eq (tgt := 55) hx hb d_Vt_make_42 (by decide) (fun c_7 => ?_) (fun c_7 => ?_)
      · have h := lf_t h c_7
        refine lv_aload_n hx hb d_Vt_make_55 rfl (lv_at hl 0 rfl) ?_
        refine va_get (D := (dC, dI)) (ci := 11) (v := .ref M.o_Ed) (C := R_Vt) (T := F_Vt) (N := 16) hx hb hts (fun w h => u_Vq_Vt w (i_Vt w h)) hown hK hP 0 rfl rfl 5 (by decide) (hts _ (u_Vq_Vt _ k_Vt_34)) (fun _ h9 => h9) rfl d_Vt_make_56 ?_
        refine lv_aload_n hx hb d_Vt_make_59 rfl (lv_at hl 0 rfl) ?_
        refine va_get (D := (dC, dI)) (ci := 11) (v := .int S_6.v_Vt_here) (C := R_Vt) (T := F_Vt) (N := 16) hx hb hts (fun w h => u_Vq_Vt w (i_Vt w h)) hown hK hP 0 rfl rfl 12 (by decide) (hts _ (u_Vq_Vt _ k_Vt_41)) (fun _ h9 => h9) rfl d_Vt_make_60 ?_
        refine lv_iload_n hx hb d_Vt_make_63 rfl (lv_at hl 1 rfl) ?_
        obtain ⟨r_8, S_8, hc_8, h⟩ := lf_cE h
        have hFc := lx_free hD hS hA
        refine va_calli (va_runV (As := [.int S_6.v_Vt_here, .int y_1]) (rest := []) ⟨hx, hb, hml, hown, hts⟩ (l_Ed_findSlots l dC dI X _ hc_8) (cwV 2 hts (gwV good_Vq (u_Vq_Vt _ k_Vt_171) (u_Vq_Ed _ k_Ed_60) (u_Vq_Ed _ k_Ed_61) (u_Vq_Ed _ k_Ed_0) (wcs (u_Vq_Ed _ k_Ed_62) (fun _ h => h))) rfl rfl rfl (by decide +kernel) ⟨Nat.le_of_ble_eq_true rfl, Nat.le_of_ble_eq_true rfl⟩) (pv_ofE (X.same _) (fun U z1 z2 => X.mono _ _ U hFc (hEw _ _ hS U z1 z2)) hP hK hD (va_recv hK hP (ci := 8) (q0 := 6) rfl rfl)) rfl rfl hl.1 rfl (lv_room (Nat.le_of_ble_eq_true rfl)) d_Vt_make_64 ⟨ly_c0 mF.1, ly_c0 mF.2⟩) hS (fun q _ h => hFc q h) hFc (fun r_ u t H locs ht hvm hw hB hz1 hk1 hS => ?_)
        rw [hw]
        obtain ⟨hP, -, hD⟩ := hB
        rw [ht] at hP
        have hD := lx_dj hD hFc
        refine lv_if_ne (tgt := 80) hx hb d_Vt_make_67 (by decide) (fun c_9 => ?_) (fun c_9 => ?_)
        · have h := lf_f h c_9
          refine lv_aload_n hx hb d_Vt_make_80 rfl (lv_at hl 0 rfl) ?_
          obtain ⟨S_10, hc_10, h⟩ := lf_bE h
          have hFc := lx_free hD hS hA
          refine va_callv (va_runV (As := []) (rest := []) ⟨hx, hb, hml, hown, hts⟩ (l_Vt_changed l dC dI X _ hc_10) (cwV 0 hts (gwV good_Vq (u_Vq_Vt _ k_Vt_62) (u_Vq_Vt _ k_Vt_63) (u_Vq_Vt _ k_Vt_213) (u_Vq_Vt _ k_Vt_0) (wcs (u_Vq_Vt _ k_Vt_64) (fun _ h => h))) rfl rfl rfl (by decide +kernel) ⟨Nat.le_of_ble_eq_true rfl, Nat.le_of_ble_eq_true rfl⟩) (pv_ofE (X.same _) (fun U z1 z2 => X.mono _ _ U hFc (hEw _ _ hS U z1 z2)) hP hK hD (va_recv hK hP (ci := 11) (q0 := 0) rfl rfl)) rfl rfl hl.1 rfl (lv_room (Nat.le_of_ble_eq_true rfl)) d_Vt_make_81 ⟨ly_c0 mF.1, ly_c0 mF.2⟩) hS (fun q _ h => hFc q h) hFc (fun u t H locs ht hvm hw hB hz1 hk1 hS => ?_)
          obtain ⟨hP, -, hD⟩ := hB
          rw [ht] at hP
          have hD := lx_dj hD hFc
          refine lv_aload_n hx hb d_Vt_make_84 rfl (lv_at hl 0 rfl) ?_
          refine va_get (D := (dC, dI)) (ci := 11) (v := .ref M.o_Ed) (C := R_Vt) (T := F_Vt) (N := 16) hx hb hts (fun w h => u_Vq_Vt w (i_Vt w h)) hown hK hP 0 rfl rfl 5 (by decide) (hts _ (u_Vq_Vt _ k_Vt_34)) (fun _ h9 => h9) rfl d_Vt_make_85 ?_
          refine lv_aload_n hx hb d_Vt_make_88 rfl (lv_at hl 0 rfl) ?_
          refine va_get (D := (dC, dI)) (ci := 11) (v := .int S_10.v_Vt_here) (C := R_Vt) (T := F_Vt) (N := 16) hx hb hts (fun w h => u_Vq_Vt w (i_Vt w h)) hown hK hP 0 rfl rfl 12 (by decide) (hts _ (u_Vq_Vt _ k_Vt_41)) (fun _ h9 => h9) rfl d_Vt_make_89 ?_
          refine lv_iload_n hx hb d_Vt_make_92 rfl (lv_at hl 1 rfl) ?_
          obtain ⟨r_11, S_11, hc_11, h⟩ := lf_cE h
          have hFc := lx_free hD hS hA
          refine va_calli (va_runV (As := [.int S_10.v_Vt_here, .int y_1]) (rest := []) ⟨hx, hb, hml, hown, hts⟩ (l_Ed_addItem l dC dI X _ hc_11) (cwV 2 hts (gwV good_Vq (u_Vq_Vt _ k_Vt_175) (u_Vq_Ed _ k_Ed_69) (u_Vq_Ed _ k_Ed_70) (u_Vq_Ed _ k_Ed_0) (wcs (u_Vq_Ed _ k_Ed_71) (fun _ h => h))) rfl rfl rfl (by decide +kernel) ⟨Nat.le_of_ble_eq_true rfl, Nat.le_of_ble_eq_true rfl⟩) (pv_ofE (X.same _) (fun U z1 z2 => X.mono _ _ U hFc (hEw _ _ hS U z1 z2)) hP hK hD (va_recv hK hP (ci := 8) (q0 := 6) rfl rfl)) rfl rfl hl.1 rfl (lv_room (Nat.le_of_ble_eq_true rfl)) d_Vt_make_93 ⟨ly_c0 mF.1, ly_c0 mF.2⟩) hS (fun q _ h => hFc q h) hFc (fun r_ u t H locs ht hvm hw hB hz1 hk1 hS => ?_)
          rw [hw]
          obtain ⟨hP, -, hD⟩ := hB
          rw [ht] at hP
          have hD := lx_dj hD hFc
          exact lf_xo h
        · have h := lf_t h c_9
          exact lf_xk h (by decide)
      · have h := lf_f h c_7
        exact hB_45 Y G S_6 _ _ _ h m0 hP hD hS (lv_sub hl [] rfl)
  have hB_13 : ∀ (y_1 : Int32) (y_2 : Int32) (z_1 : Int32) (Y : CT) (G : CG) (S : CS) (H : Heap) (locs : List Loc) (ls : Array Slot), f_Vt_make_13 K y_1 y_2 z_1 G S = some (.error 0, G', S') → CG.le G0 G → va_P (dC, dI) classes (wV M Y G S) H → va_D A (wV M Y G S) → va_S A s.heap H locs → lv_has ls 3 [(0, .ref M.o_Vt), (1, .int y_1), (2, .int y_2)] → W p l e ({ frames := 8, cells := G'.gc - G0.gc, slots := G'.gs - G0.gs, locals := 224 }) s m ([.ref M.o_Vt, .int p0] : List Value).toArray below meth c H locs (G.gc - G0.gc) (G.gs - G0.gs) Q (F0 m 13 ls [.int z_1, .ref M.o_Vt]) := by
    intro y_1 y_2 z_1 Y G S H locs ls h m0 hP hD hS hl
    have mF := mo_Vt_make_13 h
    rw [f_Vt_make_13] at h
    rcases lf_aT h with ⟨r_3, G_3, S_3, hc_3, h⟩ | h9
    · have mc := mo_Vt_wantSoundTable hc_3
      have ml_3 := mo_Vt_wantSoundTable hc_3
      have mF1 := mo_Vt_make_16 h
      have hFc := lx_free hD hS hA
      refine va_callv (va_runV (As := [.int z_1]) (rest := []) ⟨hx, hb, hml, hown, hts⟩ (l_Vt_wantSoundTable l dC dI X _ hc_3) (cwV 1 hts (gwV good_Vq (u_Vq_Vt _ k_Vt_166) (u_Vq_Vt _ k_Vt_167) (u_Vq_Vt _ k_Vt_216) (u_Vq_Vt _ k_Vt_0) (wcs (u_Vq_Vt _ k_Vt_168) (fun _ h => h))) rfl rfl rfl (by decide +kernel) ⟨Nat.le_of_ble_eq_true rfl, Nat.le_of_ble_eq_true rfl⟩) (pv_ofE (X.same _) (fun U z1 z2 => X.mono _ _ U hFc (hEw _ _ hS U z1 z2)) hP hK hD (va_recv hK hP (ci := 11) (q0 := 0) rfl rfl)) rfl rfl hl.1 rfl (lv_room (Nat.le_of_ble_eq_true rfl)) d_Vt_make_13 ⟨ly_c1 m0.1 mc.1 mF1.1, ly_c1 m0.2 mc.2 mF1.2⟩) hS (fun q _ h => hFc q h) hFc (fun Y_3 t H locs ht hvm hw hB hz1 hk1 hS => ?_)
      obtain ⟨hP, -, hD⟩ := hB
      rw [ht] at hP
      have hD := lx_dj hD hFc
      refine W.widen (k := G_3.gc - G0.gc) (n := G_3.gs - G0.gs) (ly_c2 m0.1 mc.1) (ly_c2 m0.2 mc.2) ?_
      have m0 := CG.le_tr m0 mc
      exact hB_16 y_1 y_2 Y_3 G_3 S_3 _ _ _ h m0 hP hD hS (lv_sub hl [0, 1, 2] rfl)
    · exact absurd (th_Vt_wantSoundTable h9) (by decide)
  have m0 : CG.le G0 G0 := ⟨Nat.le_refl _, Nat.le_refl _⟩
  have mF := mo_Vt_make h
  refine W.widen (k := G0.gc - G0.gc) (n := G0.gs - G0.gs) (Nat.zero_le _) (Nat.zero_le _) ?_
  rw [f_Vt_make] at h
  refine lv_aload_n hx hb d_Vt_make_0 rfl (lv_at hl 0 rfl) ?_
  refine va_get (D := (dC, dI)) (ci := 11) (v := .ref M.o_Tp) (C := R_Vt) (T := F_Vt) (N := 16) hx hb hts (fun w h => u_Vq_Vt w (i_Vt w h)) hown hK hP 0 rfl rfl 1 (by decide) (hts _ (u_Vq_Vt _ k_Vt_30)) (fun _ h9 => h9) rfl d_Vt_make_1 ?_
  obtain ⟨r_1, S_1, hc_1, h⟩ := lf_cE h
  have hFc := lx_free hD hS hA
  refine va_calli (va_runV (As := []) (rest := []) ⟨hx, hb, hml, hown, hts⟩ (l_Tp_useUp l dC dI X _ hc_1) (cwV 0 hts (gwV good_Vq (u_Vq_Vt _ k_Vt_56) (u_Vq_Tp _ k_Tp_16) (u_Vq_Tp _ k_Tp_17) (u_Vq_Tp _ k_Tp_0) (wcs (u_Vq_Tp _ k_Tp_18) (fun _ h => h))) rfl rfl rfl (by decide +kernel) ⟨Nat.le_of_ble_eq_true rfl, Nat.le_of_ble_eq_true rfl⟩) (pv_ofE (X.same _) (fun U z1 z2 => X.mono _ _ U hFc (hEw _ _ hS U z1 z2)) hP hK hD (va_recv hK hP (ci := 3) (q0 := 2) rfl rfl)) rfl rfl hl.1 rfl (lv_room (Nat.le_of_ble_eq_true rfl)) d_Vt_make_4 ⟨ly_c0 mF.1, ly_c0 mF.2⟩) hS (fun q _ h => hFc q h) hFc (fun r_ u t H locs ht hvm hw hB hz1 hk1 hS => ?_)
  rw [hw]
  obtain ⟨hP, -, hD⟩ := hB
  rw [ht] at hP
  have hD := lx_dj hD hFc
  refine lv_istore_n (lv' := [(2, .int r_1), (0, .ref M.o_Vt), (1, .int p0)]) hx hb d_Vt_make_7 rfl hl (by decide) rfl (fun ls hl => ?_)
  refine lv_aload_n hx hb d_Vt_make_8 rfl (lv_at hl 1 rfl) ?_
  refine lv_aload_n hx hb d_Vt_make_9 rfl (lv_at hl 1 rfl) ?_
  obtain ⟨r_2, G_2, S_2, hc_2, h⟩ := lf_nE h
  have mc := mo_Vt_look hc_2
  have ml_2 := mo_Vt_look hc_2
  have mF1 := mo_Vt_make_13 h
  have hFc := lx_free hD hS hA
  refine va_calli (va_runV (As := []) (rest := [.ref M.o_Vt]) ⟨hx, hb, hml, hown, hts⟩ (l_Vt_look l dC dI X _ hc_2) (cwV 0 hts (gwV good_Vq (u_Vq_Vt _ k_Vt_68) (u_Vq_Vt _ k_Vt_69) (u_Vq_Vt _ k_Vt_214) (u_Vq_Vt _ k_Vt_0) (wcs (u_Vq_Vt _ k_Vt_70) (fun _ h => h))) rfl rfl rfl (by decide +kernel) ⟨Nat.le_of_ble_eq_true rfl, Nat.le_of_ble_eq_true rfl⟩) (pv_ofE (X.same _) (fun U z1 z2 => X.mono _ _ U hFc (hEw _ _ hS U z1 z2)) hP hK hD (va_recv hK hP (ci := 11) (q0 := 0) rfl rfl)) rfl rfl hl.1 rfl (lv_room (Nat.le_of_ble_eq_true rfl)) d_Vt_make_10 ⟨ly_c1 m0.1 mc.1 mF1.1, ly_c1 m0.2 mc.2 mF1.2⟩) hS (fun q _ h => hFc q h) hFc (fun r_ Y_2 t H locs ht hvm hw hB hz1 hk1 hS => ?_)
  rw [hw]
  obtain ⟨hP, -, hD⟩ := hB
  rw [ht] at hP
  have hD := lx_dj hD hFc
  refine W.widen (k := G_2.gc - G0.gc) (n := G_2.gs - G0.gs) (ly_c2 m0.1 mc.1) (ly_c2 m0.2 mc.2) ?_
  have m0 := CG.le_tr m0 mc
  exact hB_13 p0 r_1 r_2 Y_2 G_2 S_2 _ _ _ h m0 hP hD hS (lv_sub hl [1, 2, 0] rfl)
set_option maxHeartbeats 4000000 in
set_option maxRecDepth 100000 in
theorem lt_Vt_make_1 (l : Launch) (hfl : l.flags = pinnedFlags ++ [noTraceFlag]) (dC : Nat → ClassId) (dI : Nat → Nat → Nat) {K : Nat} {M : CA} {E : (Nat → Prop) → State → Prop} (X : ly_X l dC dI K M E) (sz : Nat) {Y : CT} {G0 G' : CG} {S S' : CS} {p0 : Int32} (h : f_Vt_make K G0 S p0 = some (.error 1, G', S')) : MetX l y_Vt_make (.code y_Vt_make cb_Vt_make 3 (some .int) :: V_Vq) ({ frames := 8, cells := G'.gc - G0.gc, slots := G'.gs - G0.gs, locals := 224 }) (va_Pc [.ref M.o_Vt, .int p0] (fun U => U.heap.size = sz ∧ at_ (dC, dI) (fun _ => True) (wV M Y G0 S) (tV M) U ∧ E (va_A (wV M Y G0 S) sz) U)) (fun _ _ _ _ => False) (x_Q "java/lang/IllegalStateException" (va_A (wV M Y G0 S) sz) (fun t => ∃ u : CT, at_ (dC, dI) (va_A (wV M Y G0 S) sz) (wV M u G' S') (tV M) t)) (G'.gc - G0.gc) (G'.gs - G0.gs) (va_A (wV M Y G0 S) sz) := by
  refine MetX.ofW (cc := cb_Vt_make) (maxL := 3) (ret := (some .int)) (by decide) rfl ?_
  intro p e s m args below meth c s₁ B hml hv
  obtain ⟨rfl, hsz, ⟨hP, hK, hD0⟩, hE⟩ := hv
  have hx := B.exec
  have hb := B.bytes
  have hr := B.returns
  have hts0 := atoms_spec (ws := .code y_Vt_make cb_Vt_make 3 (some .int) :: V_Vq) B.pre
  have hts : ∀ w ∈ V_Vq, w.before ([.ref M.o_Vt, .int p0] : List Value).toArray s = true := fun w h => hts0 w (List.mem_cons_of_mem _ h)
  have hown : s.vm.findClass R_Vt = some m.cls := findClass_of_methodNamed B.named
  have hlocks := B.notSynchronized
  have hout := x_table B (hts0 _ List.mem_cons_self)
  subst hsz
  have hD := hD0.self (sz := s.heap.size)
  generalize hAe : va_A (wV M Y G0 S) s.heap.size = A at hD hE ⊢
  have hA : ∀ q : Nat, s.heap.size ≤ q → A q := fun q h => by rw [← hAe]; exact Or.inr h
  have hS : va_S A s.heap s.heap [] := va_S.rf
  have hP : va_P (dC, dI) classes (wV M Y G0 S) s.heap := hP
  have hK : va_K (dC, dI) classes (tV M) s := hK
  have hEw : ∀ (H : Heap) (locs : List Loc), va_S A s.heap H locs → ∀ U : State, U.heap = H → s.WarmedH U.vm → E A U := fun H locs hS U hU hW => X.kept A s U H locs hE hS hU hW
  have hl := lv_entry ([.ref M.o_Vt, .int p0]) (n := 3) (Nat.le_of_ble_eq_true rfl)
  rw [lg_entry_eq]
  generalize (lg_sl ([.ref M.o_Vt, .int p0]) ++ List.replicate (3 - (lg_sl ([.ref M.o_Vt, .int p0])).length) Slot.unset).toArray = ls at hl ⊢
  have hl : lv_has ls 3 [(0, .ref M.o_Vt), (1, .int p0)] := hl
  refine qabs (fun Q hQ => ?_)
  have hB_45 : ∀ (Y : CT) (G : CG) (S : CS) (H : Heap) (locs : List Loc) (ls : Array Slot), f_Vt_make_45 K G S = some (.error 1, G', S') → CG.le G0 G → va_P (dC, dI) classes (wV M Y G S) H → va_D A (wV M Y G S) → va_S A s.heap H locs → lv_has ls 3 [] → W p l e ({ frames := 8, cells := G'.gc - G0.gc, slots := G'.gs - G0.gs, locals := 224 }) s m ([.ref M.o_Vt, .int p0] : List Value).toArray below meth c H locs (G.gc - G0.gc) (G.gs - G0.gs) Q (F0 m 45 ls []) := by
    intro Y G S H locs ls h m0 hP hD hS hl
    have mF := mo_Vt_make_45 h
    rw [f_Vt_make_45] at h
    exact lf_xk h (by decide)
  have hB_16 : ∀ (y_1 : Int32) (y_2 : Int32) (Y : CT) (G : CG) (S : CS) (H : Heap) (locs : List Loc) (ls : Array Slot), f_Vt_make_16 K y_1 y_2 G S = some (.error 1, G', S') → CG.le G0 G → va_P (dC, dI) classes (wV M Y G S) H → va_D A (wV M Y G S) → va_S A s.heap H locs → lv_has ls 3 [(0, .ref M.o_Vt), (1, .int y_1), (2, .int y_2)] → W p l e ({ frames := 8, cells := G'.gc - G0.gc, slots := G'.gs - G0.gs, locals := 224 }) s m ([.ref M.o_Vt, .int p0] : List Value).toArray below meth c H locs (G.gc - G0.gc) (G.gs - G0.gs) Q (F0 m 16 ls []) := by
    intro y_1 y_2 Y G S H locs ls h m0 hP hD hS hl
    have mF := mo_Vt_make_16 h
    rw [f_Vt_make_16] at h
    refine lv_aload_n hx hb d_Vt_make_16 rfl (lv_at hl 0 rfl) ?_
    refine va_get (D := (dC, dI)) (ci := 11) (v := .ref M.o_Ed) (C := R_Vt) (T := F_Vt) (N := 16) hx hb hts (fun w h => u_Vq_Vt w (i_Vt w h)) hown hK hP 0 rfl rfl 5 (by decide) (hts _ (u_Vq_Vt _ k_Vt_34)) (fun _ h9 => h9) rfl d_Vt_make_17 ?_
    refine lv_aload_n hx hb d_Vt_make_20 rfl (lv_at hl 0 rfl) ?_
    refine va_get (D := (dC, dI)) (ci := 11) (v := .ref M.o_Tp) (C := R_Vt) (T := F_Vt) (N := 16) hx hb hts (fun w h => u_Vq_Vt w (i_Vt w h)) hown hK hP 0 rfl rfl 1 (by decide) (hts _ (u_Vq_Vt _ k_Vt_30)) (fun _ h9 => h9) rfl d_Vt_make_21 ?_
    refine lv_iload_n hx hb d_Vt_make_24 rfl (lv_at hl 2 rfl) ?_
    obtain ⟨r_4, S_4, hc_4, h⟩ := lf_cE h
    have hFc := lx_free hD hS hA
    refine va_calli (va_runV (As := [.ref M.o_Tp, .int y_2]) (rest := []) ⟨hx, hb, hml, hown, hts⟩ (l_Ed_readName l dC dI X _ hc_4) (cwV 2 hts (gwV good_Vq (u_Vq_Vt _ k_Vt_169) (u_Vq_Ed _ k_Ed_37) (u_Vq_Ed _ k_Ed_38) (u_Vq_Ed _ k_Ed_0) (wcs (u_Vq_Ed _ k_Ed_39) (fun _ h => h))) rfl rfl rfl (by decide +kernel) ⟨Nat.le_of_ble_eq_true rfl, Nat.le_of_ble_eq_true rfl⟩) (pv_ofE (X.same _) (fun U z1 z2 => X.mono _ _ U hFc (hEw _ _ hS U z1 z2)) hP hK hD (va_recv hK hP (ci := 8) (q0 := 6) rfl rfl)) rfl rfl hl.1 rfl (lv_room (Nat.le_of_ble_eq_true rfl)) d_Vt_make_25 ⟨ly_c0 mF.1, ly_c0 mF.2⟩) hS (fun q _ h => hFc q h) hFc (fun r_ u t H locs ht hvm hw hB hz1 hk1 hS => ?_)
    rw [hw]
    obtain ⟨hP, -, hD⟩ := hB
    rw [ht] at hP
    have hD := lx_dj hD hFc
    refine lv_if_eq (tgt := 45) hx hb d_Vt_make_28 (by decide) (fun c_5 => ?_) (fun c_5 => ?_)
    · have h := lf_t h c_5
      exact hB_45 Y G S_4 _ _ _ h m0 hP hD hS (lv_sub hl [] rfl)
    · have h := lf_f h c_5
      refine lv_aload_n hx hb d_Vt_make_31 rfl (lv_at hl 0 rfl) ?_
      refine va_get (D := (dC, dI)) (ci := 11) (v := .ref M.o_Ed) (C := R_Vt) (T := F_Vt) (N := 16) hx hb hts (fun w h => u_Vq_Vt w (i_Vt w h)) hown hK hP 0 rfl rfl 5 (by decide) (hts _ (u_Vq_Vt _ k_Vt_34)) (fun _ h9 => h9) rfl d_Vt_make_32 ?_
      refine lv_aload_n hx hb d_Vt_make_35 rfl (lv_at hl 0 rfl) ?_
      refine va_get (D := (dC, dI)) (ci := 11) (v := .int S_4.v_Vt_here) (C := R_Vt) (T := F_Vt) (N := 16) hx hb hts (fun w h => u_Vq_Vt w (i_Vt w h)) hown hK hP 0 rfl rfl 12 (by decide) (hts _ (u_Vq_Vt _ k_Vt_41)) (fun _ h9 => h9) rfl d_Vt_make_36 ?_
      obtain ⟨r_6, S_6, hc_6, h⟩ := lf_cE h
      have hFc := lx_free hD hS hA
      refine va_calli (va_runV (As := [.int S_4.v_Vt_here]) (rest := []) ⟨hx, hb, hml, hown, hts⟩ (l_Ed_clashes l dC dI X _ hc_6) (cwV 1 hts (gwV good_Vq (u_Vq_Vt _ k_Vt_170) (u_Vq_Ed _ k_Ed_49) (u_Vq_Ed _ k_Ed_50) (u_Vq_Ed _ k_Ed_0) (wcs (u_Vq_Ed _ k_Ed_51) (fun _ h => h))) rfl rfl rfl (by decide +kernel) ⟨Nat.le_of_ble_eq_true rfl, Nat.le_of_ble_eq_true rfl⟩) (pv_ofE (X.same _) (fun U z1 z2 => X.mono _ _ U hFc (hEw _ _ hS U z1 z2)) hP hK hD (va_recv hK hP (ci := 8) (q0 := 6) rfl rfl)) rfl rfl hl.1 rfl (lv_room (Nat.le_of_ble_eq_true rfl)) d_Vt_make_39 ⟨ly_c0 mF.1, ly_c0 mF.2⟩) hS (fun q _ h => hFc q h) hFc (fun r_ u t H locs ht hvm hw hB hz1 hk1 hS => ?_)
      rw [hw]
      obtain ⟨hP, -, hD⟩ := hB
      rw [ht] at hP
      have hD := lx_dj hD hFc
      refine lv_if_eq (tgt := 55) hx hb d_Vt_make_42 (by decide) (fun c_7 => ?_) (fun c_7 => ?_)
      · have h := lf_t h c_7
        refine lv_aload_n hx hb d_Vt_make_55 rfl (lv_at hl 0 rfl) ?_
        refine va_get (D := (dC, dI)) (ci := 11) (v := .ref M.o_Ed) (C := R_Vt) (T := F_Vt) (N := 16) hx hb hts (fun w h => u_Vq_Vt w (i_Vt w h)) hown hK hP 0 rfl rfl 5 (by decide) (hts _ (u_Vq_Vt _ k_Vt_34)) (fun _ h9 => h9) rfl d_Vt_make_56 ?_
        refine lv_aload_n hx hb d_Vt_make_59 rfl (lv_at hl 0 rfl) ?_
        refine va_get (D := (dC, dI)) (ci := 11) (v := .int S_6.v_Vt_here) (C := R_Vt) (T := F_Vt) (N := 16) hx hb hts (fun w h => u_Vq_Vt w (i_Vt w h)) hown hK hP 0 rfl rfl 12 (by decide) (hts _ (u_Vq_Vt _ k_Vt_41)) (fun _ h9 => h9) rfl d_Vt_make_60 ?_
        refine lv_iload_n hx hb d_Vt_make_63 rfl (lv_at hl 1 rfl) ?_
        obtain ⟨r_8, S_8, hc_8, h⟩ := lf_cE h
        have hFc := lx_free hD hS hA
        refine va_calli (va_runV (As := [.int S_6.v_Vt_here, .int y_1]) (rest := []) ⟨hx, hb, hml, hown, hts⟩ (l_Ed_findSlots l dC dI X _ hc_8) (cwV 2 hts (gwV good_Vq (u_Vq_Vt _ k_Vt_171) (u_Vq_Ed _ k_Ed_60) (u_Vq_Ed _ k_Ed_61) (u_Vq_Ed _ k_Ed_0) (wcs (u_Vq_Ed _ k_Ed_62) (fun _ h => h))) rfl rfl rfl (by decide +kernel) ⟨Nat.le_of_ble_eq_true rfl, Nat.le_of_ble_eq_true rfl⟩) (pv_ofE (X.same _) (fun U z1 z2 => X.mono _ _ U hFc (hEw _ _ hS U z1 z2)) hP hK hD (va_recv hK hP (ci := 8) (q0 := 6) rfl rfl)) rfl rfl hl.1 rfl (lv_room (Nat.le_of_ble_eq_true rfl)) d_Vt_make_64 ⟨ly_c0 mF.1, ly_c0 mF.2⟩) hS (fun q _ h => hFc q h) hFc (fun r_ u t H locs ht hvm hw hB hz1 hk1 hS => ?_)
        rw [hw]
        obtain ⟨hP, -, hD⟩ := hB
        rw [ht] at hP
        have hD := lx_dj hD hFc
        refine lv_if_ne (tgt := 80) hx hb d_Vt_make_67 (by decide) (fun c_9 => ?_) (fun c_9 => ?_)
        · have h := lf_f h c_9
          refine lv_aload_n hx hb d_Vt_make_80 rfl (lv_at hl 0 rfl) ?_
          obtain ⟨S_10, hc_10, h⟩ := lf_bE h
          have hFc := lx_free hD hS hA
          refine va_callv (va_runV (As := []) (rest := []) ⟨hx, hb, hml, hown, hts⟩ (l_Vt_changed l dC dI X _ hc_10) (cwV 0 hts (gwV good_Vq (u_Vq_Vt _ k_Vt_62) (u_Vq_Vt _ k_Vt_63) (u_Vq_Vt _ k_Vt_213) (u_Vq_Vt _ k_Vt_0) (wcs (u_Vq_Vt _ k_Vt_64) (fun _ h => h))) rfl rfl rfl (by decide +kernel) ⟨Nat.le_of_ble_eq_true rfl, Nat.le_of_ble_eq_true rfl⟩) (pv_ofE (X.same _) (fun U z1 z2 => X.mono _ _ U hFc (hEw _ _ hS U z1 z2)) hP hK hD (va_recv hK hP (ci := 11) (q0 := 0) rfl rfl)) rfl rfl hl.1 rfl (lv_room (Nat.le_of_ble_eq_true rfl)) d_Vt_make_81 ⟨ly_c0 mF.1, ly_c0 mF.2⟩) hS (fun q _ h => hFc q h) hFc (fun u t H locs ht hvm hw hB hz1 hk1 hS => ?_)
          obtain ⟨hP, -, hD⟩ := hB
          rw [ht] at hP
          have hD := lx_dj hD hFc
          refine lv_aload_n hx hb d_Vt_make_84 rfl (lv_at hl 0 rfl) ?_
          refine va_get (D := (dC, dI)) (ci := 11) (v := .ref M.o_Ed) (C := R_Vt) (T := F_Vt) (N := 16) hx hb hts (fun w h => u_Vq_Vt w (i_Vt w h)) hown hK hP 0 rfl rfl 5 (by decide) (hts _ (u_Vq_Vt _ k_Vt_34)) (fun _ h9 => h9) rfl d_Vt_make_85 ?_
          refine lv_aload_n hx hb d_Vt_make_88 rfl (lv_at hl 0 rfl) ?_
          refine va_get (D := (dC, dI)) (ci := 11) (v := .int S_10.v_Vt_here) (C := R_Vt) (T := F_Vt) (N := 16) hx hb hts (fun w h => u_Vq_Vt w (i_Vt w h)) hown hK hP 0 rfl rfl 12 (by decide) (hts _ (u_Vq_Vt _ k_Vt_41)) (fun _ h9 => h9) rfl d_Vt_make_89 ?_
          refine lv_iload_n hx hb d_Vt_make_92 rfl (lv_at hl 1 rfl) ?_
          obtain ⟨r_11, S_11, hc_11, h⟩ := lf_cE h
          have hFc := lx_free hD hS hA
          refine va_calli (va_runV (As := [.int S_10.v_Vt_here, .int y_1]) (rest := []) ⟨hx, hb, hml, hown, hts⟩ (l_Ed_addItem l dC dI X _ hc_11) (cwV 2 hts (gwV good_Vq (u_Vq_Vt _ k_Vt_175) (u_Vq_Ed _ k_Ed_69) (u_Vq_Ed _ k_Ed_70) (u_Vq_Ed _ k_Ed_0) (wcs (u_Vq_Ed _ k_Ed_71) (fun _ h => h))) rfl rfl rfl (by decide +kernel) ⟨Nat.le_of_ble_eq_true rfl, Nat.le_of_ble_eq_true rfl⟩) (pv_ofE (X.same _) (fun U z1 z2 => X.mono _ _ U hFc (hEw _ _ hS U z1 z2)) hP hK hD (va_recv hK hP (ci := 8) (q0 := 6) rfl rfl)) rfl rfl hl.1 rfl (lv_room (Nat.le_of_ble_eq_true rfl)) d_Vt_make_93 ⟨ly_c0 mF.1, ly_c0 mF.2⟩) hS (fun q _ h => hFc q h) hFc (fun r_ u t H locs ht hvm hw hB hz1 hk1 hS => ?_)
          rw [hw]
          obtain ⟨hP, -, hD⟩ := hB
          rw [ht] at hP
          have hD := lx_dj hD hFc
          exact lf_xo h
        · have h := lf_t h c_9
          exact lf_xk h (by decide)
      · have h := lf_f h c_7
        exact hB_45 Y G S_6 _ _ _ h m0 hP hD hS (lv_sub hl [] rfl)
  have hB_13 : ∀ (y_1 : Int32) (y_2 : Int32) (z_1 : Int32) (Y : CT) (G : CG) (S : CS) (H : Heap) (locs : List Loc) (ls : Array Slot), f_Vt_make_13 K y_1 y_2 z_1 G S = some (.error 1, G', S') → CG.le G0 G → va_P (dC, dI) classes (wV M Y G S) H → va_D A (wV M Y G S) → va_S A s.heap H locs → lv_has ls 3 [(0, .ref M.o_Vt), (1, .int y_1), (2, .int y_2)] → W p l e ({ frames := 8, cells := G'.gc - G0.gc, slots := G'.gs - G0.gs, locals := 224 }) s m ([.ref M.o_Vt, .int p0] : List Value).toArray below meth c H locs (G.gc - G0.gc) (G.gs - G0.gs) Q (F0 m 13 ls [.int z_1, .ref M.o_Vt]) := by
    intro y_1 y_2 z_1 Y G S H locs ls h m0 hP hD hS hl
    have mF := mo_Vt_make_13 h
    rw [f_Vt_make_13] at h
    rcases lf_aT h with ⟨r_3, G_3, S_3, hc_3, h⟩ | h9
    · have mc := mo_Vt_wantSoundTable hc_3
      have ml_3 := mo_Vt_wantSoundTable hc_3
      have mF1 := mo_Vt_make_16 h
      have hFc := lx_free hD hS hA
      refine va_callv (va_runV (As := [.int z_1]) (rest := []) ⟨hx, hb, hml, hown, hts⟩ (l_Vt_wantSoundTable l dC dI X _ hc_3) (cwV 1 hts (gwV good_Vq (u_Vq_Vt _ k_Vt_166) (u_Vq_Vt _ k_Vt_167) (u_Vq_Vt _ k_Vt_216) (u_Vq_Vt _ k_Vt_0) (wcs (u_Vq_Vt _ k_Vt_168) (fun _ h => h))) rfl rfl rfl (by decide +kernel) ⟨Nat.le_of_ble_eq_true rfl, Nat.le_of_ble_eq_true rfl⟩) (pv_ofE (X.same _) (fun U z1 z2 => X.mono _ _ U hFc (hEw _ _ hS U z1 z2)) hP hK hD (va_recv hK hP (ci := 11) (q0 := 0) rfl rfl)) rfl rfl hl.1 rfl (lv_room (Nat.le_of_ble_eq_true rfl)) d_Vt_make_13 ⟨ly_c1 m0.1 mc.1 mF1.1, ly_c1 m0.2 mc.2 mF1.2⟩) hS (fun q _ h => hFc q h) hFc (fun Y_3 t H locs ht hvm hw hB hz1 hk1 hS => ?_)
      obtain ⟨hP, -, hD⟩ := hB
      rw [ht] at hP
      have hD := lx_dj hD hFc
      refine W.widen (k := G_3.gc - G0.gc) (n := G_3.gs - G0.gs) (ly_c2 m0.1 mc.1) (ly_c2 m0.2 mc.2) ?_
      have m0 := CG.le_tr m0 mc
      exact hB_16 y_1 y_2 Y_3 G_3 S_3 _ _ _ h m0 hP hD hS (lv_sub hl [0, 1, 2] rfl)
    · have mc := mo_Vt_wantSoundTable h9
      have hFc := lx_free hD hS hA
      rw [hQ]
      exact x_outV (n := 1) (As := [.int z_1]) (rest := []) (b := M.o_Vt) (st0 := [.int z_1, .ref M.o_Vt]) ⟨hx, hb, hml, hown, hts⟩ (lt_Vt_wantSoundTable_1 l hfl dC dI X _ h9) (cwV 1 hts (gwV good_Vq (u_Vq_Vt _ k_Vt_166) (u_Vq_Vt _ k_Vt_167) (u_Vq_Vt _ k_Vt_216) (u_Vq_Vt _ k_Vt_0) (wcs (u_Vq_Vt _ k_Vt_168) (fun _ h => h))) rfl rfl rfl (by decide +kernel) ⟨Nat.le_of_ble_eq_true rfl, Nat.le_of_ble_eq_true rfl⟩) (pv_ofE (X.same _) (fun U z1 z2 => X.mono _ _ U hFc (hEw _ _ hS U z1 z2)) hP hK hD (va_recv hK hP (ci := 11) (q0 := 0) rfl rfl)) rfl hl.1 rfl (Nat.le_of_ble_eq_true rfl) d_Vt_make_13 ⟨ly_c2 m0.1 mc.1, ly_c2 m0.2 mc.2⟩ hlocks hout ⟨ly_c2 m0.1 mc.1, ly_c2 m0.2 mc.2⟩ (fun E st t U z1 z2 z3 z4 z5 => ly_outQ hS hK hFc z1 z3 z4 z5) ⟨hS.2.2, fun z h => hFc z h⟩
  have m0 : CG.le G0 G0 := ⟨Nat.le_refl _, Nat.le_refl _⟩
  have mF := mo_Vt_make h
  refine W.widen (k := G0.gc - G0.gc) (n := G0.gs - G0.gs) (Nat.zero_le _) (Nat.zero_le _) ?_
  rw [f_Vt_make] at h
  refine lv_aload_n hx hb d_Vt_make_0 rfl (lv_at hl 0 rfl) ?_
  refine va_get (D := (dC, dI)) (ci := 11) (v := .ref M.o_Tp) (C := R_Vt) (T := F_Vt) (N := 16) hx hb hts (fun w h => u_Vq_Vt w (i_Vt w h)) hown hK hP 0 rfl rfl 1 (by decide) (hts _ (u_Vq_Vt _ k_Vt_30)) (fun _ h9 => h9) rfl d_Vt_make_1 ?_
  obtain ⟨r_1, S_1, hc_1, h⟩ := lf_cE h
  have hFc := lx_free hD hS hA
  refine va_calli (va_runV (As := []) (rest := []) ⟨hx, hb, hml, hown, hts⟩ (l_Tp_useUp l dC dI X _ hc_1) (cwV 0 hts (gwV good_Vq (u_Vq_Vt _ k_Vt_56) (u_Vq_Tp _ k_Tp_16) (u_Vq_Tp _ k_Tp_17) (u_Vq_Tp _ k_Tp_0) (wcs (u_Vq_Tp _ k_Tp_18) (fun _ h => h))) rfl rfl rfl (by decide +kernel) ⟨Nat.le_of_ble_eq_true rfl, Nat.le_of_ble_eq_true rfl⟩) (pv_ofE (X.same _) (fun U z1 z2 => X.mono _ _ U hFc (hEw _ _ hS U z1 z2)) hP hK hD (va_recv hK hP (ci := 3) (q0 := 2) rfl rfl)) rfl rfl hl.1 rfl (lv_room (Nat.le_of_ble_eq_true rfl)) d_Vt_make_4 ⟨ly_c0 mF.1, ly_c0 mF.2⟩) hS (fun q _ h => hFc q h) hFc (fun r_ u t H locs ht hvm hw hB hz1 hk1 hS => ?_)
  rw [hw]
  obtain ⟨hP, -, hD⟩ := hB
  rw [ht] at hP
  have hD := lx_dj hD hFc
  refine lv_istore_n (lv' := [(2, .int r_1), (0, .ref M.o_Vt), (1, .int p0)]) hx hb d_Vt_make_7 rfl hl (by decide) rfl (fun ls hl => ?_)
  refine lv_aload_n hx hb d_Vt_make_8 rfl (lv_at hl 1 rfl) ?_
  refine lv_aload_n hx hb d_Vt_make_9 rfl (lv_at hl 1 rfl) ?_
  obtain ⟨r_2, G_2, S_2, hc_2, h⟩ := lf_nE h
  have mc := mo_Vt_look hc_2
  have ml_2 := mo_Vt_look hc_2
  have mF1 := mo_Vt_make_13 h
  have hFc := lx_free hD hS hA
  refine va_calli (va_runV (As := []) (rest := [.ref M.o_Vt]) ⟨hx, hb, hml, hown, hts⟩ (l_Vt_look l dC dI X _ hc_2) (cwV 0 hts (gwV good_Vq (u_Vq_Vt _ k_Vt_68) (u_Vq_Vt _ k_Vt_69) (u_Vq_Vt _ k_Vt_214) (u_Vq_Vt _ k_Vt_0) (wcs (u_Vq_Vt _ k_Vt_70) (fun _ h => h))) rfl rfl rfl (by decide +kernel) ⟨Nat.le_of_ble_eq_true rfl, Nat.le_of_ble_eq_true rfl⟩) (pv_ofE (X.same _) (fun U z1 z2 => X.mono _ _ U hFc (hEw _ _ hS U z1 z2)) hP hK hD (va_recv hK hP (ci := 11) (q0 := 0) rfl rfl)) rfl rfl hl.1 rfl (lv_room (Nat.le_of_ble_eq_true rfl)) d_Vt_make_10 ⟨ly_c1 m0.1 mc.1 mF1.1, ly_c1 m0.2 mc.2 mF1.2⟩) hS (fun q _ h => hFc q h) hFc (fun r_ Y_2 t H locs ht hvm hw hB hz1 hk1 hS => ?_)
  rw [hw]
  obtain ⟨hP, -, hD⟩ := hB
  rw [ht] at hP
  have hD := lx_dj hD hFc
  refine W.widen (k := G_2.gc - G0.gc) (n := G_2.gs - G0.gs) (ly_c2 m0.1 mc.1) (ly_c2 m0.2 mc.2) ?_
  have m0 := CG.le_tr m0 mc
  exact hB_13 p0 r_1 r_2 Y_2 G_2 S_2 _ _ _ h m0 hP hD hS (lv_sub hl [1, 2, 0] rfl)
set_option maxHeartbeats 4000000 in
set_option maxRecDepth 100000 in
theorem lt_Vt_make_3 (l : Launch) (hfl : l.flags = pinnedFlags ++ [noTraceFlag]) (dC : Nat → ClassId) (dI : Nat → Nat → Nat) {K : Nat} {M : CA} {E : (Nat → Prop) → State → Prop} (X : ly_X l dC dI K M E) (sz : Nat) {Y : CT} {G0 G' : CG} {S S' : CS} {p0 : Int32} (h : f_Vt_make K G0 S p0 = some (.error 3, G', S')) : MetX l y_Vt_make (.code y_Vt_make cb_Vt_make 3 (some .int) :: V_Vq) ({ frames := 8, cells := G'.gc - G0.gc, slots := G'.gs - G0.gs, locals := 224 }) (va_Pc [.ref M.o_Vt, .int p0] (fun U => U.heap.size = sz ∧ at_ (dC, dI) (fun _ => True) (wV M Y G0 S) (tV M) U ∧ E (va_A (wV M Y G0 S) sz) U)) (fun _ _ _ _ => False) (x_Q "java/lang/UnsupportedOperationException" (va_A (wV M Y G0 S) sz) (fun t => ∃ u : CT, at_ (dC, dI) (va_A (wV M Y G0 S) sz) (wV M u G' S') (tV M) t)) (G'.gc - G0.gc) (G'.gs - G0.gs) (va_A (wV M Y G0 S) sz) := by
  refine MetX.ofW (cc := cb_Vt_make) (maxL := 3) (ret := (some .int)) (by decide) rfl ?_
  intro p e s m args below meth c s₁ B hml hv
  obtain ⟨rfl, hsz, ⟨hP, hK, hD0⟩, hE⟩ := hv
  have hx := B.exec
  have hb := B.bytes
  have hr := B.returns
  have hts0 := atoms_spec (ws := .code y_Vt_make cb_Vt_make 3 (some .int) :: V_Vq) B.pre
  have hts : ∀ w ∈ V_Vq, w.before ([.ref M.o_Vt, .int p0] : List Value).toArray s = true := fun w h => hts0 w (List.mem_cons_of_mem _ h)
  have hown : s.vm.findClass R_Vt = some m.cls := findClass_of_methodNamed B.named
  have hlocks := B.notSynchronized
  have hout := x_table B (hts0 _ List.mem_cons_self)
  subst hsz
  have hD := hD0.self (sz := s.heap.size)
  generalize hAe : va_A (wV M Y G0 S) s.heap.size = A at hD hE ⊢
  have hA : ∀ q : Nat, s.heap.size ≤ q → A q := fun q h => by rw [← hAe]; exact Or.inr h
  have hS : va_S A s.heap s.heap [] := va_S.rf
  have hP : va_P (dC, dI) classes (wV M Y G0 S) s.heap := hP
  have hK : va_K (dC, dI) classes (tV M) s := hK
  have hEw : ∀ (H : Heap) (locs : List Loc), va_S A s.heap H locs → ∀ U : State, U.heap = H → s.WarmedH U.vm → E A U := fun H locs hS U hU hW => X.kept A s U H locs hE hS hU hW
  have hl := lv_entry ([.ref M.o_Vt, .int p0]) (n := 3) (Nat.le_of_ble_eq_true rfl)
  rw [lg_entry_eq]
  generalize (lg_sl ([.ref M.o_Vt, .int p0]) ++ List.replicate (3 - (lg_sl ([.ref M.o_Vt, .int p0])).length) Slot.unset).toArray = ls at hl ⊢
  have hl : lv_has ls 3 [(0, .ref M.o_Vt), (1, .int p0)] := hl
  refine qabs (fun Q hQ => ?_)
  have hB_45 : ∀ (Y : CT) (G : CG) (S : CS) (H : Heap) (locs : List Loc) (ls : Array Slot), f_Vt_make_45 K G S = some (.error 3, G', S') → CG.le G0 G → va_P (dC, dI) classes (wV M Y G S) H → va_D A (wV M Y G S) → va_S A s.heap H locs → lv_has ls 3 [] → W p l e ({ frames := 8, cells := G'.gc - G0.gc, slots := G'.gs - G0.gs, locals := 224 }) s m ([.ref M.o_Vt, .int p0] : List Value).toArray below meth c H locs (G.gc - G0.gc) (G.gs - G0.gs) Q (F0 m 45 ls []) := by
    intro Y G S H locs ls h m0 hP hD hS hl
    have mF := mo_Vt_make_45 h
    rw [f_Vt_make_45] at h
    exact lf_xk h (by decide)
  have hB_16 : ∀ (y_1 : Int32) (y_2 : Int32) (Y : CT) (G : CG) (S : CS) (H : Heap) (locs : List Loc) (ls : Array Slot), f_Vt_make_16 K y_1 y_2 G S = some (.error 3, G', S') → CG.le G0 G → va_P (dC, dI) classes (wV M Y G S) H → va_D A (wV M Y G S) → va_S A s.heap H locs → lv_has ls 3 [(0, .ref M.o_Vt), (1, .int y_1), (2, .int y_2)] → W p l e ({ frames := 8, cells := G'.gc - G0.gc, slots := G'.gs - G0.gs, locals := 224 }) s m ([.ref M.o_Vt, .int p0] : List Value).toArray below meth c H locs (G.gc - G0.gc) (G.gs - G0.gs) Q (F0 m 16 ls []) := by
    intro y_1 y_2 Y G S H locs ls h m0 hP hD hS hl
    have mF := mo_Vt_make_16 h
    rw [f_Vt_make_16] at h
    refine lv_aload_n hx hb d_Vt_make_16 rfl (lv_at hl 0 rfl) ?_
    refine va_get (D := (dC, dI)) (ci := 11) (v := .ref M.o_Ed) (C := R_Vt) (T := F_Vt) (N := 16) hx hb hts (fun w h => u_Vq_Vt w (i_Vt w h)) hown hK hP 0 rfl rfl 5 (by decide) (hts _ (u_Vq_Vt _ k_Vt_34)) (fun _ h9 => h9) rfl d_Vt_make_17 ?_
    refine lv_aload_n hx hb d_Vt_make_20 rfl (lv_at hl 0 rfl) ?_
    refine va_get (D := (dC, dI)) (ci := 11) (v := .ref M.o_Tp) (C := R_Vt) (T := F_Vt) (N := 16) hx hb hts (fun w h => u_Vq_Vt w (i_Vt w h)) hown hK hP 0 rfl rfl 1 (by decide) (hts _ (u_Vq_Vt _ k_Vt_30)) (fun _ h9 => h9) rfl d_Vt_make_21 ?_
    refine lv_iload_n hx hb d_Vt_make_24 rfl (lv_at hl 2 rfl) ?_
    obtain ⟨r_4, S_4, hc_4, h⟩ := lf_cE h
    have hFc := lx_free hD hS hA
    refine va_calli (va_runV (As := [.ref M.o_Tp, .int y_2]) (rest := []) ⟨hx, hb, hml, hown, hts⟩ (l_Ed_readName l dC dI X _ hc_4) (cwV 2 hts (gwV good_Vq (u_Vq_Vt _ k_Vt_169) (u_Vq_Ed _ k_Ed_37) (u_Vq_Ed _ k_Ed_38) (u_Vq_Ed _ k_Ed_0) (wcs (u_Vq_Ed _ k_Ed_39) (fun _ h => h))) rfl rfl rfl (by decide +kernel) ⟨Nat.le_of_ble_eq_true rfl, Nat.le_of_ble_eq_true rfl⟩) (pv_ofE (X.same _) (fun U z1 z2 => X.mono _ _ U hFc (hEw _ _ hS U z1 z2)) hP hK hD (va_recv hK hP (ci := 8) (q0 := 6) rfl rfl)) rfl rfl hl.1 rfl (lv_room (Nat.le_of_ble_eq_true rfl)) d_Vt_make_25 ⟨ly_c0 mF.1, ly_c0 mF.2⟩) hS (fun q _ h => hFc q h) hFc (fun r_ u t H locs ht hvm hw hB hz1 hk1 hS => ?_)
    rw [hw]
    obtain ⟨hP, -, hD⟩ := hB
    rw [ht] at hP
    have hD := lx_dj hD hFc
    refine lv_if_eq (tgt := 45) hx hb d_Vt_make_28 (by decide) (fun c_5 => ?_) (fun c_5 => ?_)
    · have h := lf_t h c_5
      exact hB_45 Y G S_4 _ _ _ h m0 hP hD hS (lv_sub hl [] rfl)
    · have h := lf_f h c_5
      refine lv_aload_n hx hb d_Vt_make_31 rfl (lv_at hl 0 rfl) ?_
      refine va_get (D := (dC, dI)) (ci := 11) (v := .ref M.o_Ed) (C := R_Vt) (T := F_Vt) (N := 16) hx hb hts (fun w h => u_Vq_Vt w (i_Vt w h)) hown hK hP 0 rfl rfl 5 (by decide) (hts _ (u_Vq_Vt _ k_Vt_34)) (fun _ h9 => h9) rfl d_Vt_make_32 ?_
      refine lv_aload_n hx hb d_Vt_make_35 rfl (lv_at hl 0 rfl) ?_
      refine va_get (D := (dC, dI)) (ci := 11) (v := .int S_4.v_Vt_here) (C := R_Vt) (T := F_Vt) (N := 16) hx hb hts (fun w h => u_Vq_Vt w (i_Vt w h)) hown hK hP 0 rfl rfl 12 (by decide) (hts _ (u_Vq_Vt _ k_Vt_41)) (fun _ h9 => h9) rfl d_Vt_make_36 ?_
      obtain ⟨r_6, S_6, hc_6, h⟩ := lf_cE h
      have hFc := lx_free hD hS hA
      refine va_calli (va_runV (As := [.int S_4.v_Vt_here]) (rest := []) ⟨hx, hb, hml, hown, hts⟩ (l_Ed_clashes l dC dI X _ hc_6) (cwV 1 hts (gwV good_Vq (u_Vq_Vt _ k_Vt_170) (u_Vq_Ed _ k_Ed_49) (u_Vq_Ed _ k_Ed_50) (u_Vq_Ed _ k_Ed_0) (wcs (u_Vq_Ed _ k_Ed_51) (fun _ h => h))) rfl rfl rfl (by decide +kernel) ⟨Nat.le_of_ble_eq_true rfl, Nat.le_of_ble_eq_true rfl⟩) (pv_ofE (X.same _) (fun U z1 z2 => X.mono _ _ U hFc (hEw _ _ hS U z1 z2)) hP hK hD (va_recv hK hP (ci := 8) (q0 := 6) rfl rfl)) rfl rfl hl.1 rfl (lv_room (Nat.le_of_ble_eq_true rfl)) d_Vt_make_39 ⟨ly_c0 mF.1, ly_c0 mF.2⟩) hS (fun q _ h => hFc q h) hFc (fun r_ u t H locs ht hvm hw hB hz1 hk1 hS => ?_)
      rw [hw]
      obtain ⟨hP, -, hD⟩ := hB
      rw [ht] at hP
      have hD := lx_dj hD hFc
      refine lv_if_eq (tgt := 55) hx hb d_Vt_make_42 (by decide) (fun c_7 => ?_) (fun c_7 => ?_)
      · have h := lf_t h c_7
        refine lv_aload_n hx hb d_Vt_make_55 rfl (lv_at hl 0 rfl) ?_
        refine va_get (D := (dC, dI)) (ci := 11) (v := .ref M.o_Ed) (C := R_Vt) (T := F_Vt) (N := 16) hx hb hts (fun w h => u_Vq_Vt w (i_Vt w h)) hown hK hP 0 rfl rfl 5 (by decide) (hts _ (u_Vq_Vt _ k_Vt_34)) (fun _ h9 => h9) rfl d_Vt_make_56 ?_
        refine lv_aload_n hx hb d_Vt_make_59 rfl (lv_at hl 0 rfl) ?_
        refine va_get (D := (dC, dI)) (ci := 11) (v := .int S_6.v_Vt_here) (C := R_Vt) (T := F_Vt) (N := 16) hx hb hts (fun w h => u_Vq_Vt w (i_Vt w h)) hown hK hP 0 rfl rfl 12 (by decide) (hts _ (u_Vq_Vt _ k_Vt_41)) (fun _ h9 => h9) rfl d_Vt_make_60 ?_
        refine lv_iload_n hx hb d_Vt_make_63 rfl (lv_at hl 1 rfl) ?_
        obtain ⟨r_8, S_8, hc_8, h⟩ := lf_cE h
        have hFc := lx_free hD hS hA
        refine va_calli (va_runV (As := [.int S_6.v_Vt_here, .int y_1]) (rest := []) ⟨hx, hb, hml, hown, hts⟩ (l_Ed_findSlots l dC dI X _ hc_8) (cwV 2 hts (gwV good_Vq (u_Vq_Vt _ k_Vt_171) (u_Vq_Ed _ k_Ed_60) (u_Vq_Ed _ k_Ed_61) (u_Vq_Ed _ k_Ed_0) (wcs (u_Vq_Ed _ k_Ed_62) (fun _ h => h))) rfl rfl rfl (by decide +kernel) ⟨Nat.le_of_ble_eq_true rfl, Nat.le_of_ble_eq_true rfl⟩) (pv_ofE (X.same _) (fun U z1 z2 => X.mono _ _ U hFc (hEw _ _ hS U z1 z2)) hP hK hD (va_recv hK hP (ci := 8) (q0 := 6) rfl rfl)) rfl rfl hl.1 rfl (lv_room (Nat.le_of_ble_eq_true rfl)) d_Vt_make_64 ⟨ly_c0 mF.1, ly_c0 mF.2⟩) hS (fun q _ h => hFc q h) hFc (fun r_ u t H locs ht hvm hw hB hz1 hk1 hS => ?_)
        rw [hw]
        obtain ⟨hP, -, hD⟩ := hB
        rw [ht] at hP
        have hD := lx_dj hD hFc
        refine lv_if_ne (tgt := 80) hx hb d_Vt_make_67 (by decide) (fun c_9 => ?_) (fun c_9 => ?_)
        · have h := lf_f h c_9
          refine lv_aload_n hx hb d_Vt_make_80 rfl (lv_at hl 0 rfl) ?_
          obtain ⟨S_10, hc_10, h⟩ := lf_bE h
          have hFc := lx_free hD hS hA
          refine va_callv (va_runV (As := []) (rest := []) ⟨hx, hb, hml, hown, hts⟩ (l_Vt_changed l dC dI X _ hc_10) (cwV 0 hts (gwV good_Vq (u_Vq_Vt _ k_Vt_62) (u_Vq_Vt _ k_Vt_63) (u_Vq_Vt _ k_Vt_213) (u_Vq_Vt _ k_Vt_0) (wcs (u_Vq_Vt _ k_Vt_64) (fun _ h => h))) rfl rfl rfl (by decide +kernel) ⟨Nat.le_of_ble_eq_true rfl, Nat.le_of_ble_eq_true rfl⟩) (pv_ofE (X.same _) (fun U z1 z2 => X.mono _ _ U hFc (hEw _ _ hS U z1 z2)) hP hK hD (va_recv hK hP (ci := 11) (q0 := 0) rfl rfl)) rfl rfl hl.1 rfl (lv_room (Nat.le_of_ble_eq_true rfl)) d_Vt_make_81 ⟨ly_c0 mF.1, ly_c0 mF.2⟩) hS (fun q _ h => hFc q h) hFc (fun u t H locs ht hvm hw hB hz1 hk1 hS => ?_)
          obtain ⟨hP, -, hD⟩ := hB
          rw [ht] at hP
          have hD := lx_dj hD hFc
          refine lv_aload_n hx hb d_Vt_make_84 rfl (lv_at hl 0 rfl) ?_
          refine va_get (D := (dC, dI)) (ci := 11) (v := .ref M.o_Ed) (C := R_Vt) (T := F_Vt) (N := 16) hx hb hts (fun w h => u_Vq_Vt w (i_Vt w h)) hown hK hP 0 rfl rfl 5 (by decide) (hts _ (u_Vq_Vt _ k_Vt_34)) (fun _ h9 => h9) rfl d_Vt_make_85 ?_
          refine lv_aload_n hx hb d_Vt_make_88 rfl (lv_at hl 0 rfl) ?_
          refine va_get (D := (dC, dI)) (ci := 11) (v := .int S_10.v_Vt_here) (C := R_Vt) (T := F_Vt) (N := 16) hx hb hts (fun w h => u_Vq_Vt w (i_Vt w h)) hown hK hP 0 rfl rfl 12 (by decide) (hts _ (u_Vq_Vt _ k_Vt_41)) (fun _ h9 => h9) rfl d_Vt_make_89 ?_
          refine lv_iload_n hx hb d_Vt_make_92 rfl (lv_at hl 1 rfl) ?_
          obtain ⟨r_11, S_11, hc_11, h⟩ := lf_cE h
          have hFc := lx_free hD hS hA
          refine va_calli (va_runV (As := [.int S_10.v_Vt_here, .int y_1]) (rest := []) ⟨hx, hb, hml, hown, hts⟩ (l_Ed_addItem l dC dI X _ hc_11) (cwV 2 hts (gwV good_Vq (u_Vq_Vt _ k_Vt_175) (u_Vq_Ed _ k_Ed_69) (u_Vq_Ed _ k_Ed_70) (u_Vq_Ed _ k_Ed_0) (wcs (u_Vq_Ed _ k_Ed_71) (fun _ h => h))) rfl rfl rfl (by decide +kernel) ⟨Nat.le_of_ble_eq_true rfl, Nat.le_of_ble_eq_true rfl⟩) (pv_ofE (X.same _) (fun U z1 z2 => X.mono _ _ U hFc (hEw _ _ hS U z1 z2)) hP hK hD (va_recv hK hP (ci := 8) (q0 := 6) rfl rfl)) rfl rfl hl.1 rfl (lv_room (Nat.le_of_ble_eq_true rfl)) d_Vt_make_93 ⟨ly_c0 mF.1, ly_c0 mF.2⟩) hS (fun q _ h => hFc q h) hFc (fun r_ u t H locs ht hvm hw hB hz1 hk1 hS => ?_)
          rw [hw]
          obtain ⟨hP, -, hD⟩ := hB
          rw [ht] at hP
          have hD := lx_dj hD hFc
          exact lf_xo h
        · have h := lf_t h c_9
          rw [hQ]
          have e2 : G.made 1 6 = G' := congrArg (fun z => z.2.1) (Option.some.inj h)
          have e3 : S_8 = S' := congrArg (fun z => z.2.2) (Option.some.inj h)
          have hP := ly_newP3 e2.symm e3.symm (ly_madeP (c := 1) (n := 6) hP)
          have hD := ly_newD3 e2.symm e3.symm (ly_madeD (c := 1) (n := 6) hD)
          refine W.mono (ly_mqx (fun t z => ⟨Y, z⟩)) ?_
          exact x_thrG (own := R_Vt) (cls := "java/lang/UnsupportedOperationException") (ik := 248) (is := 250) (ic := 252) (k := 2) hx hb (Launch.traces_off hfl (Stand.of_body B).admits) hlocks hown (by decide) (fun T hT => (X.xt_250 _ _ (hEw _ _ hS (xs s T) hT (State.WarmedH.refl s))).1) (hts _ (u_Vq_Vt _ k_Vt_172)) (hts _ (u_Vq_Vt _ k_Vt_173)) (hts _ (u_Vq_Vt _ k_Vt_4)) (X.xt_250 _ _ hE).2 (hl.1.trans hml.symm) d_Vt_make_70 d_Vt_make_73 (Or.inl ⟨d_Vt_make_74, rfl⟩) d_Vt_make_76 d_Vt_make_79 hout (Nat.le_of_ble_eq_true rfl) (Nat.le_of_ble_eq_true rfl) (ly_t1 e2 m0) (Nat.le_refl _) (ly_t2 e2 m0) (Nat.le_refl _) hP hK hD hS
      · have h := lf_f h c_7
        exact hB_45 Y G S_6 _ _ _ h m0 hP hD hS (lv_sub hl [] rfl)
  have hB_13 : ∀ (y_1 : Int32) (y_2 : Int32) (z_1 : Int32) (Y : CT) (G : CG) (S : CS) (H : Heap) (locs : List Loc) (ls : Array Slot), f_Vt_make_13 K y_1 y_2 z_1 G S = some (.error 3, G', S') → CG.le G0 G → va_P (dC, dI) classes (wV M Y G S) H → va_D A (wV M Y G S) → va_S A s.heap H locs → lv_has ls 3 [(0, .ref M.o_Vt), (1, .int y_1), (2, .int y_2)] → W p l e ({ frames := 8, cells := G'.gc - G0.gc, slots := G'.gs - G0.gs, locals := 224 }) s m ([.ref M.o_Vt, .int p0] : List Value).toArray below meth c H locs (G.gc - G0.gc) (G.gs - G0.gs) Q (F0 m 13 ls [.int z_1, .ref M.o_Vt]) := by
    intro y_1 y_2 z_1 Y G S H locs ls h m0 hP hD hS hl
    have mF := mo_Vt_make_13 h
    rw [f_Vt_make_13] at h
    rcases lf_aT h with ⟨r_3, G_3, S_3, hc_3, h⟩ | h9
    · have mc := mo_Vt_wantSoundTable hc_3
      have ml_3 := mo_Vt_wantSoundTable hc_3
      have mF1 := mo_Vt_make_16 h
      have hFc := lx_free hD hS hA
      refine va_callv (va_runV (As := [.int z_1]) (rest := []) ⟨hx, hb, hml, hown, hts⟩ (l_Vt_wantSoundTable l dC dI X _ hc_3) (cwV 1 hts (gwV good_Vq (u_Vq_Vt _ k_Vt_166) (u_Vq_Vt _ k_Vt_167) (u_Vq_Vt _ k_Vt_216) (u_Vq_Vt _ k_Vt_0) (wcs (u_Vq_Vt _ k_Vt_168) (fun _ h => h))) rfl rfl rfl (by decide +kernel) ⟨Nat.le_of_ble_eq_true rfl, Nat.le_of_ble_eq_true rfl⟩) (pv_ofE (X.same _) (fun U z1 z2 => X.mono _ _ U hFc (hEw _ _ hS U z1 z2)) hP hK hD (va_recv hK hP (ci := 11) (q0 := 0) rfl rfl)) rfl rfl hl.1 rfl (lv_room (Nat.le_of_ble_eq_true rfl)) d_Vt_make_13 ⟨ly_c1 m0.1 mc.1 mF1.1, ly_c1 m0.2 mc.2 mF1.2⟩) hS (fun q _ h => hFc q h) hFc (fun Y_3 t H locs ht hvm hw hB hz1 hk1 hS => ?_)
      obtain ⟨hP, -, hD⟩ := hB
      rw [ht] at hP
      have hD := lx_dj hD hFc
      refine W.widen (k := G_3.gc - G0.gc) (n := G_3.gs - G0.gs) (ly_c2 m0.1 mc.1) (ly_c2 m0.2 mc.2) ?_
      have m0 := CG.le_tr m0 mc
      exact hB_16 y_1 y_2 Y_3 G_3 S_3 _ _ _ h m0 hP hD hS (lv_sub hl [0, 1, 2] rfl)
    · exact absurd (th_Vt_wantSoundTable h9) (by decide)
  have m0 : CG.le G0 G0 := ⟨Nat.le_refl _, Nat.le_refl _⟩
  have mF := mo_Vt_make h
  refine W.widen (k := G0.gc - G0.gc) (n := G0.gs - G0.gs) (Nat.zero_le _) (Nat.zero_le _) ?_
  rw [f_Vt_make] at h
  refine lv_aload_n hx hb d_Vt_make_0 rfl (lv_at hl 0 rfl) ?_
  refine va_get (D := (dC, dI)) (ci := 11) (v := .ref M.o_Tp) (C := R_Vt) (T := F_Vt) (N := 16) hx hb hts (fun w h => u_Vq_Vt w (i_Vt w h)) hown hK hP 0 rfl rfl 1 (by decide) (hts _ (u_Vq_Vt _ k_Vt_30)) (fun _ h9 => h9) rfl d_Vt_make_1 ?_
  obtain ⟨r_1, S_1, hc_1, h⟩ := lf_cE h
  have hFc := lx_free hD hS hA
  refine va_calli (va_runV (As := []) (rest := []) ⟨hx, hb, hml, hown, hts⟩ (l_Tp_useUp l dC dI X _ hc_1) (cwV 0 hts (gwV good_Vq (u_Vq_Vt _ k_Vt_56) (u_Vq_Tp _ k_Tp_16) (u_Vq_Tp _ k_Tp_17) (u_Vq_Tp _ k_Tp_0) (wcs (u_Vq_Tp _ k_Tp_18) (fun _ h => h))) rfl rfl rfl (by decide +kernel) ⟨Nat.le_of_ble_eq_true rfl, Nat.le_of_ble_eq_true rfl⟩) (pv_ofE (X.same _) (fun U z1 z2 => X.mono _ _ U hFc (hEw _ _ hS U z1 z2)) hP hK hD (va_recv hK hP (ci := 3) (q0 := 2) rfl rfl)) rfl rfl hl.1 rfl (lv_room (Nat.le_of_ble_eq_true rfl)) d_Vt_make_4 ⟨ly_c0 mF.1, ly_c0 mF.2⟩) hS (fun q _ h => hFc q h) hFc (fun r_ u t H locs ht hvm hw hB hz1 hk1 hS => ?_)
  rw [hw]
  obtain ⟨hP, -, hD⟩ := hB
  rw [ht] at hP
  have hD := lx_dj hD hFc
  refine lv_istore_n (lv' := [(2, .int r_1), (0, .ref M.o_Vt), (1, .int p0)]) hx hb d_Vt_make_7 rfl hl (by decide) rfl (fun ls hl => ?_)
  refine lv_aload_n hx hb d_Vt_make_8 rfl (lv_at hl 1 rfl) ?_
  refine lv_aload_n hx hb d_Vt_make_9 rfl (lv_at hl 1 rfl) ?_
  obtain ⟨r_2, G_2, S_2, hc_2, h⟩ := lf_nE h
  have mc := mo_Vt_look hc_2
  have ml_2 := mo_Vt_look hc_2
  have mF1 := mo_Vt_make_13 h
  have hFc := lx_free hD hS hA
  refine va_calli (va_runV (As := []) (rest := [.ref M.o_Vt]) ⟨hx, hb, hml, hown, hts⟩ (l_Vt_look l dC dI X _ hc_2) (cwV 0 hts (gwV good_Vq (u_Vq_Vt _ k_Vt_68) (u_Vq_Vt _ k_Vt_69) (u_Vq_Vt _ k_Vt_214) (u_Vq_Vt _ k_Vt_0) (wcs (u_Vq_Vt _ k_Vt_70) (fun _ h => h))) rfl rfl rfl (by decide +kernel) ⟨Nat.le_of_ble_eq_true rfl, Nat.le_of_ble_eq_true rfl⟩) (pv_ofE (X.same _) (fun U z1 z2 => X.mono _ _ U hFc (hEw _ _ hS U z1 z2)) hP hK hD (va_recv hK hP (ci := 11) (q0 := 0) rfl rfl)) rfl rfl hl.1 rfl (lv_room (Nat.le_of_ble_eq_true rfl)) d_Vt_make_10 ⟨ly_c1 m0.1 mc.1 mF1.1, ly_c1 m0.2 mc.2 mF1.2⟩) hS (fun q _ h => hFc q h) hFc (fun r_ Y_2 t H locs ht hvm hw hB hz1 hk1 hS => ?_)
  rw [hw]
  obtain ⟨hP, -, hD⟩ := hB
  rw [ht] at hP
  have hD := lx_dj hD hFc
  refine W.widen (k := G_2.gc - G0.gc) (n := G_2.gs - G0.gs) (ly_c2 m0.1 mc.1) (ly_c2 m0.2 mc.2) ?_
  have m0 := CG.le_tr m0 mc
  exact hB_13 p0 r_1 r_2 Y_2 G_2 S_2 _ _ _ h m0 hP hD hS (lv_sub hl [1, 2, 0] rfl)
