set_option maxHeartbeats 4000000 in
set_option maxRecDepth 100000 in
theorem l_Ed_putStamp (l : Launch) (dC : Nat → ClassId) (dI : Nat → Nat → Nat) {K : Nat} {M : CA} {E : (Nat → Prop) → State → Prop} (X : ly_X l dC dI K M E) (sz : Nat) {Y : CT} {G : CG} {S S' : CS} {p0 : Int32} {p1 : Int32} {p2 : Int32} {p3 : Int32} (h : f_Ed_putStamp K G S p0 p1 p2 p3 = some S') : Met l y_Ed_putStamp (.code y_Ed_putStamp cb_Ed_putStamp 5 none :: V_Vq) ({ frames := 1, cells := 0, slots := 0, locals := 22 }) (va_Pc [.ref M.o_Ed, .int p0, .int p1, .int p2, .int p3] (fun U => U.heap.size = sz ∧ at_ (dC, dI) (fun _ => True) (wV M Y G S) (tV M) U ∧ E (va_A (wV M Y G S) sz) U)) (va_Qv (fun (u : Unit) => True) (fun (u : Unit) t => at_ (dC, dI) (va_A (wV M Y G S) sz) (wV M Y G S') (tV M) t) (va_A (wV M Y G S) sz)) 0 0 (va_A (wV M Y G S) sz) := by
  refine Met.ofW (cc := cb_Ed_putStamp) (maxL := 5) (ret := none) (by decide) rfl ?_
  intro p e s m args below meth c s₁ B hml hv
  obtain ⟨rfl, hsz, ⟨hP, hK, hD0⟩, hE⟩ := hv
  have hx := B.exec
  have hb := B.bytes
  have hr := B.returns
  have hts0 := atoms_spec (ws := .code y_Ed_putStamp cb_Ed_putStamp 5 none :: V_Vq) B.pre
  have hts : ∀ w ∈ V_Vq, w.before ([.ref M.o_Ed, .int p0, .int p1, .int p2, .int p3] : List Value).toArray s = true := fun w h => hts0 w (List.mem_cons_of_mem _ h)
  have hown : s.vm.findClass R_Ed = some m.cls := findClass_of_methodNamed B.named
  subst hsz
  have hD := hD0.self (sz := s.heap.size)
  generalize hAe : va_A (wV M Y G S) s.heap.size = A at hD hE ⊢
  have hA : ∀ q : Nat, s.heap.size ≤ q → A q := fun q h => by rw [← hAe]; exact Or.inr h
  have hS : va_S A s.heap s.heap [] := va_S.rf
  have hP : va_P (dC, dI) classes (wV M Y G S) s.heap := hP
  have hK : va_K (dC, dI) classes (tV M) s := hK
  have hEw : ∀ (H : Heap) (locs : List Loc), va_S A s.heap H locs → ∀ U : State, U.heap = H → s.WarmedH U.vm → E A U := fun H locs hS U hU hW => X.kept A s U H locs hE hS hU hW
  have hl := lv_entry ([.ref M.o_Ed, .int p0, .int p1, .int p2, .int p3]) (n := 5) (Nat.le_of_ble_eq_true rfl)
  rw [lg_entry_eq]
  generalize (lg_sl ([.ref M.o_Ed, .int p0, .int p1, .int p2, .int p3]) ++ List.replicate (5 - (lg_sl ([.ref M.o_Ed, .int p0, .int p1, .int p2, .int p3])).length) Slot.unset).toArray = ls at hl ⊢
  have hl : lv_has ls 5 [(0, .ref M.o_Ed), (1, .int p0), (2, .int p1), (3, .int p2), (4, .int p3)] := hl
  refine qabs (fun Q hQ => ?_)
  rw [f_Ed_putStamp] at h
  refine lv_iload_n hx hb d_Ed_putStamp_0 rfl (lv_at hl 2 rfl) ?_
  by_cases c_1 : p1 = 0
  · have h := lf_t h c_1
    refine lv_tableIn (tgt := 32) hx hb d_Ed_putStamp_1 (by rw [c_1]; decide) (by rw [c_1]; decide) (by rw [c_1]; (try rfl)) (by decide) ?_
    refine lv_aload_n hx hb d_Ed_putStamp_32 rfl (lv_at hl 0 rfl) ?_
    refine va_get (D := (dC, dI)) (ci := 8) (v := .ref M.o_Dk) (C := R_Ed) (T := F_Ed) (N := 13) hx hb hts (fun w h => u_Vq_Ed w (i_Ed w h)) hown hK hP 6 rfl rfl 0 (by decide) (hts _ (u_Vq_Ed _ k_Ed_7)) (fun _ h9 => h9) rfl d_Ed_putStamp_33 ?_
    refine lv_iload_n hx hb d_Ed_putStamp_36 rfl (lv_at hl 1 rfl) ?_
    refine lv_bipush (v := 16) hx hb d_Ed_putStamp_37 (by decide) ?_
    refine lv_iadd hx hb d_Ed_putStamp_39 ?_
    refine lv_iload_n hx hb d_Ed_putStamp_40 rfl (lv_at hl 3 rfl) ?_
    obtain ⟨S_2, hc_2, h⟩ := lf_bE h
    have hFc := lx_free hD hS hA
    refine va_callv (va_runV (As := [.int (p0 + 16), .int p2]) (rest := []) ⟨hx, hb, hml, hown, hts⟩ (l_Dk_putTwo l dC dI X _ hc_2) (cwV 2 hts (gwV good_Vq (u_Vq_Ed _ k_Ed_26) (u_Vq_Dk _ k_Dk_27) (u_Vq_Dk _ k_Dk_28) (u_Vq_Dk _ k_Dk_0) (wcs (u_Vq_Dk _ k_Dk_29) (fun _ h => h))) rfl rfl rfl (by decide +kernel) ⟨Nat.le_of_ble_eq_true rfl, Nat.le_of_ble_eq_true rfl⟩) (pv_ofE (X.same _) (fun U z1 z2 => X.mono _ _ U hFc (hEw _ _ hS U z1 z2)) hP hK hD (va_recv hK hP (ci := 0) (q0 := 1) rfl rfl)) rfl rfl hl.1 rfl (lv_room (Nat.le_of_ble_eq_true rfl)) d_Ed_putStamp_41 ⟨by decide, by decide⟩) hS (fun q _ h => hFc q h) hFc (fun u t H locs ht hvm hw hB hz1 hk1 hS => ?_)
    obtain ⟨hP, -, hD⟩ := hB
    rw [ht] at hP
    have hD := lx_dj hD hFc
    refine lv_aload_n hx hb d_Ed_putStamp_44 rfl (lv_at hl 0 rfl) ?_
    refine va_get (D := (dC, dI)) (ci := 8) (v := .ref M.o_Dk) (C := R_Ed) (T := F_Ed) (N := 13) hx hb hts (fun w h => u_Vq_Ed w (i_Ed w h)) hown hK hP 6 rfl rfl 0 (by decide) (hts _ (u_Vq_Ed _ k_Ed_7)) (fun _ h9 => h9) rfl d_Ed_putStamp_45 ?_
    refine lv_iload_n hx hb d_Ed_putStamp_48 rfl (lv_at hl 1 rfl) ?_
    refine lv_bipush (v := 14) hx hb d_Ed_putStamp_49 (by decide) ?_
    refine lv_iadd hx hb d_Ed_putStamp_51 ?_
    refine lv_iload hx hb d_Ed_putStamp_52 (lv_at hl 4 rfl) ?_
    obtain ⟨S_3, hc_3, h⟩ := lf_bE h
    have hFc := lx_free hD hS hA
    refine va_callv (va_runV (As := [.int (p0 + 14), .int p3]) (rest := []) ⟨hx, hb, hml, hown, hts⟩ (l_Dk_putTwo l dC dI X _ hc_3) (cwV 2 hts (gwV good_Vq (u_Vq_Ed _ k_Ed_26) (u_Vq_Dk _ k_Dk_27) (u_Vq_Dk _ k_Dk_28) (u_Vq_Dk _ k_Dk_0) (wcs (u_Vq_Dk _ k_Dk_29) (fun _ h => h))) rfl rfl rfl (by decide +kernel) ⟨Nat.le_of_ble_eq_true rfl, Nat.le_of_ble_eq_true rfl⟩) (pv_ofE (X.same _) (fun U z1 z2 => X.mono _ _ U hFc (hEw _ _ hS U z1 z2)) hP hK hD (va_recv hK hP (ci := 0) (q0 := 1) rfl rfl)) rfl rfl hl.1 rfl (lv_room (Nat.le_of_ble_eq_true rfl)) d_Ed_putStamp_54 ⟨by decide, by decide⟩) hS (fun q _ h => hFc q h) hFc (fun u t H locs ht hvm hw hB hz1 hk1 hS => ?_)
    obtain ⟨hP, -, hD⟩ := hB
    rw [ht] at hP
    have hD := lx_dj hD hFc
    refine lv_goto (tgt := 147) hx hb d_Ed_putStamp_57 (by decide) ?_
    rw [hQ]
    have e2 : S_3 = S' := Option.some.inj h
    have hP := ly_newP e2.symm hP
    have hD := ly_newD e2.symm hD
    exact W.vret hx hb hr (fun t ht hW => ⟨⟨(), rfl, trivial, by rw [ht]; exact hP, va_K.moved hW.alike hK, hD⟩, hS.F ht⟩) hS.2.2 d_Ed_putStamp_147
  · have h := lf_f h c_1
    by_cases c_4 : p1 = 1
    · have h := lf_t h c_4
      refine lv_tableIn (tgt := 60) hx hb d_Ed_putStamp_1 (by rw [c_4]; decide) (by rw [c_4]; decide) (by rw [c_4]; (try rfl)) (by decide) ?_
      refine lv_aload_n hx hb d_Ed_putStamp_60 rfl (lv_at hl 0 rfl) ?_
      refine va_get (D := (dC, dI)) (ci := 8) (v := .ref M.o_Dk) (C := R_Ed) (T := F_Ed) (N := 13) hx hb hts (fun w h => u_Vq_Ed w (i_Ed w h)) hown hK hP 6 rfl rfl 0 (by decide) (hts _ (u_Vq_Ed _ k_Ed_7)) (fun _ h9 => h9) rfl d_Ed_putStamp_61 ?_
      refine lv_iload_n hx hb d_Ed_putStamp_64 rfl (lv_at hl 1 rfl) ?_
      refine lv_bipush (v := 18) hx hb d_Ed_putStamp_65 (by decide) ?_
      refine lv_iadd hx hb d_Ed_putStamp_67 ?_
      refine lv_iload_n hx hb d_Ed_putStamp_68 rfl (lv_at hl 3 rfl) ?_
      obtain ⟨S_5, hc_5, h⟩ := lf_bE h
      have hFc := lx_free hD hS hA
      refine va_callv (va_runV (As := [.int (p0 + 18), .int p2]) (rest := []) ⟨hx, hb, hml, hown, hts⟩ (l_Dk_putTwo l dC dI X _ hc_5) (cwV 2 hts (gwV good_Vq (u_Vq_Ed _ k_Ed_26) (u_Vq_Dk _ k_Dk_27) (u_Vq_Dk _ k_Dk_28) (u_Vq_Dk _ k_Dk_0) (wcs (u_Vq_Dk _ k_Dk_29) (fun _ h => h))) rfl rfl rfl (by decide +kernel) ⟨Nat.le_of_ble_eq_true rfl, Nat.le_of_ble_eq_true rfl⟩) (pv_ofE (X.same _) (fun U z1 z2 => X.mono _ _ U hFc (hEw _ _ hS U z1 z2)) hP hK hD (va_recv hK hP (ci := 0) (q0 := 1) rfl rfl)) rfl rfl hl.1 rfl (lv_room (Nat.le_of_ble_eq_true rfl)) d_Ed_putStamp_69 ⟨by decide, by decide⟩) hS (fun q _ h => hFc q h) hFc (fun u t H locs ht hvm hw hB hz1 hk1 hS => ?_)
      obtain ⟨hP, -, hD⟩ := hB
      rw [ht] at hP
      have hD := lx_dj hD hFc
      refine lv_goto (tgt := 147) hx hb d_Ed_putStamp_72 (by decide) ?_
      rw [hQ]
      have e2 : S_5 = S' := Option.some.inj h
      have hP := ly_newP e2.symm hP
      have hD := ly_newD e2.symm hD
      exact W.vret hx hb hr (fun t ht hW => ⟨⟨(), rfl, trivial, by rw [ht]; exact hP, va_K.moved hW.alike hK, hD⟩, hS.F ht⟩) hS.2.2 d_Ed_putStamp_147
    · have h := lf_f h c_4
      by_cases c_6 : p1 = 2
      · have h := lf_t h c_6
        refine lv_tableIn (tgt := 75) hx hb d_Ed_putStamp_1 (by rw [c_6]; decide) (by rw [c_6]; decide) (by rw [c_6]; (try rfl)) (by decide) ?_
        refine lv_aload_n hx hb d_Ed_putStamp_75 rfl (lv_at hl 0 rfl) ?_
        refine va_get (D := (dC, dI)) (ci := 8) (v := .ref M.o_Dk) (C := R_Ed) (T := F_Ed) (N := 13) hx hb hts (fun w h => u_Vq_Ed w (i_Ed w h)) hown hK hP 6 rfl rfl 0 (by decide) (hts _ (u_Vq_Ed _ k_Ed_7)) (fun _ h9 => h9) rfl d_Ed_putStamp_76 ?_
        refine lv_iload_n hx hb d_Ed_putStamp_79 rfl (lv_at hl 1 rfl) ?_
        refine lv_bipush (v := 24) hx hb d_Ed_putStamp_80 (by decide) ?_
        refine lv_iadd hx hb d_Ed_putStamp_82 ?_
        refine lv_iload_n hx hb d_Ed_putStamp_83 rfl (lv_at hl 3 rfl) ?_
        obtain ⟨S_7, hc_7, h⟩ := lf_bE h
        have hFc := lx_free hD hS hA
        refine va_callv (va_runV (As := [.int (p0 + 24), .int p2]) (rest := []) ⟨hx, hb, hml, hown, hts⟩ (l_Dk_putTwo l dC dI X _ hc_7) (cwV 2 hts (gwV good_Vq (u_Vq_Ed _ k_Ed_26) (u_Vq_Dk _ k_Dk_27) (u_Vq_Dk _ k_Dk_28) (u_Vq_Dk _ k_Dk_0) (wcs (u_Vq_Dk _ k_Dk_29) (fun _ h => h))) rfl rfl rfl (by decide +kernel) ⟨Nat.le_of_ble_eq_true rfl, Nat.le_of_ble_eq_true rfl⟩) (pv_ofE (X.same _) (fun U z1 z2 => X.mono _ _ U hFc (hEw _ _ hS U z1 z2)) hP hK hD (va_recv hK hP (ci := 0) (q0 := 1) rfl rfl)) rfl rfl hl.1 rfl (lv_room (Nat.le_of_ble_eq_true rfl)) d_Ed_putStamp_84 ⟨by decide, by decide⟩) hS (fun q _ h => hFc q h) hFc (fun u t H locs ht hvm hw hB hz1 hk1 hS => ?_)
        obtain ⟨hP, -, hD⟩ := hB
        rw [ht] at hP
        have hD := lx_dj hD hFc
        refine lv_aload_n hx hb d_Ed_putStamp_87 rfl (lv_at hl 0 rfl) ?_
        refine va_get (D := (dC, dI)) (ci := 8) (v := .ref M.o_Dk) (C := R_Ed) (T := F_Ed) (N := 13) hx hb hts (fun w h => u_Vq_Ed w (i_Ed w h)) hown hK hP 6 rfl rfl 0 (by decide) (hts _ (u_Vq_Ed _ k_Ed_7)) (fun _ h9 => h9) rfl d_Ed_putStamp_88 ?_
        refine lv_iload_n hx hb d_Ed_putStamp_91 rfl (lv_at hl 1 rfl) ?_
        refine lv_bipush (v := 22) hx hb d_Ed_putStamp_92 (by decide) ?_
        refine lv_iadd hx hb d_Ed_putStamp_94 ?_
        refine lv_iload hx hb d_Ed_putStamp_95 (lv_at hl 4 rfl) ?_
        obtain ⟨S_8, hc_8, h⟩ := lf_bE h
        have hFc := lx_free hD hS hA
        refine va_callv (va_runV (As := [.int (p0 + 22), .int p3]) (rest := []) ⟨hx, hb, hml, hown, hts⟩ (l_Dk_putTwo l dC dI X _ hc_8) (cwV 2 hts (gwV good_Vq (u_Vq_Ed _ k_Ed_26) (u_Vq_Dk _ k_Dk_27) (u_Vq_Dk _ k_Dk_28) (u_Vq_Dk _ k_Dk_0) (wcs (u_Vq_Dk _ k_Dk_29) (fun _ h => h))) rfl rfl rfl (by decide +kernel) ⟨Nat.le_of_ble_eq_true rfl, Nat.le_of_ble_eq_true rfl⟩) (pv_ofE (X.same _) (fun U z1 z2 => X.mono _ _ U hFc (hEw _ _ hS U z1 z2)) hP hK hD (va_recv hK hP (ci := 0) (q0 := 1) rfl rfl)) rfl rfl hl.1 rfl (lv_room (Nat.le_of_ble_eq_true rfl)) d_Ed_putStamp_97 ⟨by decide, by decide⟩) hS (fun q _ h => hFc q h) hFc (fun u t H locs ht hvm hw hB hz1 hk1 hS => ?_)
        obtain ⟨hP, -, hD⟩ := hB
        rw [ht] at hP
        have hD := lx_dj hD hFc
        refine lv_goto (tgt := 147) hx hb d_Ed_putStamp_100 (by decide) ?_
        rw [hQ]
        have e2 : S_8 = S' := Option.some.inj h
        have hP := ly_newP e2.symm hP
        have hD := ly_newD e2.symm hD
        exact W.vret hx hb hr (fun t ht hW => ⟨⟨(), rfl, trivial, by rw [ht]; exact hP, va_K.moved hW.alike hK, hD⟩, hS.F ht⟩) hS.2.2 d_Ed_putStamp_147
      · have h := lf_f h c_6
        by_cases c_9 : p1 = 3
        · have h := lf_t h c_9
          refine lv_tableIn (tgt := 103) hx hb d_Ed_putStamp_1 (by rw [c_9]; decide) (by rw [c_9]; decide) (by rw [c_9]; (try rfl)) (by decide) ?_
          refine lv_aload_n hx hb d_Ed_putStamp_103 rfl (lv_at hl 0 rfl) ?_
          refine va_get (D := (dC, dI)) (ci := 8) (v := .ref M.o_Dk) (C := R_Ed) (T := F_Ed) (N := 13) hx hb hts (fun w h => u_Vq_Ed w (i_Ed w h)) hown hK hP 6 rfl rfl 0 (by decide) (hts _ (u_Vq_Ed _ k_Ed_7)) (fun _ h9 => h9) rfl d_Ed_putStamp_104 ?_
          refine lv_iload_n hx hb d_Ed_putStamp_107 rfl (lv_at hl 1 rfl) ?_
          refine lv_bipush (v := 13) hx hb d_Ed_putStamp_108 (by decide) ?_
          refine lv_iadd hx hb d_Ed_putStamp_110 ?_
          refine lv_iload hx hb d_Ed_putStamp_111 (lv_at hl 4 rfl) ?_
          obtain ⟨S_10, hc_10, h⟩ := lf_bE h
          have hFc := lx_free hD hS hA
          refine va_callv (va_runV (As := [.int (p0 + 13), .int p3]) (rest := []) ⟨hx, hb, hml, hown, hts⟩ (l_Dk_putOne l dC dI X _ hc_10) (cwV 2 hts (gwV good_Vq (u_Vq_Ed _ k_Ed_25) (u_Vq_Dk _ k_Dk_11) (u_Vq_Dk _ k_Dk_12) (u_Vq_Dk _ k_Dk_0) (wcs (u_Vq_Dk _ k_Dk_13) (fun _ h => h))) rfl rfl rfl (by decide +kernel) ⟨Nat.le_of_ble_eq_true rfl, Nat.le_of_ble_eq_true rfl⟩) (pv_ofE (X.same _) (fun U z1 z2 => X.mono _ _ U hFc (hEw _ _ hS U z1 z2)) hP hK hD (va_recv hK hP (ci := 0) (q0 := 1) rfl rfl)) rfl rfl hl.1 rfl (lv_room (Nat.le_of_ble_eq_true rfl)) d_Ed_putStamp_113 ⟨by decide, by decide⟩) hS (fun q _ h => hFc q h) hFc (fun u t H locs ht hvm hw hB hz1 hk1 hS => ?_)
          obtain ⟨hP, -, hD⟩ := hB
          rw [ht] at hP
          have hD := lx_dj hD hFc
          refine lv_goto (tgt := 147) hx hb d_Ed_putStamp_116 (by decide) ?_
          rw [hQ]
          have e2 : S_10 = S' := Option.some.inj h
          have hP := ly_newP e2.symm hP
          have hD := ly_newD e2.symm hD
          exact W.vret hx hb hr (fun t ht hW => ⟨⟨(), rfl, trivial, by rw [ht]; exact hP, va_K.moved hW.alike hK, hD⟩, hS.F ht⟩) hS.2.2 d_Ed_putStamp_147
        · have h := lf_f h c_9
          refine lv_tableOut (tgt := 119) hx hb d_Ed_putStamp_1 (by have n0 := lv_neT (a := 0) c_1 (by decide); have n1 := lv_neT (a := 1) c_4 (by decide); have n2 := lv_neT (a := 2) c_6 (by decide); have n3 := lv_neT (a := 3) c_9 (by decide); omega) (by decide) ?_
          refine lv_aload_n hx hb d_Ed_putStamp_119 rfl (lv_at hl 0 rfl) ?_
          refine va_get (D := (dC, dI)) (ci := 8) (v := .ref M.o_Dk) (C := R_Ed) (T := F_Ed) (N := 13) hx hb hts (fun w h => u_Vq_Ed w (i_Ed w h)) hown hK hP 6 rfl rfl 0 (by decide) (hts _ (u_Vq_Ed _ k_Ed_7)) (fun _ h9 => h9) rfl d_Ed_putStamp_120 ?_
          refine lv_iload_n hx hb d_Ed_putStamp_123 rfl (lv_at hl 1 rfl) ?_
          refine lv_bipush (v := 11) hx hb d_Ed_putStamp_124 (by decide) ?_
          refine lv_iadd hx hb d_Ed_putStamp_126 ?_
          refine lv_aload_n hx hb d_Ed_putStamp_127 rfl (lv_at hl 0 rfl) ?_
          refine va_get (D := (dC, dI)) (ci := 8) (v := .ref M.o_Dk) (C := R_Ed) (T := F_Ed) (N := 13) hx hb hts (fun w h => u_Vq_Ed w (i_Ed w h)) hown hK hP 6 rfl rfl 0 (by decide) (hts _ (u_Vq_Ed _ k_Ed_7)) (fun _ h9 => h9) rfl d_Ed_putStamp_128 ?_
          refine lv_iload_n hx hb d_Ed_putStamp_131 rfl (lv_at hl 1 rfl) ?_
          refine lv_bipush (v := 11) hx hb d_Ed_putStamp_132 (by decide) ?_
          refine lv_iadd hx hb d_Ed_putStamp_134 ?_
          obtain ⟨r_11, S_11, hc_11, h⟩ := lf_cE h
          have hFc := lx_free hD hS hA
          refine va_calli (va_runV (As := [.int (p0 + 11)]) (rest := [.int (p0 + 11), .ref M.o_Dk]) ⟨hx, hb, hml, hown, hts⟩ (l_Dk_one l dC dI X _ hc_11) (cwV 1 hts (gwV good_Vq (u_Vq_Ed _ k_Ed_59) (u_Vq_Dk _ k_Dk_20) (u_Vq_Dk _ k_Dk_21) (u_Vq_Dk _ k_Dk_0) (wcs (u_Vq_Dk _ k_Dk_22) (fun _ h => h))) rfl rfl rfl (by decide +kernel) ⟨Nat.le_of_ble_eq_true rfl, Nat.le_of_ble_eq_true rfl⟩) (pv_ofE (X.same _) (fun U z1 z2 => X.mono _ _ U hFc (hEw _ _ hS U z1 z2)) hP hK hD (va_recv hK hP (ci := 0) (q0 := 1) rfl rfl)) rfl rfl hl.1 rfl (lv_room (Nat.le_of_ble_eq_true rfl)) d_Ed_putStamp_135 ⟨by decide, by decide⟩) hS (fun q _ h => hFc q h) hFc (fun r_ u t H locs ht hvm hw hB hz1 hk1 hS => ?_)
          rw [hw]
          obtain ⟨hP, -, hD⟩ := hB
          rw [ht] at hP
          have hD := lx_dj hD hFc
          refine lv_bipush (v := (-2)) hx hb d_Ed_putStamp_138 (by decide) ?_
          refine lv_iand hx hb d_Ed_putStamp_140 ?_
          refine lv_iload hx hb d_Ed_putStamp_141 (lv_at hl 4 rfl) ?_
          refine lv_ior hx hb d_Ed_putStamp_143 ?_
          obtain ⟨S_12, hc_12, h⟩ := lf_bE h
          have hFc := lx_free hD hS hA
          refine va_callv (va_runV (As := [.int (p0 + 11), .int ((r_11 &&& ((-2))) ||| p3)]) (rest := []) ⟨hx, hb, hml, hown, hts⟩ (l_Dk_putOne l dC dI X _ hc_12) (cwV 2 hts (gwV good_Vq (u_Vq_Ed _ k_Ed_25) (u_Vq_Dk _ k_Dk_11) (u_Vq_Dk _ k_Dk_12) (u_Vq_Dk _ k_Dk_0) (wcs (u_Vq_Dk _ k_Dk_13) (fun _ h => h))) rfl rfl rfl (by decide +kernel) ⟨Nat.le_of_ble_eq_true rfl, Nat.le_of_ble_eq_true rfl⟩) (pv_ofE (X.same _) (fun U z1 z2 => X.mono _ _ U hFc (hEw _ _ hS U z1 z2)) hP hK hD (va_recv hK hP (ci := 0) (q0 := 1) rfl rfl)) rfl rfl hl.1 rfl (lv_room (Nat.le_of_ble_eq_true rfl)) d_Ed_putStamp_144 ⟨by decide, by decide⟩) hS (fun q _ h => hFc q h) hFc (fun u t H locs ht hvm hw hB hz1 hk1 hS => ?_)
          obtain ⟨hP, -, hD⟩ := hB
          rw [ht] at hP
          have hD := lx_dj hD hFc
          rw [hQ]
          have e2 : S_12 = S' := Option.some.inj h
          have hP := ly_newP e2.symm hP
          have hD := ly_newD e2.symm hD
          exact W.vret hx hb hr (fun t ht hW => ⟨⟨(), rfl, trivial, by rw [ht]; exact hP, va_K.moved hW.alike hK, hD⟩, hS.F ht⟩) hS.2.2 d_Ed_putStamp_147
set_option maxHeartbeats 4000000 in
set_option maxRecDepth 100000 in
theorem l_Pl_divide (l : Launch) (dC : Nat → ClassId) (dI : Nat → Nat → Nat) {K : Nat} {M : CA} {E : (Nat → Prop) → State → Prop} (X : ly_X l dC dI K M E) (sz : Nat) {Y : CT} {G : CG} {S S' : CS} {p0 : Int32} {r : Int32} (h : f_Pl_divide K G S p0 = some (r, S')) : Met l y_Pl_divide (.code y_Pl_divide cb_Pl_divide 2 (some .boolean) :: V_Vq) ({ frames := 0, cells := 0, slots := 0, locals := 0 }) (va_Pc [.ref M.o_Pl, .int p0] (fun U => U.heap.size = sz ∧ at_ (dC, dI) (fun _ => True) (wV M Y G S) (tV M) U ∧ E (va_A (wV M Y G S) sz) U)) (va_Qi (fun (r_ : Int32) (u : Unit) => r_ = r) (fun (u : Unit) t => at_ (dC, dI) (va_A (wV M Y G S) sz) (wV M Y G S') (tV M) t) (va_A (wV M Y G S) sz)) 0 0 (va_A (wV M Y G S) sz) := by
  refine Met.ofW (cc := cb_Pl_divide) (maxL := 2) (ret := (some .boolean)) (by decide) rfl ?_
  intro p e s m args below meth c s₁ B hml hv
  obtain ⟨rfl, hsz, ⟨hP, hK, hD0⟩, hE⟩ := hv
  have hx := B.exec
  have hb := B.bytes
  have hr := B.returns
  have hts0 := atoms_spec (ws := .code y_Pl_divide cb_Pl_divide 2 (some .boolean) :: V_Vq) B.pre
  have hts : ∀ w ∈ V_Vq, w.before ([.ref M.o_Pl, .int p0] : List Value).toArray s = true := fun w h => hts0 w (List.mem_cons_of_mem _ h)
  have hown : s.vm.findClass R_Pl = some m.cls := findClass_of_methodNamed B.named
  subst hsz
  have hD := hD0.self (sz := s.heap.size)
  generalize hAe : va_A (wV M Y G S) s.heap.size = A at hD hE ⊢
  have hA : ∀ q : Nat, s.heap.size ≤ q → A q := fun q h => by rw [← hAe]; exact Or.inr h
  have hS : va_S A s.heap s.heap [] := va_S.rf
  have hP : va_P (dC, dI) classes (wV M Y G S) s.heap := hP
  have hK : va_K (dC, dI) classes (tV M) s := hK
  have hEw : ∀ (H : Heap) (locs : List Loc), va_S A s.heap H locs → ∀ U : State, U.heap = H → s.WarmedH U.vm → E A U := fun H locs hS U hU hW => X.kept A s U H locs hE hS hU hW
  have hl := lv_entry ([.ref M.o_Pl, .int p0]) (n := 2) (Nat.le_of_ble_eq_true rfl)
  rw [lg_entry_eq]
  generalize (lg_sl ([.ref M.o_Pl, .int p0]) ++ List.replicate (2 - (lg_sl ([.ref M.o_Pl, .int p0])).length) Slot.unset).toArray = ls at hl ⊢
  have hl : lv_has ls 2 [(0, .ref M.o_Pl), (1, .int p0)] := hl
  refine qabs (fun Q hQ => ?_)
  have hB_22 : ∀ (y_1 : Int32) (S : CS) (H : Heap) (locs : List Loc) (ls : Array Slot), f_Pl_divide_22 K G y_1 S = some (r, S') → va_P (dC, dI) classes (wV M Y G S) H → va_D A (wV M Y G S) → va_S A s.heap H locs → lv_has ls 2 [(0, .ref M.o_Pl), (1, .int y_1)] → W p l e ({ frames := 0, cells := 0, slots := 0, locals := 0 }) s m ([.ref M.o_Pl, .int p0] : List Value).toArray below meth c H locs 0 0 Q (F0 m 22 ls []) := by
    intro y_1 S H locs ls h hP hD hS hl
    rw [f_Pl_divide_22] at h
    refine lv_aload_n hx hb d_Pl_divide_22 rfl (lv_at hl 0 rfl) ?_
    refine lv_iload_n hx hb d_Pl_divide_23 rfl (lv_at hl 1 rfl) ?_
    refine va_put (D := (dC, dI)) (ci := 9) (v := .int y_1) (ty := .int) (C := R_Pl) (T := F_Pl) (N := 17) hx hb hts (fun w h => u_Vq_Pl w (i_Pl w h)) t_Pl t_Pl_ok n_Pl hown hK hP hD hS 7 rfl rfl 11 (by decide) (hts _ (u_Vq_Pl _ k_Pl_22)) (fun _ h9 => h9) rfl (by decide +kernel) rfl rfl (Nat.le_of_ble_eq_true rfl) d_Pl_divide_24 (fun H locs hP hD hS => ?_)
    obtain ⟨S_4, eS_4, h⟩ := lf_lX h
    have hP := ly_newP eS_4 hP
    have hD := ly_newD eS_4 hD
    refine lv_aload_n hx hb d_Pl_divide_27 rfl (lv_at hl 0 rfl) ?_
    refine lv_aload_n hx hb d_Pl_divide_28 rfl (lv_at hl 0 rfl) ?_
    refine va_get (D := (dC, dI)) (ci := 9) (v := .int S_4.v_Pl_blocks) (C := R_Pl) (T := F_Pl) (N := 17) hx hb hts (fun w h => u_Vq_Pl w (i_Pl w h)) hown hK hP 7 rfl rfl 3 (by decide) (hts _ (u_Vq_Pl _ k_Pl_14)) (fun _ h9 => h9) rfl d_Pl_divide_29 ?_
    refine lv_iconst (v := 1) hx hb d_Pl_divide_32 (by decide) ?_
    refine lv_isub hx hb d_Pl_divide_33 ?_
    refine lv_aload_n hx hb d_Pl_divide_34 rfl (lv_at hl 0 rfl) ?_
    refine va_get (D := (dC, dI)) (ci := 9) (v := .int S_4.v_Pl_size) (C := R_Pl) (T := F_Pl) (N := 17) hx hb hts (fun w h => u_Vq_Pl w (i_Pl w h)) hown hK hP 7 rfl rfl 11 (by decide) (hts _ (u_Vq_Pl _ k_Pl_22)) (fun _ h9 => h9) rfl d_Pl_divide_35 ?_
    refine lv_iadd hx hb d_Pl_divide_38 ?_
    refine lv_iconst (v := 1) hx hb d_Pl_divide_39 (by decide) ?_
    refine lv_isub hx hb d_Pl_divide_40 ?_
    refine lv_iload_n hx hb d_Pl_divide_41 rfl (lv_at hl 1 rfl) ?_
    obtain ⟨g_5, h⟩ := lf_gE h
    refine lv_idiv hx hb d_Pl_divide_42 g_5 ?_
    refine va_put (D := (dC, dI)) (ci := 9) (v := .int ((((S_4.v_Pl_blocks - 1) + S_4.v_Pl_size) - 1) / y_1)) (ty := .int) (C := R_Pl) (T := F_Pl) (N := 17) hx hb hts (fun w h => u_Vq_Pl w (i_Pl w h)) t_Pl t_Pl_ok n_Pl hown hK hP hD hS 7 rfl rfl 12 (by decide) (hts _ (u_Vq_Pl _ k_Pl_23)) (fun _ h9 => h9) rfl (by decide +kernel) rfl rfl (Nat.le_of_ble_eq_true rfl) d_Pl_divide_43 (fun H locs hP hD hS => ?_)
    obtain ⟨S_6, eS_6, h⟩ := lf_lX h
    have hP := ly_newP eS_6 hP
    have hD := ly_newD eS_6 hD
    refine lv_iconst (v := 1) hx hb d_Pl_divide_46 (by decide) ?_
    rw [hQ]
    have e1 : (1 : Int32) = r := congrArg Prod.fst (Option.some.inj h)
    have e2 : S_6 = S' := congrArg Prod.snd (Option.some.inj h)
    have hP := ly_newP e2.symm hP
    have hD := ly_newD e2.symm hD
    exact W.zret (v := 1) hx hb hr rfl (fun t ht hW => ⟨⟨1, (), rfl, e1, by rw [ht]; exact hP, va_K.moved hW.alike hK, hD⟩, hS.F ht⟩) hS.2.2 d_Pl_divide_47
  rw [f_Pl_divide] at h
  refine lv_iload_n hx hb d_Pl_divide_0 rfl (lv_at hl 1 rfl) ?_
  refine lv_bipush (v := 64) hx hb d_Pl_divide_1 (by decide) ?_
  refine lv_icmp_eq (tgt := 22) hx hb d_Pl_divide_3 (by decide) (fun c_1 => ?_) (fun c_1 => ?_)
  · have h := lf_t h c_1
    exact hB_22 p0 S _ _ _ h hP hD hS (lv_sub hl [0, 1] rfl)
  · have h := lf_f h c_1
    refine lv_iload_n hx hb d_Pl_divide_6 rfl (lv_at hl 1 rfl) ?_
    refine lv_sipush (v := 128) hx hb d_Pl_divide_7 (by decide) ?_
    refine lv_icmp_eq (tgt := 22) hx hb d_Pl_divide_10 (by decide) (fun c_2 => ?_) (fun c_2 => ?_)
    · have h := lf_t h c_2
      exact hB_22 p0 S _ _ _ h hP hD hS (lv_sub hl [0, 1] rfl)
    · have h := lf_f h c_2
      refine lv_iload_n hx hb d_Pl_divide_13 rfl (lv_at hl 1 rfl) ?_
      refine lv_sipush (v := 256) hx hb d_Pl_divide_14 (by decide) ?_
      refine lv_icmp_eq (tgt := 22) hx hb d_Pl_divide_17 (by decide) (fun c_3 => ?_) (fun c_3 => ?_)
      · have h := lf_t h c_3
        exact hB_22 p0 S _ _ _ h hP hD hS (lv_sub hl [0, 1] rfl)
      · have h := lf_f h c_3
        refine lv_iconst (v := 0) hx hb d_Pl_divide_20 (by decide) ?_
        rw [hQ]
        have e1 : (0 : Int32) = r := congrArg Prod.fst (Option.some.inj h)
        have e2 : S = S' := congrArg Prod.snd (Option.some.inj h)
        have hP := ly_newP e2.symm hP
        have hD := ly_newD e2.symm hD
        exact W.zret (v := 0) hx hb hr rfl (fun t ht hW => ⟨⟨0, (), rfl, e1, by rw [ht]; exact hP, va_K.moved hW.alike hK, hD⟩, hS.F ht⟩) hS.2.2 d_Pl_divide_21
set_option maxHeartbeats 4000000 in
set_option maxRecDepth 100000 in
theorem l_Pl_leastInodes (l : Launch) (dC : Nat → ClassId) (dI : Nat → Nat → Nat) {K : Nat} {M : CA} {E : (Nat → Prop) → State → Prop} (X : ly_X l dC dI K M E) (sz : Nat) {Y : CT} {G : CG} {S S' : CS} {r : Int32} (h : f_Pl_leastInodes K G S = some (r, S')) : Met l y_Pl_leastInodes (.code y_Pl_leastInodes cb_Pl_leastInodes 3 (some .int) :: V_Vq) ({ frames := 0, cells := 0, slots := 0, locals := 0 }) (va_Pc [.ref M.o_Pl] (fun U => U.heap.size = sz ∧ at_ (dC, dI) (fun _ => True) (wV M Y G S) (tV M) U ∧ E (va_A (wV M Y G S) sz) U)) (va_Qi (fun (r_ : Int32) (u : Unit) => r_ = r) (fun (u : Unit) t => at_ (dC, dI) (va_A (wV M Y G S) sz) (wV M Y G S') (tV M) t) (va_A (wV M Y G S) sz)) 0 0 (va_A (wV M Y G S) sz) := by
  refine Met.ofW (cc := cb_Pl_leastInodes) (maxL := 3) (ret := (some .int)) (by decide) rfl ?_
  intro p e s m args below meth c s₁ B hml hv
  obtain ⟨rfl, hsz, ⟨hP, hK, hD0⟩, hE⟩ := hv
  have hx := B.exec
  have hb := B.bytes
  have hr := B.returns
  have hts0 := atoms_spec (ws := .code y_Pl_leastInodes cb_Pl_leastInodes 3 (some .int) :: V_Vq) B.pre
  have hts : ∀ w ∈ V_Vq, w.before ([.ref M.o_Pl] : List Value).toArray s = true := fun w h => hts0 w (List.mem_cons_of_mem _ h)
  have hown : s.vm.findClass R_Pl = some m.cls := findClass_of_methodNamed B.named
  subst hsz
  have hD := hD0.self (sz := s.heap.size)
  generalize hAe : va_A (wV M Y G S) s.heap.size = A at hD hE ⊢
  have hA : ∀ q : Nat, s.heap.size ≤ q → A q := fun q h => by rw [← hAe]; exact Or.inr h
  have hS : va_S A s.heap s.heap [] := va_S.rf
  have hP : va_P (dC, dI) classes (wV M Y G S) s.heap := hP
  have hK : va_K (dC, dI) classes (tV M) s := hK
  have hEw : ∀ (H : Heap) (locs : List Loc), va_S A s.heap H locs → ∀ U : State, U.heap = H → s.WarmedH U.vm → E A U := fun H locs hS U hU hW => X.kept A s U H locs hE hS hU hW
  have hl := lv_entry ([.ref M.o_Pl]) (n := 3) (Nat.le_of_ble_eq_true rfl)
  rw [lg_entry_eq]
  generalize (lg_sl ([.ref M.o_Pl]) ++ List.replicate (3 - (lg_sl ([.ref M.o_Pl])).length) Slot.unset).toArray = ls at hl ⊢
  have hl : lv_has ls 3 [(0, .ref M.o_Pl)] := hl
  refine qabs (fun Q hQ => ?_)
  have hB_38 : ∀ (z_0 : Int32) (S : CS) (H : Heap) (locs : List Loc) (ls : Array Slot), f_Pl_leastInodes_38 K G z_0 S = some (r, S') → va_P (dC, dI) classes (wV M Y G S) H → va_D A (wV M Y G S) → va_S A s.heap H locs → lv_has ls 3 [] → W p l e ({ frames := 0, cells := 0, slots := 0, locals := 0 }) s m ([.ref M.o_Pl] : List Value).toArray below meth c H locs 0 0 Q (F0 m 38 ls [.int z_0]) := by
    intro z_0 S H locs ls h hP hD hS hl
    rw [f_Pl_leastInodes_38] at h
    refine lv_istore_n (lv' := [(2, .int z_0)]) hx hb d_Pl_leastInodes_38 rfl hl (by decide) rfl (fun ls hl => ?_)
    refine lv_iload_n hx hb d_Pl_leastInodes_39 rfl (lv_at hl 0 rfl) ?_
    refine lv_bipush (v := 7) hx hb d_Pl_leastInodes_40 (by decide) ?_
    refine lv_iadd hx hb d_Pl_leastInodes_42 ?_
    refine lv_bipush (v := 8) hx hb d_Pl_leastInodes_43 (by decide) ?_
    refine lv_idiv hx hb d_Pl_leastInodes_45 (by decide) ?_
    refine lv_bipush (v := 8) hx hb d_Pl_leastInodes_46 (by decide) ?_
    refine lv_imul hx hb d_Pl_leastInodes_48 ?_
    rw [hQ]
    have e1 : (((z_0 + 7) / 8) * 8) = r := congrArg Prod.fst (Option.some.inj h)
    have e2 : S = S' := congrArg Prod.snd (Option.some.inj h)
    have hP := ly_newP e2.symm hP
    have hD := ly_newD e2.symm hD
    exact W.iret (v := (((z_0 + 7) / 8) * 8)) hx hb hr (fun t ht hW => ⟨⟨(((z_0 + 7) / 8) * 8), (), rfl, e1, by rw [ht]; exact hP, va_K.moved hW.alike hK, hD⟩, hS.F ht⟩) hS.2.2 d_Pl_leastInodes_49
  rw [f_Pl_leastInodes] at h
  refine lv_bipush (v := 11) hx hb d_Pl_leastInodes_0 (by decide) ?_
  refine lv_aload_n hx hb d_Pl_leastInodes_2 rfl (lv_at hl 0 rfl) ?_
  refine va_get (D := (dC, dI)) (ci := 9) (v := .ref M.o_Tr) (C := R_Pl) (T := F_Pl) (N := 17) hx hb hts (fun w h => u_Vq_Pl w (i_Pl w h)) hown hK hP 7 rfl rfl 2 (by decide) (hts _ (u_Vq_Pl _ k_Pl_13)) (fun _ h9 => h9) rfl d_Pl_leastInodes_3 ?_
  refine va_get (D := (dC, dI)) (ci := 5) (v := .int S.v_Tr_count) (C := R_Tr) (T := F_Tr) (N := 18) hx hb hts (fun w h => u_Vq_Tr w (i_Tr w h)) hown hK hP 4 rfl rfl 0 (by decide) (hts _ (u_Vq_Pl _ k_Pl_5)) (fun _ h9 => h9) rfl d_Pl_leastInodes_6 ?_
  refine lv_iadd hx hb d_Pl_leastInodes_9 ?_
  refine lv_iconst (v := 1) hx hb d_Pl_leastInodes_10 (by decide) ?_
  refine lv_isub hx hb d_Pl_leastInodes_11 ?_
  refine lv_topi (fun x_1 ex_1 => ?_)
  have h := lf_lE h ex_1
  refine lv_istore_n (lv' := [(1, .int x_1), (0, .ref M.o_Pl)]) hx hb d_Pl_leastInodes_12 rfl hl (by decide) rfl (fun ls hl => ?_)
  refine lv_aload_n hx hb d_Pl_leastInodes_13 rfl (lv_at hl 1 rfl) ?_
  refine va_get (D := (dC, dI)) (ci := 9) (v := .int S.v_Pl_groups) (C := R_Pl) (T := F_Pl) (N := 17) hx hb hts (fun w h => u_Vq_Pl w (i_Pl w h)) hown hK hP 7 rfl rfl 12 (by decide) (hts _ (u_Vq_Pl _ k_Pl_23)) (fun _ h9 => h9) rfl d_Pl_leastInodes_14 ?_
  refine lv_iconst (v := 1) hx hb d_Pl_leastInodes_17 (by decide) ?_
  refine lv_icmp_ge (tgt := 25) hx hb d_Pl_leastInodes_18 (by decide) (fun c_2 => ?_) (fun c_2 => ?_)
  · have h := lf_t h c_2
    refine lv_iload_n hx hb d_Pl_leastInodes_25 rfl (lv_at hl 0 rfl) ?_
    refine lv_aload_n hx hb d_Pl_leastInodes_26 rfl (lv_at hl 1 rfl) ?_
    refine va_get (D := (dC, dI)) (ci := 9) (v := .int S.v_Pl_groups) (C := R_Pl) (T := F_Pl) (N := 17) hx hb hts (fun w h => u_Vq_Pl w (i_Pl w h)) hown hK hP 7 rfl rfl 12 (by decide) (hts _ (u_Vq_Pl _ k_Pl_23)) (fun _ h9 => h9) rfl d_Pl_leastInodes_27 ?_
    refine lv_iadd hx hb d_Pl_leastInodes_30 ?_
    refine lv_iconst (v := 1) hx hb d_Pl_leastInodes_31 (by decide) ?_
    refine lv_isub hx hb d_Pl_leastInodes_32 ?_
    refine lv_aload_n hx hb d_Pl_leastInodes_33 rfl (lv_at hl 1 rfl) ?_
    refine va_get (D := (dC, dI)) (ci := 9) (v := .int S.v_Pl_groups) (C := R_Pl) (T := F_Pl) (N := 17) hx hb hts (fun w h => u_Vq_Pl w (i_Pl w h)) hown hK hP 7 rfl rfl 12 (by decide) (hts _ (u_Vq_Pl _ k_Pl_23)) (fun _ h9 => h9) rfl d_Pl_leastInodes_34 ?_
    obtain ⟨g_3, h⟩ := lf_gE h
    refine lv_idiv hx hb d_Pl_leastInodes_37 g_3 ?_
    exact hB_38 (((x_1 + S.v_Pl_groups) - 1) / S.v_Pl_groups) S _ _ _ h hP hD hS (lv_sub hl [] rfl)
  · have h := lf_f h c_2
    refine lv_iload_n hx hb d_Pl_leastInodes_21 rfl (lv_at hl 0 rfl) ?_
    refine lv_goto (tgt := 38) hx hb d_Pl_leastInodes_22 (by decide) ?_
    exact hB_38 x_1 S _ _ _ h hP hD hS (lv_sub hl [] rfl)
set_option maxHeartbeats 4000000 in
set_option maxRecDepth 100000 in
theorem l_Pl_firstBlock (l : Launch) (dC : Nat → ClassId) (dI : Nat → Nat → Nat) {K : Nat} {M : CA} {E : (Nat → Prop) → State → Prop} (X : ly_X l dC dI K M E) (sz : Nat) {Y : CT} {G : CG} {S S' : CS} {p0 : Int32} {r : Int32} (h : f_Pl_firstBlock K G S p0 = some (r, S')) : Met l y_Pl_firstBlock (.code y_Pl_firstBlock cb_Pl_firstBlock 2 (some .int) :: V_Vq) ({ frames := 0, cells := 0, slots := 0, locals := 0 }) (va_Pc [.ref M.o_Pl, .int p0] (fun U => U.heap.size = sz ∧ at_ (dC, dI) (fun _ => True) (wV M Y G S) (tV M) U ∧ E (va_A (wV M Y G S) sz) U)) (va_Qi (fun (r_ : Int32) (u : Unit) => r_ = r) (fun (u : Unit) t => at_ (dC, dI) (va_A (wV M Y G S) sz) (wV M Y G S') (tV M) t) (va_A (wV M Y G S) sz)) 0 0 (va_A (wV M Y G S) sz) := by
  refine Met.ofW (cc := cb_Pl_firstBlock) (maxL := 2) (ret := (some .int)) (by decide) rfl ?_
  intro p e s m args below meth c s₁ B hml hv
  obtain ⟨rfl, hsz, ⟨hP, hK, hD0⟩, hE⟩ := hv
  have hx := B.exec
  have hb := B.bytes
  have hr := B.returns
  have hts0 := atoms_spec (ws := .code y_Pl_firstBlock cb_Pl_firstBlock 2 (some .int) :: V_Vq) B.pre
  have hts : ∀ w ∈ V_Vq, w.before ([.ref M.o_Pl, .int p0] : List Value).toArray s = true := fun w h => hts0 w (List.mem_cons_of_mem _ h)
  have hown : s.vm.findClass R_Pl = some m.cls := findClass_of_methodNamed B.named
  subst hsz
  have hD := hD0.self (sz := s.heap.size)
  generalize hAe : va_A (wV M Y G S) s.heap.size = A at hD hE ⊢
  have hA : ∀ q : Nat, s.heap.size ≤ q → A q := fun q h => by rw [← hAe]; exact Or.inr h
  have hS : va_S A s.heap s.heap [] := va_S.rf
  have hP : va_P (dC, dI) classes (wV M Y G S) s.heap := hP
  have hK : va_K (dC, dI) classes (tV M) s := hK
  have hEw : ∀ (H : Heap) (locs : List Loc), va_S A s.heap H locs → ∀ U : State, U.heap = H → s.WarmedH U.vm → E A U := fun H locs hS U hU hW => X.kept A s U H locs hE hS hU hW
  have hl := lv_entry ([.ref M.o_Pl, .int p0]) (n := 2) (Nat.le_of_ble_eq_true rfl)
  rw [lg_entry_eq]
  generalize (lg_sl ([.ref M.o_Pl, .int p0]) ++ List.replicate (2 - (lg_sl ([.ref M.o_Pl, .int p0])).length) Slot.unset).toArray = ls at hl ⊢
  have hl : lv_has ls 2 [(0, .ref M.o_Pl), (1, .int p0)] := hl
  refine qabs (fun Q hQ => ?_)
  rw [f_Pl_firstBlock] at h
  refine lv_iconst (v := 1) hx hb d_Pl_firstBlock_0 (by decide) ?_
  refine lv_iload_n hx hb d_Pl_firstBlock_1 rfl (lv_at hl 1 rfl) ?_
  refine lv_aload_n hx hb d_Pl_firstBlock_2 rfl (lv_at hl 0 rfl) ?_
  refine va_get (D := (dC, dI)) (ci := 9) (v := .int S.v_Pl_size) (C := R_Pl) (T := F_Pl) (N := 17) hx hb hts (fun w h => u_Vq_Pl w (i_Pl w h)) hown hK hP 7 rfl rfl 11 (by decide) (hts _ (u_Vq_Pl _ k_Pl_22)) (fun _ h9 => h9) rfl d_Pl_firstBlock_3 ?_
  refine lv_imul hx hb d_Pl_firstBlock_6 ?_
  refine lv_iadd hx hb d_Pl_firstBlock_7 ?_
  rw [hQ]
  have e1 : (1 + (p0 * S.v_Pl_size)) = r := congrArg Prod.fst (Option.some.inj h)
  have e2 : S = S' := congrArg Prod.snd (Option.some.inj h)
  have hP := ly_newP e2.symm hP
  have hD := ly_newD e2.symm hD
  exact W.iret (v := (1 + (p0 * S.v_Pl_size))) hx hb hr (fun t ht hW => ⟨⟨(1 + (p0 * S.v_Pl_size)), (), rfl, e1, by rw [ht]; exact hP, va_K.moved hW.alike hK, hD⟩, hS.F ht⟩) hS.2.2 d_Pl_firstBlock_8
set_option maxHeartbeats 4000000 in
set_option maxRecDepth 100000 in
theorem l_Pl_blocksOf (l : Launch) (dC : Nat → ClassId) (dI : Nat → Nat → Nat) {K : Nat} {M : CA} {E : (Nat → Prop) → State → Prop} (X : ly_X l dC dI K M E) (sz : Nat) {Y : CT} {G : CG} {S S' : CS} {p0 : Int32} {r : Int32} (h : f_Pl_blocksOf K G S p0 = some (r, S')) : Met l y_Pl_blocksOf (.code y_Pl_blocksOf cb_Pl_blocksOf 2 (some .int) :: V_Vq) ({ frames := 1, cells := 0, slots := 0, locals := 40 }) (va_Pc [.ref M.o_Pl, .int p0] (fun U => U.heap.size = sz ∧ at_ (dC, dI) (fun _ => True) (wV M Y G S) (tV M) U ∧ E (va_A (wV M Y G S) sz) U)) (va_Qi (fun (r_ : Int32) (u : Unit) => r_ = r) (fun (u : Unit) t => at_ (dC, dI) (va_A (wV M Y G S) sz) (wV M Y G S') (tV M) t) (va_A (wV M Y G S) sz)) 0 0 (va_A (wV M Y G S) sz) := by
  refine Met.ofW (cc := cb_Pl_blocksOf) (maxL := 2) (ret := (some .int)) (by decide) rfl ?_
  intro p e s m args below meth c s₁ B hml hv
  obtain ⟨rfl, hsz, ⟨hP, hK, hD0⟩, hE⟩ := hv
  have hx := B.exec
  have hb := B.bytes
  have hr := B.returns
  have hts0 := atoms_spec (ws := .code y_Pl_blocksOf cb_Pl_blocksOf 2 (some .int) :: V_Vq) B.pre
  have hts : ∀ w ∈ V_Vq, w.before ([.ref M.o_Pl, .int p0] : List Value).toArray s = true := fun w h => hts0 w (List.mem_cons_of_mem _ h)
  have hown : s.vm.findClass R_Pl = some m.cls := findClass_of_methodNamed B.named
  subst hsz
  have hD := hD0.self (sz := s.heap.size)
  generalize hAe : va_A (wV M Y G S) s.heap.size = A at hD hE ⊢
  have hA : ∀ q : Nat, s.heap.size ≤ q → A q := fun q h => by rw [← hAe]; exact Or.inr h
  have hS : va_S A s.heap s.heap [] := va_S.rf
  have hP : va_P (dC, dI) classes (wV M Y G S) s.heap := hP
  have hK : va_K (dC, dI) classes (tV M) s := hK
  have hEw : ∀ (H : Heap) (locs : List Loc), va_S A s.heap H locs → ∀ U : State, U.heap = H → s.WarmedH U.vm → E A U := fun H locs hS U hU hW => X.kept A s U H locs hE hS hU hW
  have hl := lv_entry ([.ref M.o_Pl, .int p0]) (n := 2) (Nat.le_of_ble_eq_true rfl)
  rw [lg_entry_eq]
  generalize (lg_sl ([.ref M.o_Pl, .int p0]) ++ List.replicate (2 - (lg_sl ([.ref M.o_Pl, .int p0])).length) Slot.unset).toArray = ls at hl ⊢
  have hl : lv_has ls 2 [(0, .ref M.o_Pl), (1, .int p0)] := hl
  refine qabs (fun Q hQ => ?_)
  rw [f_Pl_blocksOf] at h
  refine lv_aload_n hx hb d_Pl_blocksOf_0 rfl (lv_at hl 0 rfl) ?_
  refine va_get (D := (dC, dI)) (ci := 9) (v := .int S.v_Pl_size) (C := R_Pl) (T := F_Pl) (N := 17) hx hb hts (fun w h => u_Vq_Pl w (i_Pl w h)) hown hK hP 7 rfl rfl 11 (by decide) (hts _ (u_Vq_Pl _ k_Pl_22)) (fun _ h9 => h9) rfl d_Pl_blocksOf_1 ?_
  refine lv_aload_n hx hb d_Pl_blocksOf_4 rfl (lv_at hl 0 rfl) ?_
  refine va_get (D := (dC, dI)) (ci := 9) (v := .int S.v_Pl_blocks) (C := R_Pl) (T := F_Pl) (N := 17) hx hb hts (fun w h => u_Vq_Pl w (i_Pl w h)) hown hK hP 7 rfl rfl 3 (by decide) (hts _ (u_Vq_Pl _ k_Pl_14)) (fun _ h9 => h9) rfl d_Pl_blocksOf_5 ?_
  refine lv_aload_n hx hb d_Pl_blocksOf_8 rfl (lv_at hl 0 rfl) ?_
  refine lv_iload_n hx hb d_Pl_blocksOf_9 rfl (lv_at hl 1 rfl) ?_
  obtain ⟨r_1, S_1, hc_1, h⟩ := lf_cE h
  have hFc := lx_free hD hS hA
  refine va_calli (va_runV (As := [.int p0]) (rest := [.int S.v_Pl_blocks, .int S.v_Pl_size]) ⟨hx, hb, hml, hown, hts⟩ (l_Pl_firstBlock l dC dI X _ hc_1) (cwV 1 hts (gwV good_Vq (u_Vq_Pl _ k_Pl_44) (u_Vq_Pl _ k_Pl_45) (u_Vq_Pl _ k_Pl_46) (u_Vq_Pl _ k_Pl_0) (wcs (u_Vq_Pl _ k_Pl_47) (fun _ h => h))) rfl rfl rfl (by decide +kernel) ⟨Nat.le_of_ble_eq_true rfl, Nat.le_of_ble_eq_true rfl⟩) (pv_ofE (X.same _) (fun U z1 z2 => X.mono _ _ U hFc (hEw _ _ hS U z1 z2)) hP hK hD (va_recv hK hP (ci := 9) (q0 := 7) rfl rfl)) rfl rfl hl.1 rfl (lv_room (Nat.le_of_ble_eq_true rfl)) d_Pl_blocksOf_10 ⟨by decide, by decide⟩) hS (fun q _ h => hFc q h) hFc (fun r_ u t H locs ht hvm hw hB hz1 hk1 hS => ?_)
  rw [hw]
  obtain ⟨hP, -, hD⟩ := hB
  rw [ht] at hP
  have hD := lx_dj hD hFc
  refine lv_isub hx hb d_Pl_blocksOf_13 ?_
  refine va_mmin hx hb (by rw [hml]; exact hl.1.symm) hown (hts _ (u_Vq_Pl _ k_Pl_48)) (hts _ (u_Vq_J _ k_J_7)) (hts _ (u_Vq_J _ k_J_0)) (hts _ (u_Vq_J _ k_J_8)) (Nat.le_of_ble_eq_true rfl) (Nat.le_of_ble_eq_true rfl) (by decide) (by decide) d_Pl_blocksOf_14 ?_
  rw [hQ]
  have e1 : (if (S.v_Pl_blocks - r_1) < S.v_Pl_size then (S.v_Pl_blocks - r_1) else S.v_Pl_size) = r := congrArg Prod.fst (Option.some.inj h)
  have e2 : S_1 = S' := congrArg Prod.snd (Option.some.inj h)
  have hP := ly_newP e2.symm hP
  have hD := ly_newD e2.symm hD
  exact W.iret (v := (if (S.v_Pl_blocks - r_1) < S.v_Pl_size then (S.v_Pl_blocks - r_1) else S.v_Pl_size)) hx hb hr (fun t ht hW => ⟨⟨(if (S.v_Pl_blocks - r_1) < S.v_Pl_size then (S.v_Pl_blocks - r_1) else S.v_Pl_size), (), rfl, e1, by rw [ht]; exact hP, va_K.moved hW.alike hK, hD⟩, hS.F ht⟩) hS.2.2 d_Pl_blocksOf_17
set_option maxHeartbeats 4000000 in
set_option maxRecDepth 100000 in
theorem l_Pl_fix (l : Launch) (dC : Nat → ClassId) (dI : Nat → Nat → Nat) {K : Nat} {M : CA} {E : (Nat → Prop) → State → Prop} (X : ly_X l dC dI K M E) (sz : Nat) {Y : CT} {G : CG} {S S' : CS} {p0 : Int32} {p1 : Int32} {r : Int32} (h : f_Pl_fix K G S p0 p1 = some (r, S')) : Met l y_Pl_fix (.code y_Pl_fix cb_Pl_fix 7 (some .boolean) :: V_Vq) ({ frames := 0, cells := 0, slots := 0, locals := 0 }) (va_Pc [.ref M.o_Pl, .int p0, .int p1] (fun U => U.heap.size = sz ∧ at_ (dC, dI) (fun _ => True) (wV M Y G S) (tV M) U ∧ E (va_A (wV M Y G S) sz) U)) (va_Qi (fun (r_ : Int32) (u : Unit) => r_ = r) (fun (u : Unit) t => at_ (dC, dI) (va_A (wV M Y G S) sz) (wV M Y G S') (tV M) t) (va_A (wV M Y G S) sz)) 0 0 (va_A (wV M Y G S) sz) := by
  refine Met.ofW (cc := cb_Pl_fix) (maxL := 7) (ret := (some .boolean)) (by decide) rfl ?_
  intro p e s m args below meth c s₁ B hml hv
  obtain ⟨rfl, hsz, ⟨hP, hK, hD0⟩, hE⟩ := hv
  have hx := B.exec
  have hb := B.bytes
  have hr := B.returns
  have hts0 := atoms_spec (ws := .code y_Pl_fix cb_Pl_fix 7 (some .boolean) :: V_Vq) B.pre
  have hts : ∀ w ∈ V_Vq, w.before ([.ref M.o_Pl, .int p0, .int p1] : List Value).toArray s = true := fun w h => hts0 w (List.mem_cons_of_mem _ h)
  have hown : s.vm.findClass R_Pl = some m.cls := findClass_of_methodNamed B.named
  subst hsz
  have hD := hD0.self (sz := s.heap.size)
  generalize hAe : va_A (wV M Y G S) s.heap.size = A at hD hE ⊢
  have hA : ∀ q : Nat, s.heap.size ≤ q → A q := fun q h => by rw [← hAe]; exact Or.inr h
  have hS : va_S A s.heap s.heap [] := va_S.rf
  have hP : va_P (dC, dI) classes (wV M Y G S) s.heap := hP
  have hK : va_K (dC, dI) classes (tV M) s := hK
  have hEw : ∀ (H : Heap) (locs : List Loc), va_S A s.heap H locs → ∀ U : State, U.heap = H → s.WarmedH U.vm → E A U := fun H locs hS U hU hW => X.kept A s U H locs hE hS hU hW
  have hl := lv_entry ([.ref M.o_Pl, .int p0, .int p1]) (n := 7) (Nat.le_of_ble_eq_true rfl)
  rw [lg_entry_eq]
  generalize (lg_sl ([.ref M.o_Pl, .int p0, .int p1]) ++ List.replicate (7 - (lg_sl ([.ref M.o_Pl, .int p0, .int p1])).length) Slot.unset).toArray = ls at hl ⊢
  have hl : lv_has ls 7 [(0, .ref M.o_Pl), (1, .int p0), (2, .int p1)] := hl
  refine qabs (fun Q hQ => ?_)
  have hB_93 : ∀ (S : CS) (H : Heap) (locs : List Loc) (ls : Array Slot), f_Pl_fix_93 K G S = some (r, S') → va_P (dC, dI) classes (wV M Y G S) H → va_D A (wV M Y G S) → va_S A s.heap H locs → lv_has ls 7 [] → W p l e ({ frames := 0, cells := 0, slots := 0, locals := 0 }) s m ([.ref M.o_Pl, .int p0, .int p1] : List Value).toArray below meth c H locs 0 0 Q (F0 m 93 ls []) := by
    intro S H locs ls h hP hD hS hl
    rw [f_Pl_fix_93] at h
    refine lv_iconst (v := 0) hx hb d_Pl_fix_93 (by decide) ?_
    rw [hQ]
    have e1 : (0 : Int32) = r := congrArg Prod.fst (Option.some.inj h)
    have e2 : S = S' := congrArg Prod.snd (Option.some.inj h)
    have hP := ly_newP e2.symm hP
    have hD := ly_newD e2.symm hD
    exact W.zret (v := 0) hx hb hr rfl (fun t ht hW => ⟨⟨0, (), rfl, e1, by rw [ht]; exact hP, va_K.moved hW.alike hK, hD⟩, hS.F ht⟩) hS.2.2 d_Pl_fix_94
  have hB_79 : ∀ (rec_34 : Int32 → Int32 → Int32 → Int32 → Int32 → CS → Option (Int32 × CS)) (hr_34 : ∀ (y_1 : Int32) (y_2 : Int32) (y_3 : Int32) (y_4 : Int32) (y_5 : Int32) (S : CS) (H : Heap) (locs : List Loc) (ls : Array Slot), rec_34 y_1 y_2 y_3 y_4 y_5 S = some (r, S') → va_P (dC, dI) classes (wV M Y G S) H → va_D A (wV M Y G S) → va_S A s.heap H locs → lv_has ls 7 [(0, .ref M.o_Pl), (1, .int y_1), (2, .int y_2), (3, .int y_3), (4, .int y_4), (5, .int y_5)] → W p l e ({ frames := 0, cells := 0, slots := 0, locals := 0 }) s m ([.ref M.o_Pl, .int p0, .int p1] : List Value).toArray below meth c H locs 0 0 Q (F0 m 34 ls [])), ∀ (y_1 : Int32) (y_2 : Int32) (y_3 : Int32) (y_4 : Int32) (y_5 : Int32) (S : CS) (H : Heap) (locs : List Loc) (ls : Array Slot), f_Pl_fix_79 K G rec_34 y_1 y_2 y_3 y_4 y_5 S = some (r, S') → va_P (dC, dI) classes (wV M Y G S) H → va_D A (wV M Y G S) → va_S A s.heap H locs → lv_has ls 7 [(0, .ref M.o_Pl), (1, .int y_1), (2, .int y_2), (3, .int y_3), (4, .int y_4), (5, .int y_5)] → W p l e ({ frames := 0, cells := 0, slots := 0, locals := 0 }) s m ([.ref M.o_Pl, .int p0, .int p1] : List Value).toArray below meth c H locs 0 0 Q (F0 m 79 ls []) := by
    intro rec_34 hr_34 y_1 y_2 y_3 y_4 y_5 S H locs ls h hP hD hS hl
    rw [f_Pl_fix_79] at h
    refine lv_iload hx hb d_Pl_fix_79 (lv_at hl 5 rfl) ?_
    refine lv_if_lt (tgt := 93) hx hb d_Pl_fix_81 (by decide) (fun c_9 => ?_) (fun c_9 => ?_)
    · have h := lf_t h c_9
      exact hB_93 S _ _ _ h hP hD hS (lv_sub hl [] rfl)
    · have h := lf_f h c_9
      refine lv_iload hx hb d_Pl_fix_84 (lv_at hl 5 rfl) ?_
      refine lv_aload_n hx hb d_Pl_fix_86 rfl (lv_at hl 0 rfl) ?_
      refine va_get (D := (dC, dI)) (ci := 9) (v := .int S.v_Pl_blocks) (C := R_Pl) (T := F_Pl) (N := 17) hx hb hts (fun w h => u_Vq_Pl w (i_Pl w h)) hown hK hP 7 rfl rfl 3 (by decide) (hts _ (u_Vq_Pl _ k_Pl_14)) (fun _ h9 => h9) rfl d_Pl_fix_87 ?_
      refine lv_icmp_lt (tgt := 95) hx hb d_Pl_fix_90 (by decide) (fun c_10 => ?_) (fun c_10 => ?_)
      · have h := lf_t h c_10
        refine lv_aload_n hx hb d_Pl_fix_95 rfl (lv_at hl 0 rfl) ?_
        refine va_get (D := (dC, dI)) (ci := 9) (v := .ref M.a_Pl_fixed) (C := R_Pl) (T := F_Pl) (N := 17) hx hb hts (fun w h => u_Vq_Pl w (i_Pl w h)) hown hK hP 7 rfl rfl 4 (by decide) (hts _ (u_Vq_Pl _ k_Pl_15)) (fun _ h9 => h9) rfl d_Pl_fix_96 ?_
        refine lv_iload hx hb d_Pl_fix_99 (lv_at hl 5 rfl) ?_
        refine lv_iconst (v := 1) hx hb d_Pl_fix_101 (by decide) ?_
        obtain ⟨g_11, h⟩ := lf_gE h
        refine va_zast hx hb hK hP hD hS 39 1 rfl rfl g_11 d_Pl_fix_102 (fun H locs hP hD hS => ?_)
        obtain ⟨S_12, eS_12, h⟩ := lf_lX h
        have hP := ly_newP eS_12 hP
        have hD := ly_newD eS_12 hD
        obtain ⟨x_13, ex_13, h⟩ := lf_lX h
        refine lv_iinc (v := x_13) (lv' := [(5, .int x_13), (0, .ref M.o_Pl), (1, .int y_1), (2, .int y_2), (3, .int y_3), (4, .int y_4)]) hx hb d_Pl_fix_103 hl (k := 5) rfl (by rw [ex_13]; rfl) (by decide) rfl (fun ls hl => ?_)
        refine lv_goto (tgt := 34) hx hb d_Pl_fix_106 (by decide) ?_
        exact hr_34 y_1 y_2 y_3 y_4 x_13 S_12 _ _ _ h hP hD hS (lv_sub hl [1, 2, 3, 4, 5, 0] rfl)
      · have h := lf_f h c_10
        exact hB_93 S _ _ _ h hP hD hS (lv_sub hl [] rfl)
  have hB_59 : ∀ (rec_34 : Int32 → Int32 → Int32 → Int32 → Int32 → CS → Option (Int32 × CS)) (hr_34 : ∀ (y_1 : Int32) (y_2 : Int32) (y_3 : Int32) (y_4 : Int32) (y_5 : Int32) (S : CS) (H : Heap) (locs : List Loc) (ls : Array Slot), rec_34 y_1 y_2 y_3 y_4 y_5 S = some (r, S') → va_P (dC, dI) classes (wV M Y G S) H → va_D A (wV M Y G S) → va_S A s.heap H locs → lv_has ls 7 [(0, .ref M.o_Pl), (1, .int y_1), (2, .int y_2), (3, .int y_3), (4, .int y_4), (5, .int y_5)] → W p l e ({ frames := 0, cells := 0, slots := 0, locals := 0 }) s m ([.ref M.o_Pl, .int p0, .int p1] : List Value).toArray below meth c H locs 0 0 Q (F0 m 34 ls [])), ∀ (y_1 : Int32) (y_2 : Int32) (y_3 : Int32) (y_4 : Int32) (y_5 : Int32) (z_0 : Int32) (S : CS) (H : Heap) (locs : List Loc) (ls : Array Slot), f_Pl_fix_59 K G rec_34 y_1 y_2 y_3 y_4 y_5 z_0 S = some (r, S') → va_P (dC, dI) classes (wV M Y G S) H → va_D A (wV M Y G S) → va_S A s.heap H locs → lv_has ls 7 [(0, .ref M.o_Pl), (1, .int y_1), (2, .int y_2), (3, .int y_3), (4, .int y_4), (5, .int y_5)] → W p l e ({ frames := 0, cells := 0, slots := 0, locals := 0 }) s m ([.ref M.o_Pl, .int p0, .int p1] : List Value).toArray below meth c H locs 0 0 Q (F0 m 59 ls [.int z_0]) := by
    intro rec_34 hr_34 y_1 y_2 y_3 y_4 y_5 z_0 S H locs ls h hP hD hS hl
    rw [f_Pl_fix_59] at h
    refine lv_istore (lv' := [(6, .int z_0), (0, .ref M.o_Pl), (1, .int y_1), (2, .int y_2), (3, .int y_3), (4, .int y_4), (5, .int y_5)]) hx hb d_Pl_fix_59 hl (by decide) rfl (fun ls hl => ?_)
    refine lv_iload hx hb d_Pl_fix_61 (lv_at hl 0 rfl) ?_
    refine lv_if_ne (tgt := 79) hx hb d_Pl_fix_63 (by decide) (fun c_6 => ?_) (fun c_6 => ?_)
    · have h := lf_f h c_6
      exact hB_79 _ hr_34 y_1 y_2 y_3 y_4 y_5 S _ _ _ h hP hD hS (lv_sub hl [1, 2, 3, 4, 5, 6] rfl)
    · have h := lf_t h c_6
      refine lv_iload hx hb d_Pl_fix_66 (lv_at hl 6 rfl) ?_
      refine lv_iload_n hx hb d_Pl_fix_68 rfl (lv_at hl 4 rfl) ?_
      refine lv_icmp_lt (tgt := 93) hx hb d_Pl_fix_69 (by decide) (fun c_7 => ?_) (fun c_7 => ?_)
      · have h := lf_t h c_7
        exact hB_93 S _ _ _ h hP hD hS (lv_sub hl [] rfl)
      · have h := lf_f h c_7
        refine lv_iload hx hb d_Pl_fix_72 (lv_at hl 6 rfl) ?_
        refine lv_iload hx hb d_Pl_fix_74 (lv_at hl 5 rfl) ?_
        refine lv_icmp_ge (tgt := 93) hx hb d_Pl_fix_76 (by decide) (fun c_8 => ?_) (fun c_8 => ?_)
        · have h := lf_t h c_8
          exact hB_93 S _ _ _ h hP hD hS (lv_sub hl [] rfl)
        · have h := lf_f h c_8
          exact hB_79 _ hr_34 y_1 y_2 y_3 y_4 y_5 S _ _ _ h hP hD hS (lv_sub hl [1, 2, 3, 4, 5, 6] rfl)
  have hB_54 : ∀ (rec_34 : Int32 → Int32 → Int32 → Int32 → Int32 → CS → Option (Int32 × CS)) (hr_34 : ∀ (y_1 : Int32) (y_2 : Int32) (y_3 : Int32) (y_4 : Int32) (y_5 : Int32) (S : CS) (H : Heap) (locs : List Loc) (ls : Array Slot), rec_34 y_1 y_2 y_3 y_4 y_5 S = some (r, S') → va_P (dC, dI) classes (wV M Y G S) H → va_D A (wV M Y G S) → va_S A s.heap H locs → lv_has ls 7 [(0, .ref M.o_Pl), (1, .int y_1), (2, .int y_2), (3, .int y_3), (4, .int y_4), (5, .int y_5)] → W p l e ({ frames := 0, cells := 0, slots := 0, locals := 0 }) s m ([.ref M.o_Pl, .int p0, .int p1] : List Value).toArray below meth c H locs 0 0 Q (F0 m 34 ls [])), ∀ (y_1 : Int32) (y_2 : Int32) (y_3 : Int32) (y_4 : Int32) (y_5 : Int32) (S : CS) (H : Heap) (locs : List Loc) (ls : Array Slot), f_Pl_fix_54 K G rec_34 y_1 y_2 y_3 y_4 y_5 S = some (r, S') → va_P (dC, dI) classes (wV M Y G S) H → va_D A (wV M Y G S) → va_S A s.heap H locs → lv_has ls 7 [(0, .ref M.o_Pl), (1, .int y_1), (2, .int y_2), (3, .int y_3), (4, .int y_4), (5, .int y_5)] → W p l e ({ frames := 0, cells := 0, slots := 0, locals := 0 }) s m ([.ref M.o_Pl, .int p0, .int p1] : List Value).toArray below meth c H locs 0 0 Q (F0 m 54 ls []) := by
    intro rec_34 hr_34 y_1 y_2 y_3 y_4 y_5 S H locs ls h hP hD hS hl
    rw [f_Pl_fix_54] at h
    refine lv_iconst (v := 1) hx hb d_Pl_fix_54 (by decide) ?_
    refine lv_goto (tgt := 59) hx hb d_Pl_fix_55 (by decide) ?_
    exact hB_59 _ hr_34 y_1 y_2 y_3 y_4 y_5 1 S _ _ _ h hP hD hS (lv_sub hl [0, 1, 2, 3, 4, 5] rfl)
  have hB_34 : ∀ (k : Nat), ∀ (y_1 : Int32) (y_2 : Int32) (y_3 : Int32) (y_4 : Int32) (y_5 : Int32) (S : CS) (H : Heap) (locs : List Loc) (ls : Array Slot), f_Pl_fix_34 K G k y_1 y_2 y_3 y_4 y_5 S = some (r, S') → va_P (dC, dI) classes (wV M Y G S) H → va_D A (wV M Y G S) → va_S A s.heap H locs → lv_has ls 7 [(0, .ref M.o_Pl), (1, .int y_1), (2, .int y_2), (3, .int y_3), (4, .int y_4), (5, .int y_5)] → W p l e ({ frames := 0, cells := 0, slots := 0, locals := 0 }) s m ([.ref M.o_Pl, .int p0, .int p1] : List Value).toArray below meth c H locs 0 0 Q (F0 m 34 ls []) := by
    intro k
    induction k with
    | zero => intro y_1 y_2 y_3 y_4 y_5 S H locs ls h; exact lf_no h
    | succ k hr_34 =>
      intro y_1 y_2 y_3 y_4 y_5 S H locs ls h hP hD hS hl
      rw [f_Pl_fix_34] at h
      refine lv_iload hx hb d_Pl_fix_34 (lv_at hl 5 rfl) ?_
      refine lv_iload_n hx hb d_Pl_fix_36 rfl (lv_at hl 1 rfl) ?_
      refine lv_iload_n hx hb d_Pl_fix_37 rfl (lv_at hl 2 rfl) ?_
      refine lv_iadd hx hb d_Pl_fix_38 ?_
      refine lv_icmp_ge (tgt := 109) hx hb d_Pl_fix_39 (by decide) (fun c_3 => ?_) (fun c_3 => ?_)
      · have h := lf_t h c_3
        refine lv_iconst (v := 1) hx hb d_Pl_fix_109 (by decide) ?_
        rw [hQ]
        have e1 : (1 : Int32) = r := congrArg Prod.fst (Option.some.inj h)
        have e2 : S = S' := congrArg Prod.snd (Option.some.inj h)
        have hP := ly_newP e2.symm hP
        have hD := ly_newD e2.symm hD
        exact W.zret (v := 1) hx hb hr rfl (fun t ht hW => ⟨⟨1, (), rfl, e1, by rw [ht]; exact hP, va_K.moved hW.alike hK, hD⟩, hS.F ht⟩) hS.2.2 d_Pl_fix_110
      · have h := lf_f h c_3
        refine lv_iload hx hb d_Pl_fix_42 (lv_at hl 5 rfl) ?_
        refine lv_iconst (v := 1) hx hb d_Pl_fix_44 (by decide) ?_
        refine lv_icmp_eq (tgt := 54) hx hb d_Pl_fix_45 (by decide) (fun c_4 => ?_) (fun c_4 => ?_)
        · have h := lf_t h c_4
          exact hB_54 _ hr_34 y_1 y_2 y_3 y_4 y_5 S _ _ _ h hP hD hS (lv_sub hl [0, 1, 2, 3, 4, 5] rfl)
        · have h := lf_f h c_4
          refine lv_iload hx hb d_Pl_fix_48 (lv_at hl 5 rfl) ?_
          refine lv_iconst (v := 2) hx hb d_Pl_fix_50 (by decide) ?_
          refine lv_icmp_ne (tgt := 58) hx hb d_Pl_fix_51 (by decide) (fun c_5 => ?_) (fun c_5 => ?_)
          · have h := lf_f h c_5
            refine lv_iconst (v := 0) hx hb d_Pl_fix_58 (by decide) ?_
            exact hB_59 _ hr_34 y_1 y_2 y_3 y_4 y_5 0 S _ _ _ h hP hD hS (lv_sub hl [0, 1, 2, 3, 4, 5] rfl)
          · have h := lf_t h c_5
            exact hB_54 _ hr_34 y_1 y_2 y_3 y_4 y_5 S _ _ _ h hP hD hS (lv_sub hl [0, 1, 2, 3, 4, 5] rfl)
  rw [f_Pl_fix] at h
  refine lv_aload_n hx hb d_Pl_fix_0 rfl (lv_at hl 0 rfl) ?_
  refine va_get (D := (dC, dI)) (ci := 9) (v := .ref M.o_Tb) (C := R_Pl) (T := F_Pl) (N := 17) hx hb hts (fun w h => u_Vq_Pl w (i_Pl w h)) hown hK hP 7 rfl rfl 1 (by decide) (hts _ (u_Vq_Pl _ k_Pl_12)) (fun _ h9 => h9) rfl d_Pl_fix_1 ?_
  refine va_get (D := (dC, dI)) (ci := 4) (v := .int S.v_Tb_start) (C := R_Tb) (T := F_Tb) (N := 10) hx hb hts (fun w h => u_Vq_Tb w (i_Tb w h)) hown hK hP 3 rfl rfl 6 (by decide) (hts _ (u_Vq_Pl _ k_Pl_3)) (fun _ h9 => h9) rfl d_Pl_fix_4 ?_
  refine lv_iconst (v := 2) hx hb d_Pl_fix_7 (by decide) ?_
  refine lv_idiv hx hb d_Pl_fix_8 (by decide) ?_
  refine lv_topi (fun x_1 ex_1 => ?_)
  have h := lf_lE h ex_1
  refine lv_istore_n (lv' := [(3, .int x_1), (0, .ref M.o_Pl), (1, .int p0), (2, .int p1)]) hx hb d_Pl_fix_9 rfl hl (by decide) rfl (fun ls hl => ?_)
  refine lv_iload_n hx hb d_Pl_fix_10 rfl (lv_at hl 0 rfl) ?_
  refine lv_aload_n hx hb d_Pl_fix_11 rfl (lv_at hl 1 rfl) ?_
  refine va_get (D := (dC, dI)) (ci := 9) (v := .ref M.o_Tb) (C := R_Pl) (T := F_Pl) (N := 17) hx hb hts (fun w h => u_Vq_Pl w (i_Pl w h)) hown hK hP 7 rfl rfl 1 (by decide) (hts _ (u_Vq_Pl _ k_Pl_12)) (fun _ h9 => h9) rfl d_Pl_fix_12 ?_
  refine va_get (D := (dC, dI)) (ci := 4) (v := .int S.v_Tb_clusters) (C := R_Tb) (T := F_Tb) (N := 10) hx hb hts (fun w h => u_Vq_Tb w (i_Tb w h)) hown hK hP 3 rfl rfl 7 (by decide) (hts _ (u_Vq_Pl _ k_Pl_4)) (fun _ h9 => h9) rfl d_Pl_fix_15 ?_
  refine lv_aload_n hx hb d_Pl_fix_18 rfl (lv_at hl 1 rfl) ?_
  refine va_get (D := (dC, dI)) (ci := 9) (v := .ref M.o_Tb) (C := R_Pl) (T := F_Pl) (N := 17) hx hb hts (fun w h => u_Vq_Pl w (i_Pl w h)) hown hK hP 7 rfl rfl 1 (by decide) (hts _ (u_Vq_Pl _ k_Pl_12)) (fun _ h9 => h9) rfl d_Pl_fix_19 ?_
  refine va_get (D := (dC, dI)) (ci := 4) (v := .int S.v_Tb_cluster) (C := R_Tb) (T := F_Tb) (N := 10) hx hb hts (fun w h => u_Vq_Tb w (i_Tb w h)) hown hK hP 3 rfl rfl 1 (by decide) (hts _ (u_Vq_Pl _ k_Pl_2)) (fun _ h9 => h9) rfl d_Pl_fix_22 ?_
  refine lv_iconst (v := 2) hx hb d_Pl_fix_25 (by decide) ?_
  refine lv_idiv hx hb d_Pl_fix_26 (by decide) ?_
  refine lv_imul hx hb d_Pl_fix_27 ?_
  refine lv_iadd hx hb d_Pl_fix_28 ?_
  refine lv_topi (fun x_2 ex_2 => ?_)
  have h := lf_lE h ex_2
  refine lv_istore (lv' := [(4, .int x_2), (3, .int x_1), (0, .ref M.o_Pl), (1, .int p0), (2, .int p1)]) hx hb d_Pl_fix_29 hl (by decide) rfl (fun ls hl => ?_)
  refine lv_iload_n hx hb d_Pl_fix_31 rfl (lv_at hl 3 rfl) ?_
  refine lv_istore (lv' := [(5, .int p0), (4, .int x_2), (3, .int x_1), (0, .ref M.o_Pl), (1, .int p0), (2, .int p1)]) hx hb d_Pl_fix_32 hl (by decide) rfl (fun ls hl => ?_)
  exact hB_34 K p0 p1 x_1 x_2 p0 S _ _ _ h hP hD hS (lv_sub hl [3, 4, 5, 2, 1, 0] rfl)
set_option maxHeartbeats 4000000 in
set_option maxRecDepth 100000 in
theorem l_Pl_mapBlock (l : Launch) (dC : Nat → ClassId) (dI : Nat → Nat → Nat) {K : Nat} {M : CA} {E : (Nat → Prop) → State → Prop} (X : ly_X l dC dI K M E) (sz : Nat) {Y : CT} {G : CG} {S S' : CS} {p0 : Int32} {r : Int32} (h : f_Pl_mapBlock K G S p0 = some (r, S')) : Met l y_Pl_mapBlock (.code y_Pl_mapBlock cb_Pl_mapBlock 2 (some .int) :: V_Vq) ({ frames := 1, cells := 0, slots := 0, locals := 21 }) (va_Pc [.ref M.o_Pl, .int p0] (fun U => U.heap.size = sz ∧ at_ (dC, dI) (fun _ => True) (wV M Y G S) (tV M) U ∧ E (va_A (wV M Y G S) sz) U)) (va_Qi (fun (r_ : Int32) (u : Unit) => r_ = r) (fun (u : Unit) t => at_ (dC, dI) (va_A (wV M Y G S) sz) (wV M Y G S') (tV M) t) (va_A (wV M Y G S) sz)) 0 0 (va_A (wV M Y G S) sz) := by
  refine Met.ofW (cc := cb_Pl_mapBlock) (maxL := 2) (ret := (some .int)) (by decide) rfl ?_
  intro p e s m args below meth c s₁ B hml hv
  obtain ⟨rfl, hsz, ⟨hP, hK, hD0⟩, hE⟩ := hv
  have hx := B.exec
  have hb := B.bytes
  have hr := B.returns
  have hts0 := atoms_spec (ws := .code y_Pl_mapBlock cb_Pl_mapBlock 2 (some .int) :: V_Vq) B.pre
  have hts : ∀ w ∈ V_Vq, w.before ([.ref M.o_Pl, .int p0] : List Value).toArray s = true := fun w h => hts0 w (List.mem_cons_of_mem _ h)
  have hown : s.vm.findClass R_Pl = some m.cls := findClass_of_methodNamed B.named
  subst hsz
  have hD := hD0.self (sz := s.heap.size)
  generalize hAe : va_A (wV M Y G S) s.heap.size = A at hD hE ⊢
  have hA : ∀ q : Nat, s.heap.size ≤ q → A q := fun q h => by rw [← hAe]; exact Or.inr h
  have hS : va_S A s.heap s.heap [] := va_S.rf
  have hP : va_P (dC, dI) classes (wV M Y G S) s.heap := hP
  have hK : va_K (dC, dI) classes (tV M) s := hK
  have hEw : ∀ (H : Heap) (locs : List Loc), va_S A s.heap H locs → ∀ U : State, U.heap = H → s.WarmedH U.vm → E A U := fun H locs hS U hU hW => X.kept A s U H locs hE hS hU hW
  have hl := lv_entry ([.ref M.o_Pl, .int p0]) (n := 2) (Nat.le_of_ble_eq_true rfl)
  rw [lg_entry_eq]
  generalize (lg_sl ([.ref M.o_Pl, .int p0]) ++ List.replicate (2 - (lg_sl ([.ref M.o_Pl, .int p0])).length) Slot.unset).toArray = ls at hl ⊢
  have hl : lv_has ls 2 [(0, .ref M.o_Pl), (1, .int p0)] := hl
  refine qabs (fun Q hQ => ?_)
  rw [f_Pl_mapBlock] at h
  refine lv_iload_n hx hb d_Pl_mapBlock_0 rfl (lv_at hl 1 rfl) ?_
  refine lv_if_ne (tgt := 16) hx hb d_Pl_mapBlock_1 (by decide) (fun c_1 => ?_) (fun c_1 => ?_)
  · have h := lf_f h c_1
    refine lv_aload_n hx hb d_Pl_mapBlock_16 rfl (lv_at hl 0 rfl) ?_
    refine lv_iload_n hx hb d_Pl_mapBlock_17 rfl (lv_at hl 1 rfl) ?_
    obtain ⟨r_2, S_2, hc_2, h⟩ := lf_cE h
    have hFc := lx_free hD hS hA
    refine va_calli (va_runV (As := [.int p0]) (rest := []) ⟨hx, hb, hml, hown, hts⟩ (l_Pl_firstBlock l dC dI X _ hc_2) (cwV 1 hts (gwV good_Vq (u_Vq_Pl _ k_Pl_44) (u_Vq_Pl _ k_Pl_45) (u_Vq_Pl _ k_Pl_46) (u_Vq_Pl _ k_Pl_0) (wcs (u_Vq_Pl _ k_Pl_47) (fun _ h => h))) rfl rfl rfl (by decide +kernel) ⟨Nat.le_of_ble_eq_true rfl, Nat.le_of_ble_eq_true rfl⟩) (pv_ofE (X.same _) (fun U z1 z2 => X.mono _ _ U hFc (hEw _ _ hS U z1 z2)) hP hK hD (va_recv hK hP (ci := 9) (q0 := 7) rfl rfl)) rfl rfl hl.1 rfl (lv_room (Nat.le_of_ble_eq_true rfl)) d_Pl_mapBlock_18 ⟨by decide, by decide⟩) hS (fun q _ h => hFc q h) hFc (fun r_ u t H locs ht hvm hw hB hz1 hk1 hS => ?_)
    rw [hw]
    obtain ⟨hP, -, hD⟩ := hB
    rw [ht] at hP
    have hD := lx_dj hD hFc
    refine lv_iconst (v := 2) hx hb d_Pl_mapBlock_21 (by decide) ?_
    refine lv_iadd hx hb d_Pl_mapBlock_22 ?_
    rw [hQ]
    have e1 : (r_2 + 2) = r := congrArg Prod.fst (Option.some.inj h)
    have e2 : S_2 = S' := congrArg Prod.snd (Option.some.inj h)
    have hP := ly_newP e2.symm hP
    have hD := ly_newD e2.symm hD
    exact W.iret (v := (r_2 + 2)) hx hb hr (fun t ht hW => ⟨⟨(r_2 + 2), (), rfl, e1, by rw [ht]; exact hP, va_K.moved hW.alike hK, hD⟩, hS.F ht⟩) hS.2.2 d_Pl_mapBlock_23
  · have h := lf_t h c_1
    refine lv_aload_n hx hb d_Pl_mapBlock_4 rfl (lv_at hl 0 rfl) ?_
    refine va_get (D := (dC, dI)) (ci := 9) (v := .ref M.o_Tb) (C := R_Pl) (T := F_Pl) (N := 17) hx hb hts (fun w h => u_Vq_Pl w (i_Pl w h)) hown hK hP 7 rfl rfl 1 (by decide) (hts _ (u_Vq_Pl _ k_Pl_12)) (fun _ h9 => h9) rfl d_Pl_mapBlock_5 ?_
    refine va_get (D := (dC, dI)) (ci := 4) (v := .int S.v_Tb_start) (C := R_Tb) (T := F_Tb) (N := 10) hx hb hts (fun w h => u_Vq_Tb w (i_Tb w h)) hown hK hP 3 rfl rfl 6 (by decide) (hts _ (u_Vq_Pl _ k_Pl_3)) (fun _ h9 => h9) rfl d_Pl_mapBlock_8 ?_
    refine lv_iconst (v := 2) hx hb d_Pl_mapBlock_11 (by decide) ?_
    refine lv_idiv hx hb d_Pl_mapBlock_12 (by decide) ?_
    refine lv_goto (tgt := 23) hx hb d_Pl_mapBlock_13 (by decide) ?_
    rw [hQ]
    have e1 : (S.v_Tb_start / 2) = r := congrArg Prod.fst (Option.some.inj h)
    have e2 : S = S' := congrArg Prod.snd (Option.some.inj h)
    have hP := ly_newP e2.symm hP
    have hD := ly_newD e2.symm hD
    exact W.iret (v := (S.v_Tb_start / 2)) hx hb hr (fun t ht hW => ⟨⟨(S.v_Tb_start / 2), (), rfl, e1, by rw [ht]; exact hP, va_K.moved hW.alike hK, hD⟩, hS.F ht⟩) hS.2.2 d_Pl_mapBlock_23
set_option maxHeartbeats 4000000 in
set_option maxRecDepth 100000 in
theorem l_Pl_layOut (l : Launch) (dC : Nat → ClassId) (dI : Nat → Nat → Nat) {K : Nat} {M : CA} {E : (Nat → Prop) → State → Prop} (X : ly_X l dC dI K M E) (sz : Nat) {Y : CT} {G : CG} {S S' : CS} {p0 : Int32} {r : Int32} (h : f_Pl_layOut K G S p0 = some (r, S')) : Met l y_Pl_layOut (.code y_Pl_layOut cb_Pl_layOut 5 (some .boolean) :: V_Vq) ({ frames := 2, cells := 0, slots := 0, locals := 61 }) (va_Pc [.ref M.o_Pl, .int p0] (fun U => U.heap.size = sz ∧ at_ (dC, dI) (fun _ => True) (wV M Y G S) (tV M) U ∧ E (va_A (wV M Y G S) sz) U)) (va_Qi (fun (r_ : Int32) (u : Unit) => r_ = r) (fun (u : Unit) t => at_ (dC, dI) (va_A (wV M Y G S) sz) (wV M Y G S') (tV M) t) (va_A (wV M Y G S) sz)) 0 0 (va_A (wV M Y G S) sz) := by
  refine Met.ofW (cc := cb_Pl_layOut) (maxL := 5) (ret := (some .boolean)) (by decide) rfl ?_
  intro p e s m args below meth c s₁ B hml hv
  obtain ⟨rfl, hsz, ⟨hP, hK, hD0⟩, hE⟩ := hv
  have hx := B.exec
  have hb := B.bytes
  have hr := B.returns
  have hts0 := atoms_spec (ws := .code y_Pl_layOut cb_Pl_layOut 5 (some .boolean) :: V_Vq) B.pre
  have hts : ∀ w ∈ V_Vq, w.before ([.ref M.o_Pl, .int p0] : List Value).toArray s = true := fun w h => hts0 w (List.mem_cons_of_mem _ h)
  have hown : s.vm.findClass R_Pl = some m.cls := findClass_of_methodNamed B.named
  subst hsz
  have hD := hD0.self (sz := s.heap.size)
  generalize hAe : va_A (wV M Y G S) s.heap.size = A at hD hE ⊢
  have hA : ∀ q : Nat, s.heap.size ≤ q → A q := fun q h => by rw [← hAe]; exact Or.inr h
  have hS : va_S A s.heap s.heap [] := va_S.rf
  have hP : va_P (dC, dI) classes (wV M Y G S) s.heap := hP
  have hK : va_K (dC, dI) classes (tV M) s := hK
  have hEw : ∀ (H : Heap) (locs : List Loc), va_S A s.heap H locs → ∀ U : State, U.heap = H → s.WarmedH U.vm → E A U := fun H locs hS U hU hW => X.kept A s U H locs hE hS hU hW
  have hl := lv_entry ([.ref M.o_Pl, .int p0]) (n := 5) (Nat.le_of_ble_eq_true rfl)
  rw [lg_entry_eq]
  generalize (lg_sl ([.ref M.o_Pl, .int p0]) ++ List.replicate (5 - (lg_sl ([.ref M.o_Pl, .int p0])).length) Slot.unset).toArray = ls at hl ⊢
  have hl : lv_has ls 5 [(0, .ref M.o_Pl), (1, .int p0)] := hl
  refine qabs (fun Q hQ => ?_)
  have hB_119 : ∀ (S : CS) (H : Heap) (locs : List Loc) (ls : Array Slot), f_Pl_layOut_119 K G S = some (r, S') → va_P (dC, dI) classes (wV M Y G S) H → va_D A (wV M Y G S) → va_S A s.heap H locs → lv_has ls 5 [] → W p l e ({ frames := 2, cells := 0, slots := 0, locals := 61 }) s m ([.ref M.o_Pl, .int p0] : List Value).toArray below meth c H locs 0 0 Q (F0 m 119 ls []) := by
    intro S H locs ls h hP hD hS hl
    rw [f_Pl_layOut_119] at h
    refine lv_iconst (v := 0) hx hb d_Pl_layOut_119 (by decide) ?_
    rw [hQ]
    have e1 : (0 : Int32) = r := congrArg Prod.fst (Option.some.inj h)
    have e2 : S = S' := congrArg Prod.snd (Option.some.inj h)
    have hP := ly_newP e2.symm hP
    have hD := ly_newD e2.symm hD
    exact W.zret (v := 0) hx hb hr rfl (fun t ht hW => ⟨⟨0, (), rfl, e1, by rw [ht]; exact hP, va_K.moved hW.alike hK, hD⟩, hS.F ht⟩) hS.2.2 d_Pl_layOut_120
  have hB_79 : ∀ (rec_46 : Int32 → Int32 → CS → Option (Int32 × CS)) (hr_46 : ∀ (y_2 : Int32) (y_3 : Int32) (S : CS) (H : Heap) (locs : List Loc) (ls : Array Slot), rec_46 y_2 y_3 S = some (r, S') → va_P (dC, dI) classes (wV M Y G S) H → va_D A (wV M Y G S) → va_S A s.heap H locs → lv_has ls 5 [(0, .ref M.o_Pl), (2, .int y_2), (3, .int y_3)] → W p l e ({ frames := 2, cells := 0, slots := 0, locals := 61 }) s m ([.ref M.o_Pl, .int p0] : List Value).toArray below meth c H locs 0 0 Q (F0 m 46 ls [])), ∀ (y_2 : Int32) (y_3 : Int32) (z_0 : Int32) (S : CS) (H : Heap) (locs : List Loc) (ls : Array Slot), f_Pl_layOut_79 K G rec_46 y_2 y_3 z_0 S = some (r, S') → va_P (dC, dI) classes (wV M Y G S) H → va_D A (wV M Y G S) → va_S A s.heap H locs → lv_has ls 5 [(0, .ref M.o_Pl), (2, .int y_2), (3, .int y_3)] → W p l e ({ frames := 2, cells := 0, slots := 0, locals := 61 }) s m ([.ref M.o_Pl, .int p0] : List Value).toArray below meth c H locs 0 0 Q (F0 m 79 ls [.int z_0]) := by
    intro rec_46 hr_46 y_2 y_3 z_0 S H locs ls h hP hD hS hl
    rw [f_Pl_layOut_79] at h
    refine lv_istore (lv' := [(4, .int z_0), (0, .ref M.o_Pl), (2, .int y_2), (3, .int y_3)]) hx hb d_Pl_layOut_79 hl (by decide) rfl (fun ls hl => ?_)
    refine lv_aload_n hx hb d_Pl_layOut_81 rfl (lv_at hl 1 rfl) ?_
    refine lv_iload_n hx hb d_Pl_layOut_82 rfl (lv_at hl 3 rfl) ?_
    obtain ⟨r_10, S_10, hc_10, h⟩ := lf_cE h
    have hFc := lx_free hD hS hA
    refine va_calli (va_runV (As := [.int y_3]) (rest := []) ⟨hx, hb, hml, hown, hts⟩ (l_Pl_blocksOf l dC dI X _ hc_10) (cwV 1 hts (gwV good_Vq (u_Vq_Pl _ k_Pl_40) (u_Vq_Pl _ k_Pl_41) (u_Vq_Pl _ k_Pl_42) (u_Vq_Pl _ k_Pl_0) (wcs (u_Vq_Pl _ k_Pl_43) (fun _ h => h))) rfl rfl rfl (by decide +kernel) ⟨Nat.le_of_ble_eq_true rfl, Nat.le_of_ble_eq_true rfl⟩) (pv_ofE (X.same _) (fun U z1 z2 => X.mono _ _ U hFc (hEw _ _ hS U z1 z2)) hP hK hD (va_recv hK hP (ci := 9) (q0 := 7) rfl rfl)) rfl rfl hl.1 rfl (lv_room (Nat.le_of_ble_eq_true rfl)) d_Pl_layOut_83 ⟨by decide, by decide⟩) hS (fun q _ h => hFc q h) hFc (fun r_ u t H locs ht hvm hw hB hz1 hk1 hS => ?_)
    rw [hw]
    obtain ⟨hP, -, hD⟩ := hB
    rw [ht] at hP
    have hD := lx_dj hD hFc
    refine lv_iload hx hb d_Pl_layOut_86 (lv_at hl 0 rfl) ?_
    refine lv_icmp_lt (tgt := 119) hx hb d_Pl_layOut_88 (by decide) (fun c_11 => ?_) (fun c_11 => ?_)
    · have h := lf_t h c_11
      exact hB_119 S_10 _ _ _ h hP hD hS (lv_sub hl [] rfl)
    · have h := lf_f h c_11
      refine lv_aload_n hx hb d_Pl_layOut_91 rfl (lv_at hl 1 rfl) ?_
      refine lv_aload_n hx hb d_Pl_layOut_92 rfl (lv_at hl 1 rfl) ?_
      refine lv_iload_n hx hb d_Pl_layOut_93 rfl (lv_at hl 3 rfl) ?_
      obtain ⟨r_12, S_12, hc_12, h⟩ := lf_cE h
      have hFc := lx_free hD hS hA
      refine va_calli (va_runV (As := [.int y_3]) (rest := [.ref M.o_Pl]) ⟨hx, hb, hml, hown, hts⟩ (l_Pl_firstBlock l dC dI X _ hc_12) (cwV 1 hts (gwV good_Vq (u_Vq_Pl _ k_Pl_44) (u_Vq_Pl _ k_Pl_45) (u_Vq_Pl _ k_Pl_46) (u_Vq_Pl _ k_Pl_0) (wcs (u_Vq_Pl _ k_Pl_47) (fun _ h => h))) rfl rfl rfl (by decide +kernel) ⟨Nat.le_of_ble_eq_true rfl, Nat.le_of_ble_eq_true rfl⟩) (pv_ofE (X.same _) (fun U z1 z2 => X.mono _ _ U hFc (hEw _ _ hS U z1 z2)) hP hK hD (va_recv hK hP (ci := 9) (q0 := 7) rfl rfl)) rfl rfl hl.1 rfl (lv_room (Nat.le_of_ble_eq_true rfl)) d_Pl_layOut_94 ⟨by decide, by decide⟩) hS (fun q _ h => hFc q h) hFc (fun r_ u t H locs ht hvm hw hB hz1 hk1 hS => ?_)
      rw [hw]
      obtain ⟨hP, -, hD⟩ := hB
      rw [ht] at hP
      have hD := lx_dj hD hFc
      refine lv_iconst (v := 2) hx hb d_Pl_layOut_97 (by decide) ?_
      obtain ⟨r_13, S_13, hc_13, h⟩ := lf_cE h
      have hFc := lx_free hD hS hA
      refine va_calli (va_runV (As := [.int r_12, .int 2]) (rest := []) ⟨hx, hb, hml, hown, hts⟩ (l_Pl_fix l dC dI X _ hc_13) (cwV 2 hts (gwV good_Vq (u_Vq_Pl _ k_Pl_49) (u_Vq_Pl _ k_Pl_50) (u_Vq_Pl _ k_Pl_168) (u_Vq_Pl _ k_Pl_0) (wcs (u_Vq_Pl _ k_Pl_51) (fun _ h => h))) rfl rfl rfl (by decide +kernel) ⟨Nat.le_of_ble_eq_true rfl, Nat.le_of_ble_eq_true rfl⟩) (pv_ofE (X.same _) (fun U z1 z2 => X.mono _ _ U hFc (hEw _ _ hS U z1 z2)) hP hK hD (va_recv hK hP (ci := 9) (q0 := 7) rfl rfl)) rfl rfl hl.1 rfl (lv_room (Nat.le_of_ble_eq_true rfl)) d_Pl_layOut_98 ⟨by decide, by decide⟩) hS (fun q _ h => hFc q h) hFc (fun r_ u t H locs ht hvm hw hB hz1 hk1 hS => ?_)
      rw [hw]
      obtain ⟨hP, -, hD⟩ := hB
      rw [ht] at hP
      have hD := lx_dj hD hFc
      refine lv_if_eq (tgt := 119) hx hb d_Pl_layOut_101 (by decide) (fun c_14 => ?_) (fun c_14 => ?_)
      · have h := lf_t h c_14
        exact hB_119 S_13 _ _ _ h hP hD hS (lv_sub hl [] rfl)
      · have h := lf_f h c_14
        refine lv_aload_n hx hb d_Pl_layOut_104 rfl (lv_at hl 1 rfl) ?_
        refine lv_aload_n hx hb d_Pl_layOut_105 rfl (lv_at hl 1 rfl) ?_
        refine lv_iload_n hx hb d_Pl_layOut_106 rfl (lv_at hl 3 rfl) ?_
        obtain ⟨r_15, S_15, hc_15, h⟩ := lf_cE h
        have hFc := lx_free hD hS hA
        refine va_calli (va_runV (As := [.int y_3]) (rest := [.ref M.o_Pl]) ⟨hx, hb, hml, hown, hts⟩ (l_Pl_mapBlock l dC dI X _ hc_15) (cwV 1 hts (gwV good_Vq (u_Vq_Pl _ k_Pl_52) (u_Vq_Pl _ k_Pl_53) (u_Vq_Pl _ k_Pl_54) (u_Vq_Pl _ k_Pl_0) (wcs (u_Vq_Pl _ k_Pl_55) (fun _ h => h))) rfl rfl rfl (by decide +kernel) ⟨Nat.le_of_ble_eq_true rfl, Nat.le_of_ble_eq_true rfl⟩) (pv_ofE (X.same _) (fun U z1 z2 => X.mono _ _ U hFc (hEw _ _ hS U z1 z2)) hP hK hD (va_recv hK hP (ci := 9) (q0 := 7) rfl rfl)) rfl rfl hl.1 rfl (lv_room (Nat.le_of_ble_eq_true rfl)) d_Pl_layOut_107 ⟨by decide, by decide⟩) hS (fun q _ h => hFc q h) hFc (fun r_ u t H locs ht hvm hw hB hz1 hk1 hS => ?_)
        rw [hw]
        obtain ⟨hP, -, hD⟩ := hB
        rw [ht] at hP
        have hD := lx_dj hD hFc
        refine lv_iconst (v := 2) hx hb d_Pl_layOut_110 (by decide) ?_
        refine lv_iload_n hx hb d_Pl_layOut_111 rfl (lv_at hl 2 rfl) ?_
        refine lv_iadd hx hb d_Pl_layOut_112 ?_
        obtain ⟨r_16, S_16, hc_16, h⟩ := lf_cE h
        have hFc := lx_free hD hS hA
        refine va_calli (va_runV (As := [.int r_15, .int (2 + y_2)]) (rest := []) ⟨hx, hb, hml, hown, hts⟩ (l_Pl_fix l dC dI X _ hc_16) (cwV 2 hts (gwV good_Vq (u_Vq_Pl _ k_Pl_49) (u_Vq_Pl _ k_Pl_50) (u_Vq_Pl _ k_Pl_168) (u_Vq_Pl _ k_Pl_0) (wcs (u_Vq_Pl _ k_Pl_51) (fun _ h => h))) rfl rfl rfl (by decide +kernel) ⟨Nat.le_of_ble_eq_true rfl, Nat.le_of_ble_eq_true rfl⟩) (pv_ofE (X.same _) (fun U z1 z2 => X.mono _ _ U hFc (hEw _ _ hS U z1 z2)) hP hK hD (va_recv hK hP (ci := 9) (q0 := 7) rfl rfl)) rfl rfl hl.1 rfl (lv_room (Nat.le_of_ble_eq_true rfl)) d_Pl_layOut_113 ⟨by decide, by decide⟩) hS (fun q _ h => hFc q h) hFc (fun r_ u t H locs ht hvm hw hB hz1 hk1 hS => ?_)
        rw [hw]
        obtain ⟨hP, -, hD⟩ := hB
        rw [ht] at hP
        have hD := lx_dj hD hFc
        refine lv_if_ne (tgt := 121) hx hb d_Pl_layOut_116 (by decide) (fun c_17 => ?_) (fun c_17 => ?_)
        · have h := lf_f h c_17
          obtain ⟨x_18, ex_18, h⟩ := lf_lX h
          refine lv_iinc (v := x_18) (lv' := [(3, .int x_18), (4, .int z_0), (0, .ref M.o_Pl), (2, .int y_2)]) hx hb d_Pl_layOut_121 hl (k := 3) rfl (by rw [ex_18]; rfl) (by decide) rfl (fun ls hl => ?_)
          refine lv_goto (tgt := 46) hx hb d_Pl_layOut_124 (by decide) ?_
          exact hr_46 y_2 x_18 S_16 _ _ _ h hP hD hS (lv_sub hl [2, 3, 0] rfl)
        · have h := lf_t h c_17
          exact hB_119 S_16 _ _ _ h hP hD hS (lv_sub hl [] rfl)
  have hB_46 : ∀ (k : Nat), ∀ (y_2 : Int32) (y_3 : Int32) (S : CS) (H : Heap) (locs : List Loc) (ls : Array Slot), f_Pl_layOut_46 K G k y_2 y_3 S = some (r, S') → va_P (dC, dI) classes (wV M Y G S) H → va_D A (wV M Y G S) → va_S A s.heap H locs → lv_has ls 5 [(0, .ref M.o_Pl), (2, .int y_2), (3, .int y_3)] → W p l e ({ frames := 2, cells := 0, slots := 0, locals := 61 }) s m ([.ref M.o_Pl, .int p0] : List Value).toArray below meth c H locs 0 0 Q (F0 m 46 ls []) := by
    intro k
    induction k with
    | zero => intro y_2 y_3 S H locs ls h; exact lf_no h
    | succ k hr_46 =>
      intro y_2 y_3 S H locs ls h hP hD hS hl
      rw [f_Pl_layOut_46] at h
      refine lv_iload_n hx hb d_Pl_layOut_46 rfl (lv_at hl 2 rfl) ?_
      refine lv_aload_n hx hb d_Pl_layOut_47 rfl (lv_at hl 0 rfl) ?_
      refine va_get (D := (dC, dI)) (ci := 9) (v := .int S.v_Pl_groups) (C := R_Pl) (T := F_Pl) (N := 17) hx hb hts (fun w h => u_Vq_Pl w (i_Pl w h)) hown hK hP 7 rfl rfl 12 (by decide) (hts _ (u_Vq_Pl _ k_Pl_23)) (fun _ h9 => h9) rfl d_Pl_layOut_48 ?_
      refine lv_icmp_ge (tgt := 127) hx hb d_Pl_layOut_51 (by decide) (fun c_8 => ?_) (fun c_8 => ?_)
      · have h := lf_t h c_8
        refine lv_iconst (v := 1) hx hb d_Pl_layOut_127 (by decide) ?_
        rw [hQ]
        have e1 : (1 : Int32) = r := congrArg Prod.fst (Option.some.inj h)
        have e2 : S = S' := congrArg Prod.snd (Option.some.inj h)
        have hP := ly_newP e2.symm hP
        have hD := ly_newD e2.symm hD
        exact W.zret (v := 1) hx hb hr rfl (fun t ht hW => ⟨⟨1, (), rfl, e1, by rw [ht]; exact hP, va_K.moved hW.alike hK, hD⟩, hS.F ht⟩) hS.2.2 d_Pl_layOut_128
      · have h := lf_f h c_8
        refine lv_iload_n hx hb d_Pl_layOut_54 rfl (lv_at hl 2 rfl) ?_
        refine lv_if_ne (tgt := 75) hx hb d_Pl_layOut_55 (by decide) (fun c_9 => ?_) (fun c_9 => ?_)
        · have h := lf_f h c_9
          refine lv_iload_n hx hb d_Pl_layOut_75 rfl (lv_at hl 1 rfl) ?_
          refine lv_bipush (v := 12) hx hb d_Pl_layOut_76 (by decide) ?_
          refine lv_iadd hx hb d_Pl_layOut_78 ?_
          exact hB_79 _ hr_46 y_2 y_3 (y_2 + 12) S _ _ _ h hP hD hS (lv_sub hl [0, 1, 2] rfl)
        · have h := lf_t h c_9
          refine lv_aload_n hx hb d_Pl_layOut_58 rfl (lv_at hl 0 rfl) ?_
          refine va_get (D := (dC, dI)) (ci := 9) (v := .ref M.o_Tb) (C := R_Pl) (T := F_Pl) (N := 17) hx hb hts (fun w h => u_Vq_Pl w (i_Pl w h)) hown hK hP 7 rfl rfl 1 (by decide) (hts _ (u_Vq_Pl _ k_Pl_12)) (fun _ h9 => h9) rfl d_Pl_layOut_59 ?_
          refine va_get (D := (dC, dI)) (ci := 4) (v := .int S.v_Tb_start) (C := R_Tb) (T := F_Tb) (N := 10) hx hb hts (fun w h => u_Vq_Tb w (i_Tb w h)) hown hK hP 3 rfl rfl 6 (by decide) (hts _ (u_Vq_Pl _ k_Pl_3)) (fun _ h9 => h9) rfl d_Pl_layOut_62 ?_
          refine lv_iconst (v := 2) hx hb d_Pl_layOut_65 (by decide) ?_
          refine lv_idiv hx hb d_Pl_layOut_66 (by decide) ?_
          refine lv_iload_n hx hb d_Pl_layOut_67 rfl (lv_at hl 1 rfl) ?_
          refine lv_iadd hx hb d_Pl_layOut_68 ?_
          refine lv_bipush (v := 9) hx hb d_Pl_layOut_69 (by decide) ?_
          refine lv_iadd hx hb d_Pl_layOut_71 ?_
          refine lv_goto (tgt := 79) hx hb d_Pl_layOut_72 (by decide) ?_
          exact hB_79 _ hr_46 y_2 y_3 (((S.v_Tb_start / 2) + y_2) + 9) S _ _ _ h hP hD hS (lv_sub hl [0, 1, 2] rfl)
  have hB_23 : ∀ (k : Nat), ∀ (y_2 : Int32) (y_3 : Int32) (S : CS) (H : Heap) (locs : List Loc) (ls : Array Slot), f_Pl_layOut_23 K G k y_2 y_3 S = some (r, S') → va_P (dC, dI) classes (wV M Y G S) H → va_D A (wV M Y G S) → va_S A s.heap H locs → lv_has ls 5 [(0, .ref M.o_Pl), (2, .int y_2), (3, .int y_3)] → W p l e ({ frames := 2, cells := 0, slots := 0, locals := 61 }) s m ([.ref M.o_Pl, .int p0] : List Value).toArray below meth c H locs 0 0 Q (F0 m 23 ls []) := by
    intro k
    induction k with
    | zero => intro y_2 y_3 S H locs ls h; exact lf_no h
    | succ k hr_23 =>
      intro y_2 y_3 S H locs ls h hP hD hS hl
      rw [f_Pl_layOut_23] at h
      refine lv_iload_n hx hb d_Pl_layOut_23 rfl (lv_at hl 2 rfl) ?_
      refine lv_aload_n hx hb d_Pl_layOut_24 rfl (lv_at hl 0 rfl) ?_
      refine va_get (D := (dC, dI)) (ci := 9) (v := .int S.v_Pl_blocks) (C := R_Pl) (T := F_Pl) (N := 17) hx hb hts (fun w h => u_Vq_Pl w (i_Pl w h)) hown hK hP 7 rfl rfl 3 (by decide) (hts _ (u_Vq_Pl _ k_Pl_14)) (fun _ h9 => h9) rfl d_Pl_layOut_25 ?_
      refine lv_icmp_ge (tgt := 44) hx hb d_Pl_layOut_28 (by decide) (fun c_4 => ?_) (fun c_4 => ?_)
      · have h := lf_t h c_4
        refine lv_iconst (v := 0) hx hb d_Pl_layOut_44 (by decide) ?_
        refine lv_istore_n (lv' := [(3, .int 0), (0, .ref M.o_Pl), (2, .int y_2)]) hx hb d_Pl_layOut_45 rfl hl (by decide) rfl (fun ls hl => ?_)
        exact hB_46 K y_2 0 S _ _ _ h hP hD hS (lv_sub hl [1, 2, 0] rfl)
      · have h := lf_f h c_4
        refine lv_aload_n hx hb d_Pl_layOut_31 rfl (lv_at hl 0 rfl) ?_
        refine va_get (D := (dC, dI)) (ci := 9) (v := .ref M.a_Pl_fixed) (C := R_Pl) (T := F_Pl) (N := 17) hx hb hts (fun w h => u_Vq_Pl w (i_Pl w h)) hown hK hP 7 rfl rfl 4 (by decide) (hts _ (u_Vq_Pl _ k_Pl_15)) (fun _ h9 => h9) rfl d_Pl_layOut_32 ?_
        refine lv_iload_n hx hb d_Pl_layOut_35 rfl (lv_at hl 2 rfl) ?_
        refine lv_iconst (v := 0) hx hb d_Pl_layOut_36 (by decide) ?_
        obtain ⟨g_5, h⟩ := lf_gE h
        refine va_zast hx hb hK hP hD hS 39 1 rfl rfl g_5 d_Pl_layOut_37 (fun H locs hP hD hS => ?_)
        obtain ⟨S_6, eS_6, h⟩ := lf_lX h
        have hP := ly_newP eS_6 hP
        have hD := ly_newD eS_6 hD
        obtain ⟨x_7, ex_7, h⟩ := lf_lX h
        refine lv_iinc (v := x_7) (lv' := [(3, .int x_7), (0, .ref M.o_Pl), (2, .int y_2)]) hx hb d_Pl_layOut_38 hl (k := 2) rfl (by rw [ex_7]; rfl) (by decide) rfl (fun ls hl => ?_)
        refine lv_goto (tgt := 23) hx hb d_Pl_layOut_41 (by decide) ?_
        exact hr_23 y_2 x_7 S_6 _ _ _ h hP hD hS (lv_sub hl [1, 2, 0] rfl)
  rw [f_Pl_layOut] at h
  refine lv_iload_n hx hb d_Pl_layOut_0 rfl (lv_at hl 1 rfl) ?_
  refine lv_bipush (v := 8) hx hb d_Pl_layOut_1 (by decide) ?_
  refine lv_icmp_ge (tgt := 8) hx hb d_Pl_layOut_3 (by decide) (fun c_1 => ?_) (fun c_1 => ?_)
  · have h := lf_t h c_1
    refine lv_aload_n hx hb d_Pl_layOut_8 rfl (lv_at hl 0 rfl) ?_
    refine lv_iload_n hx hb d_Pl_layOut_9 rfl (lv_at hl 1 rfl) ?_
    refine va_put (D := (dC, dI)) (ci := 9) (v := .int p0) (ty := .int) (C := R_Pl) (T := F_Pl) (N := 17) hx hb hts (fun w h => u_Vq_Pl w (i_Pl w h)) t_Pl t_Pl_ok n_Pl hown hK hP hD hS 7 rfl rfl 13 (by decide) (hts _ (u_Vq_Pl _ k_Pl_24)) (fun _ h9 => h9) rfl (by decide +kernel) rfl rfl (Nat.le_of_ble_eq_true rfl) d_Pl_layOut_10 (fun H locs hP hD hS => ?_)
    obtain ⟨S_2, eS_2, h⟩ := lf_lX h
    have hP := ly_newP eS_2 hP
    have hD := ly_newD eS_2 hD
    refine lv_aload_n hx hb d_Pl_layOut_13 rfl (lv_at hl 0 rfl) ?_
    refine va_get (D := (dC, dI)) (ci := 9) (v := .int S_2.v_Pl_inodes) (C := R_Pl) (T := F_Pl) (N := 17) hx hb hts (fun w h => u_Vq_Pl w (i_Pl w h)) hown hK hP 7 rfl rfl 13 (by decide) (hts _ (u_Vq_Pl _ k_Pl_24)) (fun _ h9 => h9) rfl d_Pl_layOut_14 ?_
    refine lv_bipush (v := 8) hx hb d_Pl_layOut_17 (by decide) ?_
    refine lv_idiv hx hb d_Pl_layOut_19 (by decide) ?_
    refine lv_topi (fun x_3 ex_3 => ?_)
    have h := lf_lE h ex_3
    refine lv_istore_n (lv' := [(2, .int x_3), (0, .ref M.o_Pl), (1, .int p0)]) hx hb d_Pl_layOut_20 rfl hl (by decide) rfl (fun ls hl => ?_)
    refine lv_iconst (v := 0) hx hb d_Pl_layOut_21 (by decide) ?_
    refine lv_istore_n (lv' := [(3, .int 0), (2, .int x_3), (0, .ref M.o_Pl), (1, .int p0)]) hx hb d_Pl_layOut_22 rfl hl (by decide) rfl (fun ls hl => ?_)
    exact hB_23 K x_3 0 S_2 _ _ _ h hP hD hS (lv_sub hl [2, 1, 0] rfl)
  · have h := lf_f h c_1
    refine lv_iconst (v := 0) hx hb d_Pl_layOut_6 (by decide) ?_
    rw [hQ]
    have e1 : (0 : Int32) = r := congrArg Prod.fst (Option.some.inj h)
    have e2 : S = S' := congrArg Prod.snd (Option.some.inj h)
    have hP := ly_newP e2.symm hP
    have hD := ly_newD e2.symm hD
    exact W.zret (v := 0) hx hb hr rfl (fun t ht hW => ⟨⟨0, (), rfl, e1, by rw [ht]; exact hP, va_K.moved hW.alike hK, hD⟩, hS.F ht⟩) hS.2.2 d_Pl_layOut_7
set_option maxHeartbeats 4000000 in
set_option maxRecDepth 100000 in
theorem l_Pl_namesFit (l : Launch) (dC : Nat → ClassId) (dI : Nat → Nat → Nat) {K : Nat} {M : CA} {E : (Nat → Prop) → State → Prop} (X : ly_X l dC dI K M E) (sz : Nat) {Y : CT} {G : CG} {S S' : CS} {r : Int32} (h : f_Pl_namesFit K G S = some (r, S')) : Met l y_Pl_namesFit (.code y_Pl_namesFit cb_Pl_namesFit 3 (some .boolean) :: V_Vq) ({ frames := 8, cells := 0, slots := 0, locals := 243 }) (va_Pc [.ref M.o_Pl] (fun U => U.heap.size = sz ∧ at_ (dC, dI) (fun _ => True) (wV M Y G S) (tV M) U ∧ E (va_A (wV M Y G S) sz) U)) (va_Qi (fun (r_ : Int32) (u : Unit) => r_ = r) (fun (u : Unit) t => at_ (dC, dI) (va_A (wV M Y G S) sz) (wV M Y G S') (tV M) t) (va_A (wV M Y G S) sz)) 0 0 (va_A (wV M Y G S) sz) := by
  refine Met.ofW (cc := cb_Pl_namesFit) (maxL := 3) (ret := (some .boolean)) (by decide) rfl ?_
  intro p e s m args below meth c s₁ B hml hv
  obtain ⟨rfl, hsz, ⟨hP, hK, hD0⟩, hE⟩ := hv
  have hx := B.exec
  have hb := B.bytes
  have hr := B.returns
  have hts0 := atoms_spec (ws := .code y_Pl_namesFit cb_Pl_namesFit 3 (some .boolean) :: V_Vq) B.pre
  have hts : ∀ w ∈ V_Vq, w.before ([.ref M.o_Pl] : List Value).toArray s = true := fun w h => hts0 w (List.mem_cons_of_mem _ h)
  have hown : s.vm.findClass R_Pl = some m.cls := findClass_of_methodNamed B.named
  subst hsz
  have hD := hD0.self (sz := s.heap.size)
  generalize hAe : va_A (wV M Y G S) s.heap.size = A at hD hE ⊢
  have hA : ∀ q : Nat, s.heap.size ≤ q → A q := fun q h => by rw [← hAe]; exact Or.inr h
  have hS : va_S A s.heap s.heap [] := va_S.rf
  have hP : va_P (dC, dI) classes (wV M Y G S) s.heap := hP
  have hK : va_K (dC, dI) classes (tV M) s := hK
  have hEw : ∀ (H : Heap) (locs : List Loc), va_S A s.heap H locs → ∀ U : State, U.heap = H → s.WarmedH U.vm → E A U := fun H locs hS U hU hW => X.kept A s U H locs hE hS hU hW
  have hl := lv_entry ([.ref M.o_Pl]) (n := 3) (Nat.le_of_ble_eq_true rfl)
  rw [lg_entry_eq]
  generalize (lg_sl ([.ref M.o_Pl]) ++ List.replicate (3 - (lg_sl ([.ref M.o_Pl])).length) Slot.unset).toArray = ls at hl ⊢
  have hl : lv_has ls 3 [(0, .ref M.o_Pl)] := hl
  refine qabs (fun Q hQ => ?_)
  have hB_59 : ∀ (S : CS) (H : Heap) (locs : List Loc) (ls : Array Slot), f_Pl_namesFit_59 K G S = some (r, S') → va_P (dC, dI) classes (wV M Y G S) H → va_D A (wV M Y G S) → va_S A s.heap H locs → lv_has ls 3 [] → W p l e ({ frames := 8, cells := 0, slots := 0, locals := 243 }) s m ([.ref M.o_Pl] : List Value).toArray below meth c H locs 0 0 Q (F0 m 59 ls []) := by
    intro S H locs ls h hP hD hS hl
    rw [f_Pl_namesFit_59] at h
    refine lv_iconst (v := 0) hx hb d_Pl_namesFit_59 (by decide) ?_
    rw [hQ]
    have e1 : (0 : Int32) = r := congrArg Prod.fst (Option.some.inj h)
    have e2 : S = S' := congrArg Prod.snd (Option.some.inj h)
    have hP := ly_newP e2.symm hP
    have hD := ly_newD e2.symm hD
    exact W.zret (v := 0) hx hb hr rfl (fun t ht hW => ⟨⟨0, (), rfl, e1, by rw [ht]; exact hP, va_K.moved hW.alike hK, hD⟩, hS.F ht⟩) hS.2.2 d_Pl_namesFit_60
  have hB_61 : ∀ (rec_2 : Int32 → CS → Option (Int32 × CS)) (hr_2 : ∀ (y_1 : Int32) (S : CS) (H : Heap) (locs : List Loc) (ls : Array Slot), rec_2 y_1 S = some (r, S') → va_P (dC, dI) classes (wV M Y G S) H → va_D A (wV M Y G S) → va_S A s.heap H locs → lv_has ls 3 [(0, .ref M.o_Pl), (1, .int y_1)] → W p l e ({ frames := 8, cells := 0, slots := 0, locals := 243 }) s m ([.ref M.o_Pl] : List Value).toArray below meth c H locs 0 0 Q (F0 m 2 ls [])), ∀ (y_1 : Int32) (S : CS) (H : Heap) (locs : List Loc) (ls : Array Slot), f_Pl_namesFit_61 K G rec_2 y_1 S = some (r, S') → va_P (dC, dI) classes (wV M Y G S) H → va_D A (wV M Y G S) → va_S A s.heap H locs → lv_has ls 3 [(0, .ref M.o_Pl), (1, .int y_1)] → W p l e ({ frames := 8, cells := 0, slots := 0, locals := 243 }) s m ([.ref M.o_Pl] : List Value).toArray below meth c H locs 0 0 Q (F0 m 61 ls []) := by
    intro rec_2 hr_2 y_1 S H locs ls h hP hD hS hl
    rw [f_Pl_namesFit_61] at h
    obtain ⟨x_9, ex_9, h⟩ := lf_lX h
    refine lv_iinc (v := x_9) (lv' := [(1, .int x_9), (0, .ref M.o_Pl)]) hx hb d_Pl_namesFit_61 hl (k := 1) rfl (by rw [ex_9]; rfl) (by decide) rfl (fun ls hl => ?_)
    refine lv_goto (tgt := 2) hx hb d_Pl_namesFit_64 (by decide) ?_
    exact hr_2 x_9 S _ _ _ h hP hD hS (lv_sub hl [1, 0] rfl)
  have hB_29 : ∀ (rec_2 : Int32 → CS → Option (Int32 × CS)) (hr_2 : ∀ (y_1 : Int32) (S : CS) (H : Heap) (locs : List Loc) (ls : Array Slot), rec_2 y_1 S = some (r, S') → va_P (dC, dI) classes (wV M Y G S) H → va_D A (wV M Y G S) → va_S A s.heap H locs → lv_has ls 3 [(0, .ref M.o_Pl), (1, .int y_1)] → W p l e ({ frames := 8, cells := 0, slots := 0, locals := 243 }) s m ([.ref M.o_Pl] : List Value).toArray below meth c H locs 0 0 Q (F0 m 2 ls [])), ∀ (y_1 : Int32) (z_0 : Int32) (S : CS) (H : Heap) (locs : List Loc) (ls : Array Slot), f_Pl_namesFit_29 K G rec_2 y_1 z_0 S = some (r, S') → va_P (dC, dI) classes (wV M Y G S) H → va_D A (wV M Y G S) → va_S A s.heap H locs → lv_has ls 3 [(0, .ref M.o_Pl), (1, .int y_1)] → W p l e ({ frames := 8, cells := 0, slots := 0, locals := 243 }) s m ([.ref M.o_Pl] : List Value).toArray below meth c H locs 0 0 Q (F0 m 29 ls [.int z_0]) := by
    intro rec_2 hr_2 y_1 z_0 S H locs ls h hP hD hS hl
    rw [f_Pl_namesFit_29] at h
    refine lv_istore_n (lv' := [(2, .int z_0), (0, .ref M.o_Pl), (1, .int y_1)]) hx hb d_Pl_namesFit_29 rfl hl (by decide) rfl (fun ls hl => ?_)
    refine lv_aload_n hx hb d_Pl_namesFit_30 rfl (lv_at hl 1 rfl) ?_
    refine va_get (D := (dC, dI)) (ci := 9) (v := .ref M.o_Tr) (C := R_Pl) (T := F_Pl) (N := 17) hx hb hts (fun w h => u_Vq_Pl w (i_Pl w h)) hown hK hP 7 rfl rfl 2 (by decide) (hts _ (u_Vq_Pl _ k_Pl_13)) (fun _ h9 => h9) rfl d_Pl_namesFit_31 ?_
    refine lv_iload_n hx hb d_Pl_namesFit_34 rfl (lv_at hl 2 rfl) ?_
    obtain ⟨r_4, S_4, hc_4, h⟩ := lf_cE h
    have hFc := lx_free hD hS hA
    refine va_calli (va_runV (As := [.int y_1]) (rest := []) ⟨hx, hb, hml, hown, hts⟩ (l_Tr_nameSize l dC dI X _ hc_4) (cwV 1 hts (gwV good_Vq (u_Vq_Pl _ k_Pl_60) (u_Vq_Tr _ k_Tr_74) (u_Vq_Tr _ k_Tr_75) (u_Vq_Tr _ k_Tr_0) (wcs (u_Vq_Tr _ k_Tr_76) (fun _ h => h))) rfl rfl rfl (by decide +kernel) ⟨Nat.le_of_ble_eq_true rfl, Nat.le_of_ble_eq_true rfl⟩) (pv_ofE (X.same _) (fun U z1 z2 => X.mono _ _ U hFc (hEw _ _ hS U z1 z2)) hP hK hD (va_recv hK hP (ci := 5) (q0 := 4) rfl rfl)) rfl rfl hl.1 rfl (lv_room (Nat.le_of_ble_eq_true rfl)) d_Pl_namesFit_35 ⟨by decide, by decide⟩) hS (fun q _ h => hFc q h) hFc (fun r_ u t H locs ht hvm hw hB hz1 hk1 hS => ?_)
    rw [hw]
    obtain ⟨hP, -, hD⟩ := hB
    rw [ht] at hP
    have hD := lx_dj hD hFc
    refine lv_sipush (v := 255) hx hb d_Pl_namesFit_38 (by decide) ?_
    refine lv_icmp_gt (tgt := 59) hx hb d_Pl_namesFit_41 (by decide) (fun c_5 => ?_) (fun c_5 => ?_)
    · have h := lf_t h c_5
      exact hB_59 S_4 _ _ _ h hP hD hS (lv_sub hl [] rfl)
    · have h := lf_f h c_5
      refine lv_iload_n hx hb d_Pl_namesFit_44 rfl (lv_at hl 0 rfl) ?_
      refine lv_if_eq (tgt := 61) hx hb d_Pl_namesFit_45 (by decide) (fun c_6 => ?_) (fun c_6 => ?_)
      · have h := lf_t h c_6
        exact hB_61 _ hr_2 y_1 S_4 _ _ _ h hP hD hS (lv_sub hl [1, 2] rfl)
      · have h := lf_f h c_6
        refine lv_aload_n hx hb d_Pl_namesFit_48 rfl (lv_at hl 1 rfl) ?_
        refine va_get (D := (dC, dI)) (ci := 9) (v := .ref M.o_Tr) (C := R_Pl) (T := F_Pl) (N := 17) hx hb hts (fun w h => u_Vq_Pl w (i_Pl w h)) hown hK hP 7 rfl rfl 2 (by decide) (hts _ (u_Vq_Pl _ k_Pl_13)) (fun _ h9 => h9) rfl d_Pl_namesFit_49 ?_
        refine lv_iload_n hx hb d_Pl_namesFit_52 rfl (lv_at hl 2 rfl) ?_
        obtain ⟨r_7, S_7, hc_7, h⟩ := lf_cE h
        have hFc := lx_free hD hS hA
        refine va_calli (va_runV (As := [.int y_1]) (rest := []) ⟨hx, hb, hml, hown, hts⟩ (l_Tr_isNamedAsRecord l dC dI X _ hc_7) (cwV 1 hts (gwV good_Vq (u_Vq_Pl _ k_Pl_61) (u_Vq_Tr _ k_Tr_77) (u_Vq_Tr _ k_Tr_78) (u_Vq_Tr _ k_Tr_0) (wcs (u_Vq_Tr _ k_Tr_79) (fun _ h => h))) rfl rfl rfl (by decide +kernel) ⟨Nat.le_of_ble_eq_true rfl, Nat.le_of_ble_eq_true rfl⟩) (pv_ofE (X.same _) (fun U z1 z2 => X.mono _ _ U hFc (hEw _ _ hS U z1 z2)) hP hK hD (va_recv hK hP (ci := 5) (q0 := 4) rfl rfl)) rfl rfl hl.1 rfl (lv_room (Nat.le_of_ble_eq_true rfl)) d_Pl_namesFit_53 ⟨by decide, by decide⟩) hS (fun q _ h => hFc q h) hFc (fun r_ u t H locs ht hvm hw hB hz1 hk1 hS => ?_)
        rw [hw]
        obtain ⟨hP, -, hD⟩ := hB
        rw [ht] at hP
        have hD := lx_dj hD hFc
        refine lv_if_eq (tgt := 61) hx hb d_Pl_namesFit_56 (by decide) (fun c_8 => ?_) (fun c_8 => ?_)
        · have h := lf_t h c_8
          exact hB_61 _ hr_2 y_1 S_7 _ _ _ h hP hD hS (lv_sub hl [1, 2] rfl)
        · have h := lf_f h c_8
          exact hB_59 S_7 _ _ _ h hP hD hS (lv_sub hl [] rfl)
  have hB_2 : ∀ (k : Nat), ∀ (y_1 : Int32) (S : CS) (H : Heap) (locs : List Loc) (ls : Array Slot), f_Pl_namesFit_2 K G k y_1 S = some (r, S') → va_P (dC, dI) classes (wV M Y G S) H → va_D A (wV M Y G S) → va_S A s.heap H locs → lv_has ls 3 [(0, .ref M.o_Pl), (1, .int y_1)] → W p l e ({ frames := 8, cells := 0, slots := 0, locals := 243 }) s m ([.ref M.o_Pl] : List Value).toArray below meth c H locs 0 0 Q (F0 m 2 ls []) := by
    intro k
    induction k with
    | zero => intro y_1 S H locs ls h; exact lf_no h
    | succ k hr_2 =>
      intro y_1 S H locs ls h hP hD hS hl
      rw [f_Pl_namesFit_2] at h
      refine lv_iload_n hx hb d_Pl_namesFit_2 rfl (lv_at hl 1 rfl) ?_
      refine lv_aload_n hx hb d_Pl_namesFit_3 rfl (lv_at hl 0 rfl) ?_
      refine va_get (D := (dC, dI)) (ci := 9) (v := .ref M.o_Tr) (C := R_Pl) (T := F_Pl) (N := 17) hx hb hts (fun w h => u_Vq_Pl w (i_Pl w h)) hown hK hP 7 rfl rfl 2 (by decide) (hts _ (u_Vq_Pl _ k_Pl_13)) (fun _ h9 => h9) rfl d_Pl_namesFit_4 ?_
      refine va_get (D := (dC, dI)) (ci := 5) (v := .int S.v_Tr_count) (C := R_Tr) (T := F_Tr) (N := 18) hx hb hts (fun w h => u_Vq_Tr w (i_Tr w h)) hown hK hP 4 rfl rfl 0 (by decide) (hts _ (u_Vq_Pl _ k_Pl_5)) (fun _ h9 => h9) rfl d_Pl_namesFit_7 ?_
      refine lv_icmp_ge (tgt := 67) hx hb d_Pl_namesFit_10 (by decide) (fun c_1 => ?_) (fun c_1 => ?_)
      · have h := lf_t h c_1
        refine lv_iconst (v := 1) hx hb d_Pl_namesFit_67 (by decide) ?_
        rw [hQ]
        have e1 : (1 : Int32) = r := congrArg Prod.fst (Option.some.inj h)
        have e2 : S = S' := congrArg Prod.snd (Option.some.inj h)
        have hP := ly_newP e2.symm hP
        have hD := ly_newD e2.symm hD
        exact W.zret (v := 1) hx hb hr rfl (fun t ht hW => ⟨⟨1, (), rfl, e1, by rw [ht]; exact hP, va_K.moved hW.alike hK, hD⟩, hS.F ht⟩) hS.2.2 d_Pl_namesFit_68
      · have h := lf_f h c_1
        refine lv_aload_n hx hb d_Pl_namesFit_13 rfl (lv_at hl 0 rfl) ?_
        refine va_get (D := (dC, dI)) (ci := 9) (v := .ref M.o_Tr) (C := R_Pl) (T := F_Pl) (N := 17) hx hb hts (fun w h => u_Vq_Pl w (i_Pl w h)) hown hK hP 7 rfl rfl 2 (by decide) (hts _ (u_Vq_Pl _ k_Pl_13)) (fun _ h9 => h9) rfl d_Pl_namesFit_14 ?_
        refine lv_iload_n hx hb d_Pl_namesFit_17 rfl (lv_at hl 1 rfl) ?_
        obtain ⟨r_2, S_2, hc_2, h⟩ := lf_cE h
        have hFc := lx_free hD hS hA
        refine va_calli (va_runV (As := [.int y_1]) (rest := []) ⟨hx, hb, hml, hown, hts⟩ (l_Tr_parentOf l dC dI X _ hc_2) (cwV 1 hts (gwV good_Vq (u_Vq_Pl _ k_Pl_59) (u_Vq_Tr _ k_Tr_51) (u_Vq_Tr _ k_Tr_52) (u_Vq_Tr _ k_Tr_0) (wcs (u_Vq_Tr _ k_Tr_53) (fun _ h => h))) rfl rfl rfl (by decide +kernel) ⟨Nat.le_of_ble_eq_true rfl, Nat.le_of_ble_eq_true rfl⟩) (pv_ofE (X.same _) (fun U z1 z2 => X.mono _ _ U hFc (hEw _ _ hS U z1 z2)) hP hK hD (va_recv hK hP (ci := 5) (q0 := 4) rfl rfl)) rfl rfl hl.1 rfl (lv_room (Nat.le_of_ble_eq_true rfl)) d_Pl_namesFit_18 ⟨by decide, by decide⟩) hS (fun q _ h => hFc q h) hFc (fun r_ u t H locs ht hvm hw hB hz1 hk1 hS => ?_)
        rw [hw]
        obtain ⟨hP, -, hD⟩ := hB
        rw [ht] at hP
        have hD := lx_dj hD hFc
        refine lv_if_ne (tgt := 28) hx hb d_Pl_namesFit_21 (by decide) (fun c_3 => ?_) (fun c_3 => ?_)
        · have h := lf_f h c_3
          refine lv_iconst (v := 0) hx hb d_Pl_namesFit_28 (by decide) ?_
          exact hB_29 _ hr_2 y_1 0 S_2 _ _ _ h hP hD hS (lv_sub hl [0, 1] rfl)
        · have h := lf_t h c_3
          refine lv_iconst (v := 1) hx hb d_Pl_namesFit_24 (by decide) ?_
          refine lv_goto (tgt := 29) hx hb d_Pl_namesFit_25 (by decide) ?_
          exact hB_29 _ hr_2 y_1 1 S_2 _ _ _ h hP hD hS (lv_sub hl [0, 1] rfl)
  rw [f_Pl_namesFit] at h
  refine lv_iconst (v := 1) hx hb d_Pl_namesFit_0 (by decide) ?_
  refine lv_istore_n (lv' := [(1, .int 1), (0, .ref M.o_Pl)]) hx hb d_Pl_namesFit_1 rfl hl (by decide) rfl (fun ls hl => ?_)
  exact hB_2 K 1 S _ _ _ h hP hD hS (lv_sub hl [1, 0] rfl)
set_option maxHeartbeats 4000000 in
set_option maxRecDepth 100000 in
theorem l_Pl_timesFit (l : Launch) (dC : Nat → ClassId) (dI : Nat → Nat → Nat) {K : Nat} {M : CA} {E : (Nat → Prop) → State → Prop} (X : ly_X l dC dI K M E) (sz : Nat) {Y : CT} {G : CG} {S S' : CS} {r : Int32} (h : f_Pl_timesFit K G S = some (r, S')) : Met l y_Pl_timesFit (.code y_Pl_timesFit cb_Pl_timesFit 3 (some .boolean) :: V_Vq) ({ frames := 2, cells := 0, slots := 0, locals := 49 }) (va_Pc [.ref M.o_Pl] (fun U => U.heap.size = sz ∧ at_ (dC, dI) (fun _ => True) (wV M Y G S) (tV M) U ∧ E (va_A (wV M Y G S) sz) U)) (va_Qi (fun (r_ : Int32) (u : Unit) => r_ = r) (fun (u : Unit) t => at_ (dC, dI) (va_A (wV M Y G S) sz) (wV M Y G S') (tV M) t) (va_A (wV M Y G S) sz)) 0 0 (va_A (wV M Y G S) sz) := by
  refine Met.ofW (cc := cb_Pl_timesFit) (maxL := 3) (ret := (some .boolean)) (by decide) rfl ?_
  intro p e s m args below meth c s₁ B hml hv
  obtain ⟨rfl, hsz, ⟨hP, hK, hD0⟩, hE⟩ := hv
  have hx := B.exec
  have hb := B.bytes
  have hr := B.returns
  have hts0 := atoms_spec (ws := .code y_Pl_timesFit cb_Pl_timesFit 3 (some .boolean) :: V_Vq) B.pre
  have hts : ∀ w ∈ V_Vq, w.before ([.ref M.o_Pl] : List Value).toArray s = true := fun w h => hts0 w (List.mem_cons_of_mem _ h)
  have hown : s.vm.findClass R_Pl = some m.cls := findClass_of_methodNamed B.named
  subst hsz
  have hD := hD0.self (sz := s.heap.size)
  generalize hAe : va_A (wV M Y G S) s.heap.size = A at hD hE ⊢
  have hA : ∀ q : Nat, s.heap.size ≤ q → A q := fun q h => by rw [← hAe]; exact Or.inr h
  have hS : va_S A s.heap s.heap [] := va_S.rf
  have hP : va_P (dC, dI) classes (wV M Y G S) s.heap := hP
  have hK : va_K (dC, dI) classes (tV M) s := hK
  have hEw : ∀ (H : Heap) (locs : List Loc), va_S A s.heap H locs → ∀ U : State, U.heap = H → s.WarmedH U.vm → E A U := fun H locs hS U hU hW => X.kept A s U H locs hE hS hU hW
  have hl := lv_entry ([.ref M.o_Pl]) (n := 3) (Nat.le_of_ble_eq_true rfl)
  rw [lg_entry_eq]
  generalize (lg_sl ([.ref M.o_Pl]) ++ List.replicate (3 - (lg_sl ([.ref M.o_Pl])).length) Slot.unset).toArray = ls at hl ⊢
  have hl : lv_has ls 3 [(0, .ref M.o_Pl)] := hl
  refine qabs (fun Q hQ => ?_)
  have hB_15 : ∀ (rec_2 : Int32 → CS → Option (Int32 × CS)) (hr_2 : ∀ (y_1 : Int32) (S : CS) (H : Heap) (locs : List Loc) (ls : Array Slot), rec_2 y_1 S = some (r, S') → va_P (dC, dI) classes (wV M Y G S) H → va_D A (wV M Y G S) → va_S A s.heap H locs → lv_has ls 3 [(0, .ref M.o_Pl), (1, .int y_1)] → W p l e ({ frames := 2, cells := 0, slots := 0, locals := 49 }) s m ([.ref M.o_Pl] : List Value).toArray below meth c H locs 0 0 Q (F0 m 2 ls [])) (k : Nat), ∀ (y_1 : Int32) (y_2 : Int32) (S : CS) (H : Heap) (locs : List Loc) (ls : Array Slot), f_Pl_timesFit_15 K G rec_2 k y_1 y_2 S = some (r, S') → va_P (dC, dI) classes (wV M Y G S) H → va_D A (wV M Y G S) → va_S A s.heap H locs → lv_has ls 3 [(0, .ref M.o_Pl), (1, .int y_1), (2, .int y_2)] → W p l e ({ frames := 2, cells := 0, slots := 0, locals := 49 }) s m ([.ref M.o_Pl] : List Value).toArray below meth c H locs 0 0 Q (F0 m 15 ls []) := by
    intro rec_2 hr_2 k
    induction k with
    | zero => intro y_1 y_2 S H locs ls h; exact lf_no h
    | succ k hr_15 =>
      intro y_1 y_2 S H locs ls h hP hD hS hl
      rw [f_Pl_timesFit_15] at h
      refine lv_iload_n hx hb d_Pl_timesFit_15 rfl (lv_at hl 2 rfl) ?_
      refine lv_iconst (v := 4) hx hb d_Pl_timesFit_16 (by decide) ?_
      refine lv_icmp_gt (tgt := 51) hx hb d_Pl_timesFit_17 (by decide) (fun c_2 => ?_) (fun c_2 => ?_)
      · have h := lf_t h c_2
        obtain ⟨x_3, ex_3, h⟩ := lf_lX h
        refine lv_iinc (v := x_3) (lv' := [(1, .int x_3), (0, .ref M.o_Pl), (2, .int y_2)]) hx hb d_Pl_timesFit_51 hl (k := 1) rfl (by rw [ex_3]; rfl) (by decide) rfl (fun ls hl => ?_)
        refine lv_goto (tgt := 2) hx hb d_Pl_timesFit_54 (by decide) ?_
        exact hr_2 x_3 S _ _ _ h hP hD hS (lv_sub hl [1, 0] rfl)
      · have h := lf_f h c_2
        refine lv_aload_n hx hb d_Pl_timesFit_20 rfl (lv_at hl 0 rfl) ?_
        refine va_get (D := (dC, dI)) (ci := 9) (v := .ref M.o_Dk) (C := R_Pl) (T := F_Pl) (N := 17) hx hb hts (fun w h => u_Vq_Pl w (i_Pl w h)) hown hK hP 7 rfl rfl 0 (by decide) (hts _ (u_Vq_Pl _ k_Pl_11)) (fun _ h9 => h9) rfl d_Pl_timesFit_21 ?_
        refine lv_aload_n hx hb d_Pl_timesFit_24 rfl (lv_at hl 0 rfl) ?_
        refine va_get (D := (dC, dI)) (ci := 9) (v := .ref M.o_Tr) (C := R_Pl) (T := F_Pl) (N := 17) hx hb hts (fun w h => u_Vq_Pl w (i_Pl w h)) hown hK hP 7 rfl rfl 2 (by decide) (hts _ (u_Vq_Pl _ k_Pl_13)) (fun _ h9 => h9) rfl d_Pl_timesFit_25 ?_
        refine lv_iload_n hx hb d_Pl_timesFit_28 rfl (lv_at hl 1 rfl) ?_
        obtain ⟨r_4, S_4, hc_4, h⟩ := lf_cE h
        have hFc := lx_free hD hS hA
        refine va_calli (va_runV (As := [.int y_1]) (rest := [.ref M.o_Dk]) ⟨hx, hb, hml, hown, hts⟩ (l_Tr_spotOf l dC dI X _ hc_4) (cwV 1 hts (gwV good_Vq (u_Vq_Pl _ k_Pl_65) (u_Vq_Tr _ k_Tr_57) (u_Vq_Tr _ k_Tr_58) (u_Vq_Tr _ k_Tr_0) (wcs (u_Vq_Tr _ k_Tr_59) (fun _ h => h))) rfl rfl rfl (by decide +kernel) ⟨Nat.le_of_ble_eq_true rfl, Nat.le_of_ble_eq_true rfl⟩) (pv_ofE (X.same _) (fun U z1 z2 => X.mono _ _ U hFc (hEw _ _ hS U z1 z2)) hP hK hD (va_recv hK hP (ci := 5) (q0 := 4) rfl rfl)) rfl rfl hl.1 rfl (lv_room (Nat.le_of_ble_eq_true rfl)) d_Pl_timesFit_29 ⟨by decide, by decide⟩) hS (fun q _ h => hFc q h) hFc (fun r_ u t H locs ht hvm hw hB hz1 hk1 hS => ?_)
        rw [hw]
        obtain ⟨hP, -, hD⟩ := hB
        rw [ht] at hP
        have hD := lx_dj hD hFc
        refine lv_iload_n hx hb d_Pl_timesFit_32 rfl (lv_at hl 2 rfl) ?_
        obtain ⟨r_5, S_5, hc_5, h⟩ := lf_cE h
        have hFc := lx_free hD hS hA
        refine va_calll (va_runS (As := [.ref M.o_Dk, .int r_4, .int y_2]) (rest := []) ⟨hx, hb, hml, hown, hts⟩ (l_Da_seconds l dC dI X _ hc_5) (va_cwS 3 hts (gwS good_Vq (u_Vq_Pl _ k_Pl_66) (u_Vq_Da _ k_Da_19) (u_Vq_Da _ k_Da_0) (wcs (u_Vq_Da _ k_Da_20) (fun _ h => h))) rfl rfl rfl (by decide +kernel) ⟨Nat.le_of_ble_eq_true rfl, Nat.le_of_ble_eq_true rfl⟩) (ps_ofE2 (X.same _) (fun U z1 z2 => X.mono _ _ U hFc (hEw _ _ hS U z1 z2)) hP hK hD) rfl rfl hl.1 rfl (lv_room (Nat.le_of_ble_eq_true rfl)) d_Pl_timesFit_33 ⟨by decide, by decide⟩) hS (fun q _ h => hFc q h) hFc (fun r_ u t H locs ht hvm hw hB hz1 hk1 hS => ?_)
        rw [hw]
        obtain ⟨hP, -, hD⟩ := hB
        rw [ht] at hP
        have hD := lx_dj hD hFc
        refine lv_ldc2 (v := 4294967295) hx hb hown (hts _ (u_Vq_Pl _ k_Pl_67)) d_Pl_timesFit_36 ?_
        refine W.lcmp hx hb d_Pl_timesFit_39 ?_
        refine lv_if_le (tgt := 45) hx hb d_Pl_timesFit_40 (by decide) (fun c_6 => ?_) (fun c_6 => ?_)
        · have h := lf_t h c_6
          obtain ⟨x_7, ex_7, h⟩ := lf_lX h
          refine lv_iinc (v := x_7) (lv' := [(2, .int x_7), (0, .ref M.o_Pl), (1, .int y_1)]) hx hb d_Pl_timesFit_45 hl (k := 2) rfl (by rw [ex_7]; rfl) (by decide) rfl (fun ls hl => ?_)
          refine lv_goto (tgt := 15) hx hb d_Pl_timesFit_48 (by decide) ?_
          exact hr_15 y_1 x_7 S_5 _ _ _ h hP hD hS (lv_sub hl [1, 2, 0] rfl)
        · have h := lf_f h c_6
          refine lv_iconst (v := 0) hx hb d_Pl_timesFit_43 (by decide) ?_
          rw [hQ]
          have e1 : (0 : Int32) = r := congrArg Prod.fst (Option.some.inj h)
          have e2 : S_5 = S' := congrArg Prod.snd (Option.some.inj h)
          have hP := ly_newP e2.symm hP
          have hD := ly_newD e2.symm hD
          exact W.zret (v := 0) hx hb hr rfl (fun t ht hW => ⟨⟨0, (), rfl, e1, by rw [ht]; exact hP, va_K.moved hW.alike hK, hD⟩, hS.F ht⟩) hS.2.2 d_Pl_timesFit_44
  have hB_2 : ∀ (k : Nat), ∀ (y_1 : Int32) (S : CS) (H : Heap) (locs : List Loc) (ls : Array Slot), f_Pl_timesFit_2 K G k y_1 S = some (r, S') → va_P (dC, dI) classes (wV M Y G S) H → va_D A (wV M Y G S) → va_S A s.heap H locs → lv_has ls 3 [(0, .ref M.o_Pl), (1, .int y_1)] → W p l e ({ frames := 2, cells := 0, slots := 0, locals := 49 }) s m ([.ref M.o_Pl] : List Value).toArray below meth c H locs 0 0 Q (F0 m 2 ls []) := by
    intro k
    induction k with
    | zero => intro y_1 S H locs ls h; exact lf_no h
    | succ k hr_2 =>
      intro y_1 S H locs ls h hP hD hS hl
      rw [f_Pl_timesFit_2] at h
      refine lv_iload_n hx hb d_Pl_timesFit_2 rfl (lv_at hl 1 rfl) ?_
      refine lv_aload_n hx hb d_Pl_timesFit_3 rfl (lv_at hl 0 rfl) ?_
      refine va_get (D := (dC, dI)) (ci := 9) (v := .ref M.o_Tr) (C := R_Pl) (T := F_Pl) (N := 17) hx hb hts (fun w h => u_Vq_Pl w (i_Pl w h)) hown hK hP 7 rfl rfl 2 (by decide) (hts _ (u_Vq_Pl _ k_Pl_13)) (fun _ h9 => h9) rfl d_Pl_timesFit_4 ?_
      refine va_get (D := (dC, dI)) (ci := 5) (v := .int S.v_Tr_count) (C := R_Tr) (T := F_Tr) (N := 18) hx hb hts (fun w h => u_Vq_Tr w (i_Tr w h)) hown hK hP 4 rfl rfl 0 (by decide) (hts _ (u_Vq_Pl _ k_Pl_5)) (fun _ h9 => h9) rfl d_Pl_timesFit_7 ?_
      refine lv_icmp_ge (tgt := 57) hx hb d_Pl_timesFit_10 (by decide) (fun c_1 => ?_) (fun c_1 => ?_)
      · have h := lf_t h c_1
        refine lv_iconst (v := 1) hx hb d_Pl_timesFit_57 (by decide) ?_
        rw [hQ]
        have e1 : (1 : Int32) = r := congrArg Prod.fst (Option.some.inj h)
        have e2 : S = S' := congrArg Prod.snd (Option.some.inj h)
        have hP := ly_newP e2.symm hP
        have hD := ly_newD e2.symm hD
        exact W.zret (v := 1) hx hb hr rfl (fun t ht hW => ⟨⟨1, (), rfl, e1, by rw [ht]; exact hP, va_K.moved hW.alike hK, hD⟩, hS.F ht⟩) hS.2.2 d_Pl_timesFit_58
      · have h := lf_f h c_1
        refine lv_iconst (v := 2) hx hb d_Pl_timesFit_13 (by decide) ?_
        refine lv_istore_n (lv' := [(2, .int 2), (0, .ref M.o_Pl), (1, .int y_1)]) hx hb d_Pl_timesFit_14 rfl hl (by decide) rfl (fun ls hl => ?_)
        exact hB_15 _ hr_2 K y_1 2 S _ _ _ h hP hD hS (lv_sub hl [1, 2, 0] rfl)
  rw [f_Pl_timesFit] at h
  refine lv_iconst (v := 1) hx hb d_Pl_timesFit_0 (by decide) ?_
  refine lv_istore_n (lv' := [(1, .int 1), (0, .ref M.o_Pl)]) hx hb d_Pl_timesFit_1 rfl hl (by decide) rfl (fun ls hl => ?_)
  exact hB_2 K 1 S _ _ _ h hP hD hS (lv_sub hl [1, 0] rfl)
set_option maxHeartbeats 4000000 in
set_option maxRecDepth 100000 in
theorem l_Pl_blockOfCluster (l : Launch) (dC : Nat → ClassId) (dI : Nat → Nat → Nat) {K : Nat} {M : CA} {E : (Nat → Prop) → State → Prop} (X : ly_X l dC dI K M E) (sz : Nat) {Y : CT} {G : CG} {S S' : CS} {p0 : Int32} {r : Int32} (h : f_Pl_blockOfCluster K G S p0 = some (r, S')) : Met l y_Pl_blockOfCluster (.code y_Pl_blockOfCluster cb_Pl_blockOfCluster 2 (some .int) :: V_Vq) ({ frames := 0, cells := 0, slots := 0, locals := 0 }) (va_Pc [.ref M.o_Pl, .int p0] (fun U => U.heap.size = sz ∧ at_ (dC, dI) (fun _ => True) (wV M Y G S) (tV M) U ∧ E (va_A (wV M Y G S) sz) U)) (va_Qi (fun (r_ : Int32) (u : Unit) => r_ = r) (fun (u : Unit) t => at_ (dC, dI) (va_A (wV M Y G S) sz) (wV M Y G S') (tV M) t) (va_A (wV M Y G S) sz)) 0 0 (va_A (wV M Y G S) sz) := by
  refine Met.ofW (cc := cb_Pl_blockOfCluster) (maxL := 2) (ret := (some .int)) (by decide) rfl ?_
  intro p e s m args below meth c s₁ B hml hv
  obtain ⟨rfl, hsz, ⟨hP, hK, hD0⟩, hE⟩ := hv
  have hx := B.exec
  have hb := B.bytes
  have hr := B.returns
  have hts0 := atoms_spec (ws := .code y_Pl_blockOfCluster cb_Pl_blockOfCluster 2 (some .int) :: V_Vq) B.pre
  have hts : ∀ w ∈ V_Vq, w.before ([.ref M.o_Pl, .int p0] : List Value).toArray s = true := fun w h => hts0 w (List.mem_cons_of_mem _ h)
  have hown : s.vm.findClass R_Pl = some m.cls := findClass_of_methodNamed B.named
  subst hsz
  have hD := hD0.self (sz := s.heap.size)
  generalize hAe : va_A (wV M Y G S) s.heap.size = A at hD hE ⊢
  have hA : ∀ q : Nat, s.heap.size ≤ q → A q := fun q h => by rw [← hAe]; exact Or.inr h
  have hS : va_S A s.heap s.heap [] := va_S.rf
  have hP : va_P (dC, dI) classes (wV M Y G S) s.heap := hP
  have hK : va_K (dC, dI) classes (tV M) s := hK
  have hEw : ∀ (H : Heap) (locs : List Loc), va_S A s.heap H locs → ∀ U : State, U.heap = H → s.WarmedH U.vm → E A U := fun H locs hS U hU hW => X.kept A s U H locs hE hS hU hW
  have hl := lv_entry ([.ref M.o_Pl, .int p0]) (n := 2) (Nat.le_of_ble_eq_true rfl)
  rw [lg_entry_eq]
  generalize (lg_sl ([.ref M.o_Pl, .int p0]) ++ List.replicate (2 - (lg_sl ([.ref M.o_Pl, .int p0])).length) Slot.unset).toArray = ls at hl ⊢
  have hl : lv_has ls 2 [(0, .ref M.o_Pl), (1, .int p0)] := hl
  refine qabs (fun Q hQ => ?_)
  rw [f_Pl_blockOfCluster] at h
  refine lv_aload_n hx hb d_Pl_blockOfCluster_0 rfl (lv_at hl 0 rfl) ?_
  refine va_get (D := (dC, dI)) (ci := 9) (v := .ref M.o_Tb) (C := R_Pl) (T := F_Pl) (N := 17) hx hb hts (fun w h => u_Vq_Pl w (i_Pl w h)) hown hK hP 7 rfl rfl 1 (by decide) (hts _ (u_Vq_Pl _ k_Pl_12)) (fun _ h9 => h9) rfl d_Pl_blockOfCluster_1 ?_
  refine va_get (D := (dC, dI)) (ci := 4) (v := .int S.v_Tb_start) (C := R_Tb) (T := F_Tb) (N := 10) hx hb hts (fun w h => u_Vq_Tb w (i_Tb w h)) hown hK hP 3 rfl rfl 6 (by decide) (hts _ (u_Vq_Pl _ k_Pl_3)) (fun _ h9 => h9) rfl d_Pl_blockOfCluster_4 ?_
  refine lv_iconst (v := 2) hx hb d_Pl_blockOfCluster_7 (by decide) ?_
  refine lv_idiv hx hb d_Pl_blockOfCluster_8 (by decide) ?_
  refine lv_iload_n hx hb d_Pl_blockOfCluster_9 rfl (lv_at hl 1 rfl) ?_
  refine lv_iconst (v := 2) hx hb d_Pl_blockOfCluster_10 (by decide) ?_
  refine lv_isub hx hb d_Pl_blockOfCluster_11 ?_
  refine lv_aload_n hx hb d_Pl_blockOfCluster_12 rfl (lv_at hl 0 rfl) ?_
  refine va_get (D := (dC, dI)) (ci := 9) (v := .ref M.o_Tb) (C := R_Pl) (T := F_Pl) (N := 17) hx hb hts (fun w h => u_Vq_Pl w (i_Pl w h)) hown hK hP 7 rfl rfl 1 (by decide) (hts _ (u_Vq_Pl _ k_Pl_12)) (fun _ h9 => h9) rfl d_Pl_blockOfCluster_13 ?_
  refine va_get (D := (dC, dI)) (ci := 4) (v := .int S.v_Tb_cluster) (C := R_Tb) (T := F_Tb) (N := 10) hx hb hts (fun w h => u_Vq_Tb w (i_Tb w h)) hown hK hP 3 rfl rfl 1 (by decide) (hts _ (u_Vq_Pl _ k_Pl_2)) (fun _ h9 => h9) rfl d_Pl_blockOfCluster_16 ?_
  refine lv_iconst (v := 2) hx hb d_Pl_blockOfCluster_19 (by decide) ?_
  refine lv_idiv hx hb d_Pl_blockOfCluster_20 (by decide) ?_
  refine lv_imul hx hb d_Pl_blockOfCluster_21 ?_
  refine lv_iadd hx hb d_Pl_blockOfCluster_22 ?_
  rw [hQ]
  have e1 : ((S.v_Tb_start / 2) + ((p0 - 2) * (S.v_Tb_cluster / 2))) = r := congrArg Prod.fst (Option.some.inj h)
  have e2 : S = S' := congrArg Prod.snd (Option.some.inj h)
  have hP := ly_newP e2.symm hP
  have hD := ly_newD e2.symm hD
  exact W.iret (v := ((S.v_Tb_start / 2) + ((p0 - 2) * (S.v_Tb_cluster / 2)))) hx hb hr (fun t ht hW => ⟨⟨((S.v_Tb_start / 2) + ((p0 - 2) * (S.v_Tb_cluster / 2))), (), rfl, e1, by rw [ht]; exact hP, va_K.moved hW.alike hK, hD⟩, hS.F ht⟩) hS.2.2 d_Pl_blockOfCluster_23
set_option maxHeartbeats 4000000 in
set_option maxRecDepth 100000 in
theorem l_Pl_addRooms (l : Launch) (dC : Nat → ClassId) (dI : Nat → Nat → Nat) {K : Nat} {M : CA} {E : (Nat → Prop) → State → Prop} (X : ly_X l dC dI K M E) (sz : Nat) {Y : CT} {G : CG} {S S' : CS} {p0 : Int32} (h : f_Pl_addRooms K G S p0 = some S') : Met l y_Pl_addRooms (.code y_Pl_addRooms cb_Pl_addRooms 3 none :: V_Vq) ({ frames := 0, cells := 0, slots := 0, locals := 0 }) (va_Pc [.ref M.o_Pl, .int p0] (fun U => U.heap.size = sz ∧ at_ (dC, dI) (fun _ => True) (wV M Y G S) (tV M) U ∧ E (va_A (wV M Y G S) sz) U)) (va_Qv (fun (u : Unit) => True) (fun (u : Unit) t => at_ (dC, dI) (va_A (wV M Y G S) sz) (wV M Y G S') (tV M) t) (va_A (wV M Y G S) sz)) 0 0 (va_A (wV M Y G S) sz) := by
  refine Met.ofW (cc := cb_Pl_addRooms) (maxL := 3) (ret := none) (by decide) rfl ?_
  intro p e s m args below meth c s₁ B hml hv
  obtain ⟨rfl, hsz, ⟨hP, hK, hD0⟩, hE⟩ := hv
  have hx := B.exec
  have hb := B.bytes
  have hr := B.returns
  have hts0 := atoms_spec (ws := .code y_Pl_addRooms cb_Pl_addRooms 3 none :: V_Vq) B.pre
  have hts : ∀ w ∈ V_Vq, w.before ([.ref M.o_Pl, .int p0] : List Value).toArray s = true := fun w h => hts0 w (List.mem_cons_of_mem _ h)
  have hown : s.vm.findClass R_Pl = some m.cls := findClass_of_methodNamed B.named
  subst hsz
  have hD := hD0.self (sz := s.heap.size)
  generalize hAe : va_A (wV M Y G S) s.heap.size = A at hD hE ⊢
  have hA : ∀ q : Nat, s.heap.size ≤ q → A q := fun q h => by rw [← hAe]; exact Or.inr h
  have hS : va_S A s.heap s.heap [] := va_S.rf
  have hP : va_P (dC, dI) classes (wV M Y G S) s.heap := hP
  have hK : va_K (dC, dI) classes (tV M) s := hK
  have hEw : ∀ (H : Heap) (locs : List Loc), va_S A s.heap H locs → ∀ U : State, U.heap = H → s.WarmedH U.vm → E A U := fun H locs hS U hU hW => X.kept A s U H locs hE hS hU hW
  have hl := lv_entry ([.ref M.o_Pl, .int p0]) (n := 3) (Nat.le_of_ble_eq_true rfl)
  rw [lg_entry_eq]
  generalize (lg_sl ([.ref M.o_Pl, .int p0]) ++ List.replicate (3 - (lg_sl ([.ref M.o_Pl, .int p0])).length) Slot.unset).toArray = ls at hl ⊢
  have hl : lv_has ls 3 [(0, .ref M.o_Pl), (1, .int p0)] := hl
  refine qabs (fun Q hQ => ?_)
  have hB_66 : ∀ (rec_2 : Int32 → Int32 → CS → Option (CS)) (hr_2 : ∀ (y_1 : Int32) (y_2 : Int32) (S : CS) (H : Heap) (locs : List Loc) (ls : Array Slot), rec_2 y_1 y_2 S = some S' → va_P (dC, dI) classes (wV M Y G S) H → va_D A (wV M Y G S) → va_S A s.heap H locs → lv_has ls 3 [(0, .ref M.o_Pl), (1, .int y_1), (2, .int y_2)] → W p l e ({ frames := 0, cells := 0, slots := 0, locals := 0 }) s m ([.ref M.o_Pl, .int p0] : List Value).toArray below meth c H locs 0 0 Q (F0 m 2 ls [])), ∀ (y_1 : Int32) (y_2 : Int32) (S : CS) (H : Heap) (locs : List Loc) (ls : Array Slot), f_Pl_addRooms_66 K G rec_2 y_1 y_2 S = some S' → va_P (dC, dI) classes (wV M Y G S) H → va_D A (wV M Y G S) → va_S A s.heap H locs → lv_has ls 3 [(0, .ref M.o_Pl), (1, .int y_1), (2, .int y_2)] → W p l e ({ frames := 0, cells := 0, slots := 0, locals := 0 }) s m ([.ref M.o_Pl, .int p0] : List Value).toArray below meth c H locs 0 0 Q (F0 m 66 ls []) := by
    intro rec_2 hr_2 y_1 y_2 S H locs ls h hP hD hS hl
    rw [f_Pl_addRooms_66] at h
    obtain ⟨x_9, ex_9, h⟩ := lf_lX h
    refine lv_iinc (v := x_9) (lv' := [(2, .int x_9), (0, .ref M.o_Pl), (1, .int y_1)]) hx hb d_Pl_addRooms_66 hl (k := 2) rfl (by rw [ex_9]; rfl) (by decide) rfl (fun ls hl => ?_)
    refine lv_goto (tgt := 2) hx hb d_Pl_addRooms_69 (by decide) ?_
    exact hr_2 y_1 x_9 S _ _ _ h hP hD hS (lv_sub hl [1, 2, 0] rfl)
  have hB_2 : ∀ (k : Nat), ∀ (y_1 : Int32) (y_2 : Int32) (S : CS) (H : Heap) (locs : List Loc) (ls : Array Slot), f_Pl_addRooms_2 K G k y_1 y_2 S = some S' → va_P (dC, dI) classes (wV M Y G S) H → va_D A (wV M Y G S) → va_S A s.heap H locs → lv_has ls 3 [(0, .ref M.o_Pl), (1, .int y_1), (2, .int y_2)] → W p l e ({ frames := 0, cells := 0, slots := 0, locals := 0 }) s m ([.ref M.o_Pl, .int p0] : List Value).toArray below meth c H locs 0 0 Q (F0 m 2 ls []) := by
    intro k
    induction k with
    | zero => intro y_1 y_2 S H locs ls h; exact lf_no h
    | succ k hr_2 =>
      intro y_1 y_2 S H locs ls h hP hD hS hl
      rw [f_Pl_addRooms_2] at h
      refine lv_iload_n hx hb d_Pl_addRooms_2 rfl (lv_at hl 2 rfl) ?_
      refine lv_iload_n hx hb d_Pl_addRooms_3 rfl (lv_at hl 1 rfl) ?_
      refine lv_aload_n hx hb d_Pl_addRooms_4 rfl (lv_at hl 0 rfl) ?_
      refine va_get (D := (dC, dI)) (ci := 9) (v := .ref M.o_Tb) (C := R_Pl) (T := F_Pl) (N := 17) hx hb hts (fun w h => u_Vq_Pl w (i_Pl w h)) hown hK hP 7 rfl rfl 1 (by decide) (hts _ (u_Vq_Pl _ k_Pl_12)) (fun _ h9 => h9) rfl d_Pl_addRooms_5 ?_
      refine va_get (D := (dC, dI)) (ci := 4) (v := .int S.v_Tb_cluster) (C := R_Tb) (T := F_Tb) (N := 10) hx hb hts (fun w h => u_Vq_Tb w (i_Tb w h)) hown hK hP 3 rfl rfl 1 (by decide) (hts _ (u_Vq_Pl _ k_Pl_2)) (fun _ h9 => h9) rfl d_Pl_addRooms_8 ?_
      refine lv_iconst (v := 2) hx hb d_Pl_addRooms_11 (by decide) ?_
      refine lv_idiv hx hb d_Pl_addRooms_12 (by decide) ?_
      refine lv_iadd hx hb d_Pl_addRooms_13 ?_
      refine lv_icmp_ge (tgt := 72) hx hb d_Pl_addRooms_14 (by decide) (fun c_1 => ?_) (fun c_1 => ?_)
      · have h := lf_t h c_1
        rw [hQ]
        have e2 : S = S' := Option.some.inj h
        have hP := ly_newP e2.symm hP
        have hD := ly_newD e2.symm hD
        exact W.vret hx hb hr (fun t ht hW => ⟨⟨(), rfl, trivial, by rw [ht]; exact hP, va_K.moved hW.alike hK, hD⟩, hS.F ht⟩) hS.2.2 d_Pl_addRooms_72
      · have h := lf_f h c_1
        refine lv_iload_n hx hb d_Pl_addRooms_17 rfl (lv_at hl 2 rfl) ?_
        refine lv_aload_n hx hb d_Pl_addRooms_18 rfl (lv_at hl 0 rfl) ?_
        refine va_get (D := (dC, dI)) (ci := 9) (v := .int S.v_Pl_blocks) (C := R_Pl) (T := F_Pl) (N := 17) hx hb hts (fun w h => u_Vq_Pl w (i_Pl w h)) hown hK hP 7 rfl rfl 3 (by decide) (hts _ (u_Vq_Pl _ k_Pl_14)) (fun _ h9 => h9) rfl d_Pl_addRooms_19 ?_
        refine lv_icmp_ge (tgt := 72) hx hb d_Pl_addRooms_22 (by decide) (fun c_2 => ?_) (fun c_2 => ?_)
        · have h := lf_t h c_2
          rw [hQ]
          have e2 : S = S' := Option.some.inj h
          have hP := ly_newP e2.symm hP
          have hD := ly_newD e2.symm hD
          exact W.vret hx hb hr (fun t ht hW => ⟨⟨(), rfl, trivial, by rw [ht]; exact hP, va_K.moved hW.alike hK, hD⟩, hS.F ht⟩) hS.2.2 d_Pl_addRooms_72
        · have h := lf_f h c_2
          refine lv_aload_n hx hb d_Pl_addRooms_25 rfl (lv_at hl 0 rfl) ?_
          refine va_get (D := (dC, dI)) (ci := 9) (v := .ref M.a_Pl_fixed) (C := R_Pl) (T := F_Pl) (N := 17) hx hb hts (fun w h => u_Vq_Pl w (i_Pl w h)) hown hK hP 7 rfl rfl 4 (by decide) (hts _ (u_Vq_Pl _ k_Pl_15)) (fun _ h9 => h9) rfl d_Pl_addRooms_26 ?_
          refine lv_iload_n hx hb d_Pl_addRooms_29 rfl (lv_at hl 2 rfl) ?_
          obtain ⟨g_3, h⟩ := lf_gE h
          refine va_zald hx hb hK hP 39 1 rfl rfl g_3 d_Pl_addRooms_30 ?_
          refine lv_if_ne (tgt := 66) hx hb d_Pl_addRooms_31 (by decide) (fun c_4 => ?_) (fun c_4 => ?_)
          · have h := lf_f h c_4
            exact hB_66 _ hr_2 y_1 y_2 S _ _ _ h hP hD hS (lv_sub hl [0, 1, 2] rfl)
          · have h := lf_t h c_4
            refine lv_aload_n hx hb d_Pl_addRooms_34 rfl (lv_at hl 0 rfl) ?_
            refine va_get (D := (dC, dI)) (ci := 9) (v := .int S.v_Pl_roomCount) (C := R_Pl) (T := F_Pl) (N := 17) hx hb hts (fun w h => u_Vq_Pl w (i_Pl w h)) hown hK hP 7 rfl rfl 8 (by decide) (hts _ (u_Vq_Pl _ k_Pl_19)) (fun _ h9 => h9) rfl d_Pl_addRooms_35 ?_
            refine lv_aload_n hx hb d_Pl_addRooms_38 rfl (lv_at hl 0 rfl) ?_
            refine va_get (D := (dC, dI)) (ci := 9) (v := .ref M.a_Pl_rooms) (C := R_Pl) (T := F_Pl) (N := 17) hx hb hts (fun w h => u_Vq_Pl w (i_Pl w h)) hown hK hP 7 rfl rfl 7 (by decide) (hts _ (u_Vq_Pl _ k_Pl_18)) (fun _ h9 => h9) rfl d_Pl_addRooms_39 ?_
            refine va_alen (v := nI (G.n / 2)) hx hb hK hP 42 2 rfl rfl rfl d_Pl_addRooms_42 ?_
            refine lv_icmp_ge (tgt := 66) hx hb d_Pl_addRooms_43 (by decide) (fun c_5 => ?_) (fun c_5 => ?_)
            · have h := lf_t h c_5
              exact hB_66 _ hr_2 y_1 y_2 S _ _ _ h hP hD hS (lv_sub hl [0, 1, 2] rfl)
            · have h := lf_f h c_5
              refine lv_aload_n hx hb d_Pl_addRooms_46 rfl (lv_at hl 0 rfl) ?_
              refine va_get (D := (dC, dI)) (ci := 9) (v := .ref M.a_Pl_rooms) (C := R_Pl) (T := F_Pl) (N := 17) hx hb hts (fun w h => u_Vq_Pl w (i_Pl w h)) hown hK hP 7 rfl rfl 7 (by decide) (hts _ (u_Vq_Pl _ k_Pl_18)) (fun _ h9 => h9) rfl d_Pl_addRooms_47 ?_
              refine lv_aload_n hx hb d_Pl_addRooms_50 rfl (lv_at hl 0 rfl) ?_
              refine va_get (D := (dC, dI)) (ci := 9) (v := .int S.v_Pl_roomCount) (C := R_Pl) (T := F_Pl) (N := 17) hx hb hts (fun w h => u_Vq_Pl w (i_Pl w h)) hown hK hP 7 rfl rfl 8 (by decide) (hts _ (u_Vq_Pl _ k_Pl_19)) (fun _ h9 => h9) rfl d_Pl_addRooms_51 ?_
              refine lv_iload_n hx hb d_Pl_addRooms_54 rfl (lv_at hl 2 rfl) ?_
              obtain ⟨g_6, h⟩ := lf_gE h
              refine va_iast hx hb hK hP hD hS 42 2 rfl rfl g_6 d_Pl_addRooms_55 (fun H locs hP hD hS => ?_)
              obtain ⟨S_7, eS_7, h⟩ := lf_lX h
              have hP := ly_newP eS_7 hP
              have hD := ly_newD eS_7 hD
              refine lv_aload_n hx hb d_Pl_addRooms_56 rfl (lv_at hl 0 rfl) ?_
              refine lv_dup hx hb d_Pl_addRooms_57 rfl ?_
              refine va_get (D := (dC, dI)) (ci := 9) (v := .int S_7.v_Pl_roomCount) (C := R_Pl) (T := F_Pl) (N := 17) hx hb hts (fun w h => u_Vq_Pl w (i_Pl w h)) hown hK hP 7 rfl rfl 8 (by decide) (hts _ (u_Vq_Pl _ k_Pl_19)) (fun _ h9 => h9) rfl d_Pl_addRooms_58 ?_
              refine lv_iconst (v := 1) hx hb d_Pl_addRooms_61 (by decide) ?_
              refine lv_iadd hx hb d_Pl_addRooms_62 ?_
              refine va_put (D := (dC, dI)) (ci := 9) (v := .int (S_7.v_Pl_roomCount + 1)) (ty := .int) (C := R_Pl) (T := F_Pl) (N := 17) hx hb hts (fun w h => u_Vq_Pl w (i_Pl w h)) t_Pl t_Pl_ok n_Pl hown hK hP hD hS 7 rfl rfl 8 (by decide) (hts _ (u_Vq_Pl _ k_Pl_19)) (fun _ h9 => h9) rfl (by decide +kernel) rfl rfl (Nat.le_of_ble_eq_true rfl) d_Pl_addRooms_63 (fun H locs hP hD hS => ?_)
              obtain ⟨S_8, eS_8, h⟩ := lf_lX h
              have hP := ly_newP eS_8 hP
              have hD := ly_newD eS_8 hD
              exact hB_66 _ hr_2 y_1 y_2 S_8 _ _ _ h hP hD hS (lv_sub hl [0, 1, 2] rfl)
  rw [f_Pl_addRooms] at h
  refine lv_iload_n hx hb d_Pl_addRooms_0 rfl (lv_at hl 1 rfl) ?_
  refine lv_istore_n (lv' := [(2, .int p0), (0, .ref M.o_Pl), (1, .int p0)]) hx hb d_Pl_addRooms_1 rfl hl (by decide) rfl (fun ls hl => ?_)
  exact hB_2 K p0 p0 S _ _ _ h hP hD hS (lv_sub hl [1, 2, 0] rfl)
set_option maxHeartbeats 4000000 in
set_option maxRecDepth 100000 in
theorem l_Pl_findRooms (l : Launch) (dC : Nat → ClassId) (dI : Nat → Nat → Nat) {K : Nat} {M : CA} {E : (Nat → Prop) → State → Prop} (X : ly_X l dC dI K M E) (sz : Nat) {Y : CT} {G : CG} {S S' : CS} {p0 : Int32} (h : f_Pl_findRooms K G S p0 = some S') : Met l y_Pl_findRooms (.code y_Pl_findRooms cb_Pl_findRooms 3 none :: V_Vq) ({ frames := 1, cells := 0, slots := 0, locals := 22 }) (va_Pc [.ref M.o_Pl, .int p0] (fun U => U.heap.size = sz ∧ at_ (dC, dI) (fun _ => True) (wV M Y G S) (tV M) U ∧ E (va_A (wV M Y G S) sz) U)) (va_Qv (fun (u : Unit) => True) (fun (u : Unit) t => at_ (dC, dI) (va_A (wV M Y G S) sz) (wV M Y G S') (tV M) t) (va_A (wV M Y G S) sz)) 0 0 (va_A (wV M Y G S) sz) := by
  refine Met.ofW (cc := cb_Pl_findRooms) (maxL := 3) (ret := none) (by decide) rfl ?_
  intro p e s m args below meth c s₁ B hml hv
  obtain ⟨rfl, hsz, ⟨hP, hK, hD0⟩, hE⟩ := hv
  have hx := B.exec
  have hb := B.bytes
  have hr := B.returns
  have hts0 := atoms_spec (ws := .code y_Pl_findRooms cb_Pl_findRooms 3 none :: V_Vq) B.pre
  have hts : ∀ w ∈ V_Vq, w.before ([.ref M.o_Pl, .int p0] : List Value).toArray s = true := fun w h => hts0 w (List.mem_cons_of_mem _ h)
  have hown : s.vm.findClass R_Pl = some m.cls := findClass_of_methodNamed B.named
  subst hsz
  have hD := hD0.self (sz := s.heap.size)
  generalize hAe : va_A (wV M Y G S) s.heap.size = A at hD hE ⊢
  have hA : ∀ q : Nat, s.heap.size ≤ q → A q := fun q h => by rw [← hAe]; exact Or.inr h
  have hS : va_S A s.heap s.heap [] := va_S.rf
  have hP : va_P (dC, dI) classes (wV M Y G S) s.heap := hP
  have hK : va_K (dC, dI) classes (tV M) s := hK
  have hEw : ∀ (H : Heap) (locs : List Loc), va_S A s.heap H locs → ∀ U : State, U.heap = H → s.WarmedH U.vm → E A U := fun H locs hS U hU hW => X.kept A s U H locs hE hS hU hW
  have hl := lv_entry ([.ref M.o_Pl, .int p0]) (n := 3) (Nat.le_of_ble_eq_true rfl)
  rw [lg_entry_eq]
  generalize (lg_sl ([.ref M.o_Pl, .int p0]) ++ List.replicate (3 - (lg_sl ([.ref M.o_Pl, .int p0])).length) Slot.unset).toArray = ls at hl ⊢
  have hl : lv_has ls 3 [(0, .ref M.o_Pl), (1, .int p0)] := hl
  refine qabs (fun Q hQ => ?_)
  have hB_41 : ∀ (rec_7 : Int32 → Int32 → CS → Option (CS)) (hr_7 : ∀ (y_1 : Int32) (y_2 : Int32) (S : CS) (H : Heap) (locs : List Loc) (ls : Array Slot), rec_7 y_1 y_2 S = some S' → va_P (dC, dI) classes (wV M Y G S) H → va_D A (wV M Y G S) → va_S A s.heap H locs → lv_has ls 3 [(0, .ref M.o_Pl), (1, .int y_1), (2, .int y_2)] → W p l e ({ frames := 1, cells := 0, slots := 0, locals := 22 }) s m ([.ref M.o_Pl, .int p0] : List Value).toArray below meth c H locs 0 0 Q (F0 m 7 ls [])), ∀ (y_1 : Int32) (y_2 : Int32) (S : CS) (H : Heap) (locs : List Loc) (ls : Array Slot), f_Pl_findRooms_41 K G rec_7 y_1 y_2 S = some S' → va_P (dC, dI) classes (wV M Y G S) H → va_D A (wV M Y G S) → va_S A s.heap H locs → lv_has ls 3 [(0, .ref M.o_Pl), (1, .int y_1), (2, .int y_2)] → W p l e ({ frames := 1, cells := 0, slots := 0, locals := 22 }) s m ([.ref M.o_Pl, .int p0] : List Value).toArray below meth c H locs 0 0 Q (F0 m 41 ls []) := by
    intro rec_7 hr_7 y_1 y_2 S H locs ls h hP hD hS hl
    rw [f_Pl_findRooms_41] at h
    obtain ⟨x_9, ex_9, h⟩ := lf_lX h
    refine lv_iinc (v := x_9) (lv' := [(2, .int x_9), (0, .ref M.o_Pl), (1, .int y_1)]) hx hb d_Pl_findRooms_41 hl (k := 2) rfl (by rw [ex_9]; rfl) (by decide) rfl (fun ls hl => ?_)
    refine lv_goto (tgt := 7) hx hb d_Pl_findRooms_44 (by decide) ?_
    exact hr_7 y_1 x_9 S _ _ _ h hP hD hS (lv_sub hl [1, 2, 0] rfl)
  have hB_7 : ∀ (k : Nat), ∀ (y_1 : Int32) (y_2 : Int32) (S : CS) (H : Heap) (locs : List Loc) (ls : Array Slot), f_Pl_findRooms_7 K G k y_1 y_2 S = some S' → va_P (dC, dI) classes (wV M Y G S) H → va_D A (wV M Y G S) → va_S A s.heap H locs → lv_has ls 3 [(0, .ref M.o_Pl), (1, .int y_1), (2, .int y_2)] → W p l e ({ frames := 1, cells := 0, slots := 0, locals := 22 }) s m ([.ref M.o_Pl, .int p0] : List Value).toArray below meth c H locs 0 0 Q (F0 m 7 ls []) := by
    intro k
    induction k with
    | zero => intro y_1 y_2 S H locs ls h; exact lf_no h
    | succ k hr_7 =>
      intro y_1 y_2 S H locs ls h hP hD hS hl
      rw [f_Pl_findRooms_7] at h
      refine lv_iload_n hx hb d_Pl_findRooms_7 rfl (lv_at hl 2 rfl) ?_
      refine lv_iload_n hx hb d_Pl_findRooms_8 rfl (lv_at hl 1 rfl) ?_
      refine lv_icmp_ge (tgt := 47) hx hb d_Pl_findRooms_9 (by decide) (fun c_2 => ?_) (fun c_2 => ?_)
      · have h := lf_t h c_2
        rw [hQ]
        have e2 : S = S' := Option.some.inj h
        have hP := ly_newP e2.symm hP
        have hD := ly_newD e2.symm hD
        exact W.vret hx hb hr (fun t ht hW => ⟨⟨(), rfl, trivial, by rw [ht]; exact hP, va_K.moved hW.alike hK, hD⟩, hS.F ht⟩) hS.2.2 d_Pl_findRooms_47
      · have h := lf_f h c_2
        refine lv_aload_n hx hb d_Pl_findRooms_12 rfl (lv_at hl 0 rfl) ?_
        refine va_get (D := (dC, dI)) (ci := 9) (v := .ref M.o_Tb) (C := R_Pl) (T := F_Pl) (N := 17) hx hb hts (fun w h => u_Vq_Pl w (i_Pl w h)) hown hK hP 7 rfl rfl 1 (by decide) (hts _ (u_Vq_Pl _ k_Pl_12)) (fun _ h9 => h9) rfl d_Pl_findRooms_13 ?_
        refine lv_iload_n hx hb d_Pl_findRooms_16 rfl (lv_at hl 2 rfl) ?_
        obtain ⟨r_3, S_3, hc_3, h⟩ := lf_cE h
        have hFc := lx_free hD hS hA
        refine va_calli (va_runV (As := [.int y_2]) (rest := []) ⟨hx, hb, hml, hown, hts⟩ (l_Tb_isFree l dC dI X _ hc_3) (cwV 1 hts (gwV good_Vq (u_Vq_Pl _ k_Pl_71) (u_Vq_Tb _ k_Tb_63) (u_Vq_Tb _ k_Tb_64) (u_Vq_Tb _ k_Tb_0) (wcs (u_Vq_Tb _ k_Tb_65) (fun _ h => h))) rfl rfl rfl (by decide +kernel) ⟨Nat.le_of_ble_eq_true rfl, Nat.le_of_ble_eq_true rfl⟩) (pv_ofE (X.same _) (fun U z1 z2 => X.mono _ _ U hFc (hEw _ _ hS U z1 z2)) hP hK hD (va_recv hK hP (ci := 4) (q0 := 3) rfl rfl)) rfl rfl hl.1 rfl (lv_room (Nat.le_of_ble_eq_true rfl)) d_Pl_findRooms_17 ⟨by decide, by decide⟩) hS (fun q _ h => hFc q h) hFc (fun r_ u t H locs ht hvm hw hB hz1 hk1 hS => ?_)
        rw [hw]
        obtain ⟨hP, -, hD⟩ := hB
        rw [ht] at hP
        have hD := lx_dj hD hFc
        refine lv_if_eq (tgt := 41) hx hb d_Pl_findRooms_20 (by decide) (fun c_4 => ?_) (fun c_4 => ?_)
        · have h := lf_t h c_4
          exact hB_41 _ hr_7 y_1 y_2 S_3 _ _ _ h hP hD hS (lv_sub hl [0, 1, 2] rfl)
        · have h := lf_f h c_4
          refine lv_aload_n hx hb d_Pl_findRooms_23 rfl (lv_at hl 0 rfl) ?_
          refine va_get (D := (dC, dI)) (ci := 9) (v := .ref M.a_Pl_aimedAt) (C := R_Pl) (T := F_Pl) (N := 17) hx hb hts (fun w h => u_Vq_Pl w (i_Pl w h)) hown hK hP 7 rfl rfl 6 (by decide) (hts _ (u_Vq_Pl _ k_Pl_17)) (fun _ h9 => h9) rfl d_Pl_findRooms_24 ?_
          refine lv_iload_n hx hb d_Pl_findRooms_27 rfl (lv_at hl 2 rfl) ?_
          obtain ⟨g_5, h⟩ := lf_gE h
          refine va_zald hx hb hK hP 41 1 rfl rfl g_5 d_Pl_findRooms_28 ?_
          refine lv_if_ne (tgt := 41) hx hb d_Pl_findRooms_29 (by decide) (fun c_6 => ?_) (fun c_6 => ?_)
          · have h := lf_f h c_6
            exact hB_41 _ hr_7 y_1 y_2 S_3 _ _ _ h hP hD hS (lv_sub hl [0, 1, 2] rfl)
          · have h := lf_t h c_6
            refine lv_aload_n hx hb d_Pl_findRooms_32 rfl (lv_at hl 0 rfl) ?_
            refine lv_aload_n hx hb d_Pl_findRooms_33 rfl (lv_at hl 0 rfl) ?_
            refine lv_iload_n hx hb d_Pl_findRooms_34 rfl (lv_at hl 2 rfl) ?_
            obtain ⟨r_7, S_7, hc_7, h⟩ := lf_cE h
            have hFc := lx_free hD hS hA
            refine va_calli (va_runV (As := [.int y_2]) (rest := [.ref M.o_Pl]) ⟨hx, hb, hml, hown, hts⟩ (l_Pl_blockOfCluster l dC dI X _ hc_7) (cwV 1 hts (gwV good_Vq (u_Vq_Pl _ k_Pl_75) (u_Vq_Pl _ k_Pl_76) (u_Vq_Pl _ k_Pl_171) (u_Vq_Pl _ k_Pl_0) (wcs (u_Vq_Pl _ k_Pl_77) (fun _ h => h))) rfl rfl rfl (by decide +kernel) ⟨Nat.le_of_ble_eq_true rfl, Nat.le_of_ble_eq_true rfl⟩) (pv_ofE (X.same _) (fun U z1 z2 => X.mono _ _ U hFc (hEw _ _ hS U z1 z2)) hP hK hD (va_recv hK hP (ci := 9) (q0 := 7) rfl rfl)) rfl rfl hl.1 rfl (lv_room (Nat.le_of_ble_eq_true rfl)) d_Pl_findRooms_35 ⟨by decide, by decide⟩) hS (fun q _ h => hFc q h) hFc (fun r_ u t H locs ht hvm hw hB hz1 hk1 hS => ?_)
            rw [hw]
            obtain ⟨hP, -, hD⟩ := hB
            rw [ht] at hP
            have hD := lx_dj hD hFc
            obtain ⟨S_8, hc_8, h⟩ := lf_bE h
            have hFc := lx_free hD hS hA
            refine va_callv (va_runV (As := [.int r_7]) (rest := []) ⟨hx, hb, hml, hown, hts⟩ (l_Pl_addRooms l dC dI X _ hc_8) (cwV 1 hts (gwV good_Vq (u_Vq_Pl _ k_Pl_82) (u_Vq_Pl _ k_Pl_83) (u_Vq_Pl _ k_Pl_175) (u_Vq_Pl _ k_Pl_0) (wcs (u_Vq_Pl _ k_Pl_84) (fun _ h => h))) rfl rfl rfl (by decide +kernel) ⟨Nat.le_of_ble_eq_true rfl, Nat.le_of_ble_eq_true rfl⟩) (pv_ofE (X.same _) (fun U z1 z2 => X.mono _ _ U hFc (hEw _ _ hS U z1 z2)) hP hK hD (va_recv hK hP (ci := 9) (q0 := 7) rfl rfl)) rfl rfl hl.1 rfl (lv_room (Nat.le_of_ble_eq_true rfl)) d_Pl_findRooms_38 ⟨by decide, by decide⟩) hS (fun q _ h => hFc q h) hFc (fun u t H locs ht hvm hw hB hz1 hk1 hS => ?_)
            obtain ⟨hP, -, hD⟩ := hB
            rw [ht] at hP
            have hD := lx_dj hD hFc
            exact hB_41 _ hr_7 y_1 y_2 S_8 _ _ _ h hP hD hS (lv_sub hl [0, 1, 2] rfl)
  rw [f_Pl_findRooms] at h
  refine lv_aload_n hx hb d_Pl_findRooms_0 rfl (lv_at hl 0 rfl) ?_
  refine lv_iconst (v := 0) hx hb d_Pl_findRooms_1 (by decide) ?_
  refine va_put (D := (dC, dI)) (ci := 9) (v := .int 0) (ty := .int) (C := R_Pl) (T := F_Pl) (N := 17) hx hb hts (fun w h => u_Vq_Pl w (i_Pl w h)) t_Pl t_Pl_ok n_Pl hown hK hP hD hS 7 rfl rfl 8 (by decide) (hts _ (u_Vq_Pl _ k_Pl_19)) (fun _ h9 => h9) rfl (by decide +kernel) rfl rfl (Nat.le_of_ble_eq_true rfl) d_Pl_findRooms_2 (fun H locs hP hD hS => ?_)
  obtain ⟨S_1, eS_1, h⟩ := lf_lX h
  have hP := ly_newP eS_1 hP
  have hD := ly_newD eS_1 hD
  refine lv_iconst (v := 2) hx hb d_Pl_findRooms_5 (by decide) ?_
  refine lv_istore_n (lv' := [(2, .int 2), (0, .ref M.o_Pl), (1, .int p0)]) hx hb d_Pl_findRooms_6 rfl hl (by decide) rfl (fun ls hl => ?_)
  exact hB_7 K p0 2 S_1 _ _ _ h hP hD hS (lv_sub hl [1, 2, 0] rfl)
set_option maxHeartbeats 4000000 in
set_option maxRecDepth 100000 in
theorem l_Pl_hasFixed (l : Launch) (dC : Nat → ClassId) (dI : Nat → Nat → Nat) {K : Nat} {M : CA} {E : (Nat → Prop) → State → Prop} (X : ly_X l dC dI K M E) (sz : Nat) {Y : CT} {G : CG} {S S' : CS} {p0 : Int32} {r : Int32} (h : f_Pl_hasFixed K G S p0 = some (r, S')) : Met l y_Pl_hasFixed (.code y_Pl_hasFixed cb_Pl_hasFixed 4 (some .boolean) :: V_Vq) ({ frames := 1, cells := 0, slots := 0, locals := 21 }) (va_Pc [.ref M.o_Pl, .int p0] (fun U => U.heap.size = sz ∧ at_ (dC, dI) (fun _ => True) (wV M Y G S) (tV M) U ∧ E (va_A (wV M Y G S) sz) U)) (va_Qi (fun (r_ : Int32) (u : Unit) => r_ = r) (fun (u : Unit) t => at_ (dC, dI) (va_A (wV M Y G S) sz) (wV M Y G S') (tV M) t) (va_A (wV M Y G S) sz)) 0 0 (va_A (wV M Y G S) sz) := by
  refine Met.ofW (cc := cb_Pl_hasFixed) (maxL := 4) (ret := (some .boolean)) (by decide) rfl ?_
  intro p e s m args below meth c s₁ B hml hv
  obtain ⟨rfl, hsz, ⟨hP, hK, hD0⟩, hE⟩ := hv
  have hx := B.exec
  have hb := B.bytes
  have hr := B.returns
  have hts0 := atoms_spec (ws := .code y_Pl_hasFixed cb_Pl_hasFixed 4 (some .boolean) :: V_Vq) B.pre
  have hts : ∀ w ∈ V_Vq, w.before ([.ref M.o_Pl, .int p0] : List Value).toArray s = true := fun w h => hts0 w (List.mem_cons_of_mem _ h)
  have hown : s.vm.findClass R_Pl = some m.cls := findClass_of_methodNamed B.named
  subst hsz
  have hD := hD0.self (sz := s.heap.size)
  generalize hAe : va_A (wV M Y G S) s.heap.size = A at hD hE ⊢
  have hA : ∀ q : Nat, s.heap.size ≤ q → A q := fun q h => by rw [← hAe]; exact Or.inr h
  have hS : va_S A s.heap s.heap [] := va_S.rf
  have hP : va_P (dC, dI) classes (wV M Y G S) s.heap := hP
  have hK : va_K (dC, dI) classes (tV M) s := hK
  have hEw : ∀ (H : Heap) (locs : List Loc), va_S A s.heap H locs → ∀ U : State, U.heap = H → s.WarmedH U.vm → E A U := fun H locs hS U hU hW => X.kept A s U H locs hE hS hU hW
  have hl := lv_entry ([.ref M.o_Pl, .int p0]) (n := 4) (Nat.le_of_ble_eq_true rfl)
  rw [lg_entry_eq]
  generalize (lg_sl ([.ref M.o_Pl, .int p0]) ++ List.replicate (4 - (lg_sl ([.ref M.o_Pl, .int p0])).length) Slot.unset).toArray = ls at hl ⊢
  have hl : lv_has ls 4 [(0, .ref M.o_Pl), (1, .int p0)] := hl
  refine qabs (fun Q hQ => ?_)
  have hB_46 : ∀ (rec_8 : Int32 → Int32 → CS → Option (Int32 × CS)) (hr_8 : ∀ (y_2 : Int32) (y_3 : Int32) (S : CS) (H : Heap) (locs : List Loc) (ls : Array Slot), rec_8 y_2 y_3 S = some (r, S') → va_P (dC, dI) classes (wV M Y G S) H → va_D A (wV M Y G S) → va_S A s.heap H locs → lv_has ls 4 [(0, .ref M.o_Pl), (2, .int y_2), (3, .int y_3)] → W p l e ({ frames := 1, cells := 0, slots := 0, locals := 21 }) s m ([.ref M.o_Pl, .int p0] : List Value).toArray below meth c H locs 0 0 Q (F0 m 8 ls [])), ∀ (y_2 : Int32) (y_3 : Int32) (S : CS) (H : Heap) (locs : List Loc) (ls : Array Slot), f_Pl_hasFixed_46 K G rec_8 y_2 y_3 S = some (r, S') → va_P (dC, dI) classes (wV M Y G S) H → va_D A (wV M Y G S) → va_S A s.heap H locs → lv_has ls 4 [(0, .ref M.o_Pl), (2, .int y_2), (3, .int y_3)] → W p l e ({ frames := 1, cells := 0, slots := 0, locals := 21 }) s m ([.ref M.o_Pl, .int p0] : List Value).toArray below meth c H locs 0 0 Q (F0 m 46 ls []) := by
    intro rec_8 hr_8 y_2 y_3 S H locs ls h hP hD hS hl
    rw [f_Pl_hasFixed_46] at h
    obtain ⟨x_7, ex_7, h⟩ := lf_lX h
    refine lv_iinc (v := x_7) (lv' := [(3, .int x_7), (0, .ref M.o_Pl), (2, .int y_2)]) hx hb d_Pl_hasFixed_46 hl (k := 2) rfl (by rw [ex_7]; rfl) (by decide) rfl (fun ls hl => ?_)
    refine lv_goto (tgt := 8) hx hb d_Pl_hasFixed_49 (by decide) ?_
    exact hr_8 y_2 x_7 S _ _ _ h hP hD hS (lv_sub hl [1, 2, 0] rfl)
  have hB_8 : ∀ (k : Nat), ∀ (y_2 : Int32) (y_3 : Int32) (S : CS) (H : Heap) (locs : List Loc) (ls : Array Slot), f_Pl_hasFixed_8 K G k y_2 y_3 S = some (r, S') → va_P (dC, dI) classes (wV M Y G S) H → va_D A (wV M Y G S) → va_S A s.heap H locs → lv_has ls 4 [(0, .ref M.o_Pl), (2, .int y_2), (3, .int y_3)] → W p l e ({ frames := 1, cells := 0, slots := 0, locals := 21 }) s m ([.ref M.o_Pl, .int p0] : List Value).toArray below meth c H locs 0 0 Q (F0 m 8 ls []) := by
    intro k
    induction k with
    | zero => intro y_2 y_3 S H locs ls h; exact lf_no h
    | succ k hr_8 =>
      intro y_2 y_3 S H locs ls h hP hD hS hl
      rw [f_Pl_hasFixed_8] at h
      refine lv_iload_n hx hb d_Pl_hasFixed_8 rfl (lv_at hl 2 rfl) ?_
      refine lv_iload_n hx hb d_Pl_hasFixed_9 rfl (lv_at hl 1 rfl) ?_
      refine lv_aload_n hx hb d_Pl_hasFixed_10 rfl (lv_at hl 0 rfl) ?_
      refine va_get (D := (dC, dI)) (ci := 9) (v := .ref M.o_Tb) (C := R_Pl) (T := F_Pl) (N := 17) hx hb hts (fun w h => u_Vq_Pl w (i_Pl w h)) hown hK hP 7 rfl rfl 1 (by decide) (hts _ (u_Vq_Pl _ k_Pl_12)) (fun _ h9 => h9) rfl d_Pl_hasFixed_11 ?_
      refine va_get (D := (dC, dI)) (ci := 4) (v := .int S.v_Tb_cluster) (C := R_Tb) (T := F_Tb) (N := 10) hx hb hts (fun w h => u_Vq_Tb w (i_Tb w h)) hown hK hP 3 rfl rfl 1 (by decide) (hts _ (u_Vq_Pl _ k_Pl_2)) (fun _ h9 => h9) rfl d_Pl_hasFixed_14 ?_
      refine lv_iconst (v := 2) hx hb d_Pl_hasFixed_17 (by decide) ?_
      refine lv_idiv hx hb d_Pl_hasFixed_18 (by decide) ?_
      refine lv_iadd hx hb d_Pl_hasFixed_19 ?_
      refine lv_icmp_ge (tgt := 52) hx hb d_Pl_hasFixed_20 (by decide) (fun c_2 => ?_) (fun c_2 => ?_)
      · have h := lf_t h c_2
        refine lv_iconst (v := 0) hx hb d_Pl_hasFixed_52 (by decide) ?_
        rw [hQ]
        have e1 : (0 : Int32) = r := congrArg Prod.fst (Option.some.inj h)
        have e2 : S = S' := congrArg Prod.snd (Option.some.inj h)
        have hP := ly_newP e2.symm hP
        have hD := ly_newD e2.symm hD
        exact W.zret (v := 0) hx hb hr rfl (fun t ht hW => ⟨⟨0, (), rfl, e1, by rw [ht]; exact hP, va_K.moved hW.alike hK, hD⟩, hS.F ht⟩) hS.2.2 d_Pl_hasFixed_53
      · have h := lf_f h c_2
        refine lv_iload_n hx hb d_Pl_hasFixed_23 rfl (lv_at hl 2 rfl) ?_
        refine lv_if_lt (tgt := 46) hx hb d_Pl_hasFixed_24 (by decide) (fun c_3 => ?_) (fun c_3 => ?_)
        · have h := lf_t h c_3
          exact hB_46 _ hr_8 y_2 y_3 S _ _ _ h hP hD hS (lv_sub hl [0, 1, 2] rfl)
        · have h := lf_f h c_3
          refine lv_iload_n hx hb d_Pl_hasFixed_27 rfl (lv_at hl 2 rfl) ?_
          refine lv_aload_n hx hb d_Pl_hasFixed_28 rfl (lv_at hl 0 rfl) ?_
          refine va_get (D := (dC, dI)) (ci := 9) (v := .int S.v_Pl_blocks) (C := R_Pl) (T := F_Pl) (N := 17) hx hb hts (fun w h => u_Vq_Pl w (i_Pl w h)) hown hK hP 7 rfl rfl 3 (by decide) (hts _ (u_Vq_Pl _ k_Pl_14)) (fun _ h9 => h9) rfl d_Pl_hasFixed_29 ?_
          refine lv_icmp_ge (tgt := 46) hx hb d_Pl_hasFixed_32 (by decide) (fun c_4 => ?_) (fun c_4 => ?_)
          · have h := lf_t h c_4
            exact hB_46 _ hr_8 y_2 y_3 S _ _ _ h hP hD hS (lv_sub hl [0, 1, 2] rfl)
          · have h := lf_f h c_4
            refine lv_aload_n hx hb d_Pl_hasFixed_35 rfl (lv_at hl 0 rfl) ?_
            refine va_get (D := (dC, dI)) (ci := 9) (v := .ref M.a_Pl_fixed) (C := R_Pl) (T := F_Pl) (N := 17) hx hb hts (fun w h => u_Vq_Pl w (i_Pl w h)) hown hK hP 7 rfl rfl 4 (by decide) (hts _ (u_Vq_Pl _ k_Pl_15)) (fun _ h9 => h9) rfl d_Pl_hasFixed_36 ?_
            refine lv_iload_n hx hb d_Pl_hasFixed_39 rfl (lv_at hl 2 rfl) ?_
            obtain ⟨g_5, h⟩ := lf_gE h
            refine va_zald hx hb hK hP 39 1 rfl rfl g_5 d_Pl_hasFixed_40 ?_
            refine lv_if_eq (tgt := 46) hx hb d_Pl_hasFixed_41 (by decide) (fun c_6 => ?_) (fun c_6 => ?_)
            · have h := lf_t h c_6
              exact hB_46 _ hr_8 y_2 y_3 S _ _ _ h hP hD hS (lv_sub hl [0, 1, 2] rfl)
            · have h := lf_f h c_6
              refine lv_iconst (v := 1) hx hb d_Pl_hasFixed_44 (by decide) ?_
              rw [hQ]
              have e1 : (1 : Int32) = r := congrArg Prod.fst (Option.some.inj h)
              have e2 : S = S' := congrArg Prod.snd (Option.some.inj h)
              have hP := ly_newP e2.symm hP
              have hD := ly_newD e2.symm hD
              exact W.zret (v := 1) hx hb hr rfl (fun t ht hW => ⟨⟨1, (), rfl, e1, by rw [ht]; exact hP, va_K.moved hW.alike hK, hD⟩, hS.F ht⟩) hS.2.2 d_Pl_hasFixed_45
  rw [f_Pl_hasFixed] at h
  refine lv_aload_n hx hb d_Pl_hasFixed_0 rfl (lv_at hl 0 rfl) ?_
  refine lv_iload_n hx hb d_Pl_hasFixed_1 rfl (lv_at hl 1 rfl) ?_
  obtain ⟨r_1, S_1, hc_1, h⟩ := lf_cE h
  have hFc := lx_free hD hS hA
  refine va_calli (va_runV (As := [.int p0]) (rest := []) ⟨hx, hb, hml, hown, hts⟩ (l_Pl_blockOfCluster l dC dI X _ hc_1) (cwV 1 hts (gwV good_Vq (u_Vq_Pl _ k_Pl_75) (u_Vq_Pl _ k_Pl_76) (u_Vq_Pl _ k_Pl_171) (u_Vq_Pl _ k_Pl_0) (wcs (u_Vq_Pl _ k_Pl_77) (fun _ h => h))) rfl rfl rfl (by decide +kernel) ⟨Nat.le_of_ble_eq_true rfl, Nat.le_of_ble_eq_true rfl⟩) (pv_ofE (X.same _) (fun U z1 z2 => X.mono _ _ U hFc (hEw _ _ hS U z1 z2)) hP hK hD (va_recv hK hP (ci := 9) (q0 := 7) rfl rfl)) rfl rfl hl.1 rfl (lv_room (Nat.le_of_ble_eq_true rfl)) d_Pl_hasFixed_2 ⟨by decide, by decide⟩) hS (fun q _ h => hFc q h) hFc (fun r_ u t H locs ht hvm hw hB hz1 hk1 hS => ?_)
  rw [hw]
  obtain ⟨hP, -, hD⟩ := hB
  rw [ht] at hP
  have hD := lx_dj hD hFc
  refine lv_istore_n (lv' := [(2, .int r_1), (0, .ref M.o_Pl), (1, .int p0)]) hx hb d_Pl_hasFixed_5 rfl hl (by decide) rfl (fun ls hl => ?_)
  refine lv_iload_n hx hb d_Pl_hasFixed_6 rfl (lv_at hl 0 rfl) ?_
  refine lv_istore_n (lv' := [(3, .int r_1), (2, .int r_1), (0, .ref M.o_Pl), (1, .int p0)]) hx hb d_Pl_hasFixed_7 rfl hl (by decide) rfl (fun ls hl => ?_)
  exact hB_8 K r_1 r_1 S_1 _ _ _ h hP hD hS (lv_sub hl [2, 1, 0] rfl)
set_option maxHeartbeats 4000000 in
set_option maxRecDepth 100000 in
theorem l_Pl_aim (l : Launch) (dC : Nat → ClassId) (dI : Nat → Nat → Nat) {K : Nat} {M : CA} {E : (Nat → Prop) → State → Prop} (X : ly_X l dC dI K M E) (sz : Nat) {Y : CT} {G : CG} {S S' : CS} {r : Int32} (h : f_Pl_aim K G S = some (r, S')) : Met l y_Pl_aim (.code y_Pl_aim cb_Pl_aim 5 (some .boolean) :: V_Vq) ({ frames := 2, cells := 0, slots := 0, locals := 44 }) (va_Pc [.ref M.o_Pl] (fun U => U.heap.size = sz ∧ at_ (dC, dI) (fun _ => True) (wV M Y G S) (tV M) U ∧ E (va_A (wV M Y G S) sz) U)) (va_Qi (fun (r_ : Int32) (u : Unit) => r_ = r) (fun (u : Unit) t => at_ (dC, dI) (va_A (wV M Y G S) sz) (wV M Y G S') (tV M) t) (va_A (wV M Y G S) sz)) 0 0 (va_A (wV M Y G S) sz) := by
  refine Met.ofW (cc := cb_Pl_aim) (maxL := 5) (ret := (some .boolean)) (by decide) rfl ?_
  intro p e s m args below meth c s₁ B hml hv
  obtain ⟨rfl, hsz, ⟨hP, hK, hD0⟩, hE⟩ := hv
  have hx := B.exec
  have hb := B.bytes
  have hr := B.returns
  have hts0 := atoms_spec (ws := .code y_Pl_aim cb_Pl_aim 5 (some .boolean) :: V_Vq) B.pre
  have hts : ∀ w ∈ V_Vq, w.before ([.ref M.o_Pl] : List Value).toArray s = true := fun w h => hts0 w (List.mem_cons_of_mem _ h)
  have hown : s.vm.findClass R_Pl = some m.cls := findClass_of_methodNamed B.named
  subst hsz
  have hD := hD0.self (sz := s.heap.size)
  generalize hAe : va_A (wV M Y G S) s.heap.size = A at hD hE ⊢
  have hA : ∀ q : Nat, s.heap.size ≤ q → A q := fun q h => by rw [← hAe]; exact Or.inr h
  have hS : va_S A s.heap s.heap [] := va_S.rf
  have hP : va_P (dC, dI) classes (wV M Y G S) s.heap := hP
  have hK : va_K (dC, dI) classes (tV M) s := hK
  have hEw : ∀ (H : Heap) (locs : List Loc), va_S A s.heap H locs → ∀ U : State, U.heap = H → s.WarmedH U.vm → E A U := fun H locs hS U hU hW => X.kept A s U H locs hE hS hU hW
  have hl := lv_entry ([.ref M.o_Pl]) (n := 5) (Nat.le_of_ble_eq_true rfl)
  rw [lg_entry_eq]
  generalize (lg_sl ([.ref M.o_Pl]) ++ List.replicate (5 - (lg_sl ([.ref M.o_Pl])).length) Slot.unset).toArray = ls at hl ⊢
  have hl : lv_has ls 5 [(0, .ref M.o_Pl)] := hl
  refine qabs (fun Q hQ => ?_)
  have hB_111 : ∀ (rec_51 : Int32 → Int32 → Int32 → CS → Option (Int32 × CS)) (hr_51 : ∀ (y_1 : Int32) (y_2 : Int32) (y_3 : Int32) (S : CS) (H : Heap) (locs : List Loc) (ls : Array Slot), rec_51 y_1 y_2 y_3 S = some (r, S') → va_P (dC, dI) classes (wV M Y G S) H → va_D A (wV M Y G S) → va_S A s.heap H locs → lv_has ls 5 [(0, .ref M.o_Pl), (1, .int y_1), (2, .int y_2), (3, .int y_3)] → W p l e ({ frames := 2, cells := 0, slots := 0, locals := 44 }) s m ([.ref M.o_Pl] : List Value).toArray below meth c H locs 0 0 Q (F0 m 51 ls [])) (rec_82 : Int32 → Int32 → Int32 → Int32 → CS → Option (Int32 × CS)) (hr_82 : ∀ (y_1 : Int32) (y_2 : Int32) (y_3 : Int32) (y_4 : Int32) (S : CS) (H : Heap) (locs : List Loc) (ls : Array Slot), rec_82 y_1 y_2 y_3 y_4 S = some (r, S') → va_P (dC, dI) classes (wV M Y G S) H → va_D A (wV M Y G S) → va_S A s.heap H locs → lv_has ls 5 [(0, .ref M.o_Pl), (1, .int y_1), (2, .int y_2), (3, .int y_3), (4, .int y_4)] → W p l e ({ frames := 2, cells := 0, slots := 0, locals := 44 }) s m ([.ref M.o_Pl] : List Value).toArray below meth c H locs 0 0 Q (F0 m 82 ls [])), ∀ (y_1 : Int32) (y_2 : Int32) (y_3 : Int32) (y_4 : Int32) (S : CS) (H : Heap) (locs : List Loc) (ls : Array Slot), f_Pl_aim_111 K G rec_51 rec_82 y_1 y_2 y_3 y_4 S = some (r, S') → va_P (dC, dI) classes (wV M Y G S) H → va_D A (wV M Y G S) → va_S A s.heap H locs → lv_has ls 5 [(0, .ref M.o_Pl), (1, .int y_1), (2, .int y_2), (3, .int y_3), (4, .int y_4)] → W p l e ({ frames := 2, cells := 0, slots := 0, locals := 44 }) s m ([.ref M.o_Pl] : List Value).toArray below meth c H locs 0 0 Q (F0 m 111 ls []) := by
    intro rec_51 hr_51 rec_82 hr_82 y_1 y_2 y_3 y_4 S H locs ls h hP hD hS hl
    rw [f_Pl_aim_111] at h
    obtain ⟨x_21, ex_21, h⟩ := lf_lX h
    refine lv_iinc (v := x_21) (lv' := [(2, .int x_21), (0, .ref M.o_Pl), (1, .int y_1), (3, .int y_3), (4, .int y_4)]) hx hb d_Pl_aim_111 hl (k := 2) rfl (by rw [ex_21]; rfl) (by decide) rfl (fun ls hl => ?_)
    refine lv_goto (tgt := 82) hx hb d_Pl_aim_114 (by decide) ?_
    exact hr_82 y_1 x_21 y_3 y_4 S _ _ _ h hP hD hS (lv_sub hl [1, 2, 0, 3, 4] rfl)
  have hB_172 : ∀ (rec_51 : Int32 → Int32 → Int32 → CS → Option (Int32 × CS)) (hr_51 : ∀ (y_1 : Int32) (y_2 : Int32) (y_3 : Int32) (S : CS) (H : Heap) (locs : List Loc) (ls : Array Slot), rec_51 y_1 y_2 y_3 S = some (r, S') → va_P (dC, dI) classes (wV M Y G S) H → va_D A (wV M Y G S) → va_S A s.heap H locs → lv_has ls 5 [(0, .ref M.o_Pl), (1, .int y_1), (2, .int y_2), (3, .int y_3)] → W p l e ({ frames := 2, cells := 0, slots := 0, locals := 44 }) s m ([.ref M.o_Pl] : List Value).toArray below meth c H locs 0 0 Q (F0 m 51 ls [])), ∀ (y_1 : Int32) (y_2 : Int32) (y_3 : Int32) (S : CS) (H : Heap) (locs : List Loc) (ls : Array Slot), f_Pl_aim_172 K G rec_51 y_1 y_2 y_3 S = some (r, S') → va_P (dC, dI) classes (wV M Y G S) H → va_D A (wV M Y G S) → va_S A s.heap H locs → lv_has ls 5 [(0, .ref M.o_Pl), (1, .int y_1), (2, .int y_2), (3, .int y_3)] → W p l e ({ frames := 2, cells := 0, slots := 0, locals := 44 }) s m ([.ref M.o_Pl] : List Value).toArray below meth c H locs 0 0 Q (F0 m 172 ls []) := by
    intro rec_51 hr_51 y_1 y_2 y_3 S H locs ls h hP hD hS hl
    rw [f_Pl_aim_172] at h
    obtain ⟨x_29, ex_29, h⟩ := lf_lX h
    refine lv_iinc (v := x_29) (lv' := [(3, .int x_29), (0, .ref M.o_Pl), (1, .int y_1), (2, .int y_2)]) hx hb d_Pl_aim_172 hl (k := 3) rfl (by rw [ex_29]; rfl) (by decide) rfl (fun ls hl => ?_)
    refine lv_goto (tgt := 51) hx hb d_Pl_aim_175 (by decide) ?_
    exact hr_51 y_1 y_2 x_29 S _ _ _ h hP hD hS (lv_sub hl [1, 2, 3, 0] rfl)
  have hB_144 : ∀ (rec_51 : Int32 → Int32 → Int32 → CS → Option (Int32 × CS)) (hr_51 : ∀ (y_1 : Int32) (y_2 : Int32) (y_3 : Int32) (S : CS) (H : Heap) (locs : List Loc) (ls : Array Slot), rec_51 y_1 y_2 y_3 S = some (r, S') → va_P (dC, dI) classes (wV M Y G S) H → va_D A (wV M Y G S) → va_S A s.heap H locs → lv_has ls 5 [(0, .ref M.o_Pl), (1, .int y_1), (2, .int y_2), (3, .int y_3)] → W p l e ({ frames := 2, cells := 0, slots := 0, locals := 44 }) s m ([.ref M.o_Pl] : List Value).toArray below meth c H locs 0 0 Q (F0 m 51 ls [])), ∀ (y_1 : Int32) (y_2 : Int32) (y_3 : Int32) (y_4 : Int32) (z_1 : Int32) (z_2 : Int32) (S : CS) (H : Heap) (locs : List Loc) (ls : Array Slot), f_Pl_aim_144 K G rec_51 y_1 y_2 y_3 y_4 z_1 z_2 S = some (r, S') → va_P (dC, dI) classes (wV M Y G S) H → va_D A (wV M Y G S) → va_S A s.heap H locs → lv_has ls 5 [(0, .ref M.o_Pl), (1, .int y_1), (2, .int y_2), (3, .int y_3), (4, .int y_4)] → W p l e ({ frames := 2, cells := 0, slots := 0, locals := 44 }) s m ([.ref M.o_Pl] : List Value).toArray below meth c H locs 0 0 Q (F0 m 144 ls [.int z_2, .int z_1, .ref M.o_Tb]) := by
    intro rec_51 hr_51 y_1 y_2 y_3 y_4 z_1 z_2 S H locs ls h hP hD hS hl
    rw [f_Pl_aim_144] at h
    obtain ⟨S_23, hc_23, h⟩ := lf_bE h
    have hFc := lx_free hD hS hA
    refine va_callv (va_runV (As := [.int z_1, .int z_2]) (rest := []) ⟨hx, hb, hml, hown, hts⟩ (l_Tb_setGoal l dC dI X _ hc_23) (cwV 2 hts (gwV good_Vq (u_Vq_Pl _ k_Pl_78) (u_Vq_Tb _ k_Tb_70) (u_Vq_Tb _ k_Tb_71) (u_Vq_Tb _ k_Tb_0) (wcs (u_Vq_Tb _ k_Tb_72) (fun _ h => h))) rfl rfl rfl (by decide +kernel) ⟨Nat.le_of_ble_eq_true rfl, Nat.le_of_ble_eq_true rfl⟩) (pv_ofE (X.same _) (fun U z1 z2 => X.mono _ _ U hFc (hEw _ _ hS U z1 z2)) hP hK hD (va_recv hK hP (ci := 4) (q0 := 3) rfl rfl)) rfl rfl hl.1 rfl (lv_room (Nat.le_of_ble_eq_true rfl)) d_Pl_aim_144 ⟨by decide, by decide⟩) hS (fun q _ h => hFc q h) hFc (fun u t H locs ht hvm hw hB hz1 hk1 hS => ?_)
    obtain ⟨hP, -, hD⟩ := hB
    rw [ht] at hP
    have hD := lx_dj hD hFc
    refine lv_iload hx hb d_Pl_aim_147 (lv_at hl 4 rfl) ?_
    refine lv_if_eq (tgt := 172) hx hb d_Pl_aim_149 (by decide) (fun c_24 => ?_) (fun c_24 => ?_)
    · have h := lf_t h c_24
      exact hB_172 _ hr_51 y_1 y_2 y_3 S_23 _ _ _ h hP hD hS (lv_sub hl [0, 1, 2, 3] rfl)
    · have h := lf_f h c_24
      refine lv_aload_n hx hb d_Pl_aim_152 rfl (lv_at hl 0 rfl) ?_
      refine va_get (D := (dC, dI)) (ci := 9) (v := .ref M.a_Pl_aimedAt) (C := R_Pl) (T := F_Pl) (N := 17) hx hb hts (fun w h => u_Vq_Pl w (i_Pl w h)) hown hK hP 7 rfl rfl 6 (by decide) (hts _ (u_Vq_Pl _ k_Pl_17)) (fun _ h9 => h9) rfl d_Pl_aim_153 ?_
      refine lv_iload_n hx hb d_Pl_aim_156 rfl (lv_at hl 2 rfl) ?_
      refine lv_iconst (v := 1) hx hb d_Pl_aim_157 (by decide) ?_
      obtain ⟨g_25, h⟩ := lf_gE h
      refine va_zast hx hb hK hP hD hS 41 1 rfl rfl g_25 d_Pl_aim_158 (fun H locs hP hD hS => ?_)
      obtain ⟨S_26, eS_26, h⟩ := lf_lX h
      have hP := ly_newP eS_26 hP
      have hD := ly_newD eS_26 hD
      refine lv_aload_n hx hb d_Pl_aim_159 rfl (lv_at hl 0 rfl) ?_
      refine lv_dup hx hb d_Pl_aim_160 rfl ?_
      refine va_get (D := (dC, dI)) (ci := 9) (v := .int S_26.v_Pl_moves) (C := R_Pl) (T := F_Pl) (N := 17) hx hb hts (fun w h => u_Vq_Pl w (i_Pl w h)) hown hK hP 7 rfl rfl 14 (by decide) (hts _ (u_Vq_Pl _ k_Pl_25)) (fun _ h9 => h9) rfl d_Pl_aim_161 ?_
      refine lv_iconst (v := 1) hx hb d_Pl_aim_164 (by decide) ?_
      refine lv_iadd hx hb d_Pl_aim_165 ?_
      refine va_put (D := (dC, dI)) (ci := 9) (v := .int (S_26.v_Pl_moves + 1)) (ty := .int) (C := R_Pl) (T := F_Pl) (N := 17) hx hb hts (fun w h => u_Vq_Pl w (i_Pl w h)) t_Pl t_Pl_ok n_Pl hown hK hP hD hS 7 rfl rfl 14 (by decide) (hts _ (u_Vq_Pl _ k_Pl_25)) (fun _ h9 => h9) rfl (by decide +kernel) rfl rfl (Nat.le_of_ble_eq_true rfl) d_Pl_aim_166 (fun H locs hP hD hS => ?_)
      obtain ⟨S_27, eS_27, h⟩ := lf_lX h
      have hP := ly_newP eS_27 hP
      have hD := ly_newD eS_27 hD
      obtain ⟨x_28, ex_28, h⟩ := lf_lX h
      refine lv_iinc (v := x_28) (lv' := [(2, .int x_28), (0, .ref M.o_Pl), (1, .int y_1), (3, .int y_3), (4, .int y_4)]) hx hb d_Pl_aim_169 hl (k := 2) rfl (by rw [ex_28]; rfl) (by decide) rfl (fun ls hl => ?_)
      exact hB_172 _ hr_51 y_1 x_28 y_3 S_27 _ _ _ h hP hD hS (lv_sub hl [1, 2, 0, 3] rfl)
  have hB_129 : ∀ (rec_51 : Int32 → Int32 → Int32 → CS → Option (Int32 × CS)) (hr_51 : ∀ (y_1 : Int32) (y_2 : Int32) (y_3 : Int32) (S : CS) (H : Heap) (locs : List Loc) (ls : Array Slot), rec_51 y_1 y_2 y_3 S = some (r, S') → va_P (dC, dI) classes (wV M Y G S) H → va_D A (wV M Y G S) → va_S A s.heap H locs → lv_has ls 5 [(0, .ref M.o_Pl), (1, .int y_1), (2, .int y_2), (3, .int y_3)] → W p l e ({ frames := 2, cells := 0, slots := 0, locals := 44 }) s m ([.ref M.o_Pl] : List Value).toArray below meth c H locs 0 0 Q (F0 m 51 ls [])), ∀ (y_1 : Int32) (y_2 : Int32) (y_3 : Int32) (y_4 : Int32) (S : CS) (H : Heap) (locs : List Loc) (ls : Array Slot), f_Pl_aim_129 K G rec_51 y_1 y_2 y_3 y_4 S = some (r, S') → va_P (dC, dI) classes (wV M Y G S) H → va_D A (wV M Y G S) → va_S A s.heap H locs → lv_has ls 5 [(0, .ref M.o_Pl), (1, .int y_1), (2, .int y_2), (3, .int y_3), (4, .int y_4)] → W p l e ({ frames := 2, cells := 0, slots := 0, locals := 44 }) s m ([.ref M.o_Pl] : List Value).toArray below meth c H locs 0 0 Q (F0 m 129 ls []) := by
    intro rec_51 hr_51 y_1 y_2 y_3 y_4 S H locs ls h hP hD hS hl
    rw [f_Pl_aim_129] at h
    refine lv_aload_n hx hb d_Pl_aim_129 rfl (lv_at hl 0 rfl) ?_
    refine va_get (D := (dC, dI)) (ci := 9) (v := .ref M.o_Tb) (C := R_Pl) (T := F_Pl) (N := 17) hx hb hts (fun w h => u_Vq_Pl w (i_Pl w h)) hown hK hP 7 rfl rfl 1 (by decide) (hts _ (u_Vq_Pl _ k_Pl_12)) (fun _ h9 => h9) rfl d_Pl_aim_130 ?_
    refine lv_iload_n hx hb d_Pl_aim_133 rfl (lv_at hl 3 rfl) ?_
    refine lv_iload hx hb d_Pl_aim_134 (lv_at hl 4 rfl) ?_
    refine lv_if_eq (tgt := 143) hx hb d_Pl_aim_136 (by decide) (fun c_22 => ?_) (fun c_22 => ?_)
    · have h := lf_t h c_22
      refine lv_iconst (v := 0) hx hb d_Pl_aim_143 (by decide) ?_
      exact hB_144 _ hr_51 y_1 y_2 y_3 y_4 y_3 0 S _ _ _ h hP hD hS (lv_sub hl [0, 1, 2, 3, 4] rfl)
    · have h := lf_f h c_22
      refine lv_iload_n hx hb d_Pl_aim_139 rfl (lv_at hl 2 rfl) ?_
      refine lv_goto (tgt := 144) hx hb d_Pl_aim_140 (by decide) ?_
      exact hB_144 _ hr_51 y_1 y_2 y_3 y_4 y_3 y_2 S _ _ _ h hP hD hS (lv_sub hl [0, 1, 2, 3, 4] rfl)
  have hB_117 : ∀ (rec_51 : Int32 → Int32 → Int32 → CS → Option (Int32 × CS)) (hr_51 : ∀ (y_1 : Int32) (y_2 : Int32) (y_3 : Int32) (S : CS) (H : Heap) (locs : List Loc) (ls : Array Slot), rec_51 y_1 y_2 y_3 S = some (r, S') → va_P (dC, dI) classes (wV M Y G S) H → va_D A (wV M Y G S) → va_S A s.heap H locs → lv_has ls 5 [(0, .ref M.o_Pl), (1, .int y_1), (2, .int y_2), (3, .int y_3)] → W p l e ({ frames := 2, cells := 0, slots := 0, locals := 44 }) s m ([.ref M.o_Pl] : List Value).toArray below meth c H locs 0 0 Q (F0 m 51 ls [])), ∀ (y_1 : Int32) (y_2 : Int32) (y_3 : Int32) (y_4 : Int32) (S : CS) (H : Heap) (locs : List Loc) (ls : Array Slot), f_Pl_aim_117 K G rec_51 y_1 y_2 y_3 y_4 S = some (r, S') → va_P (dC, dI) classes (wV M Y G S) H → va_D A (wV M Y G S) → va_S A s.heap H locs → lv_has ls 5 [(0, .ref M.o_Pl), (1, .int y_1), (2, .int y_2), (3, .int y_3), (4, .int y_4)] → W p l e ({ frames := 2, cells := 0, slots := 0, locals := 44 }) s m ([.ref M.o_Pl] : List Value).toArray below meth c H locs 0 0 Q (F0 m 117 ls []) := by
    intro rec_51 hr_51 y_1 y_2 y_3 y_4 S H locs ls h hP hD hS hl
    rw [f_Pl_aim_117] at h
    refine lv_iload hx hb d_Pl_aim_117 (lv_at hl 4 rfl) ?_
    refine lv_if_eq (tgt := 129) hx hb d_Pl_aim_119 (by decide) (fun c_19 => ?_) (fun c_19 => ?_)
    · have h := lf_t h c_19
      exact hB_129 _ hr_51 y_1 y_2 y_3 y_4 S _ _ _ h hP hD hS (lv_sub hl [0, 1, 2, 3, 4] rfl)
    · have h := lf_f h c_19
      refine lv_iload_n hx hb d_Pl_aim_122 rfl (lv_at hl 2 rfl) ?_
      refine lv_iload_n hx hb d_Pl_aim_123 rfl (lv_at hl 1 rfl) ?_
      refine lv_icmp_lt (tgt := 129) hx hb d_Pl_aim_124 (by decide) (fun c_20 => ?_) (fun c_20 => ?_)
      · have h := lf_t h c_20
        exact hB_129 _ hr_51 y_1 y_2 y_3 y_4 S _ _ _ h hP hD hS (lv_sub hl [0, 1, 2, 3, 4] rfl)
      · have h := lf_f h c_20
        refine lv_iconst (v := 0) hx hb d_Pl_aim_127 (by decide) ?_
        rw [hQ]
        have e1 : (0 : Int32) = r := congrArg Prod.fst (Option.some.inj h)
        have e2 : S = S' := congrArg Prod.snd (Option.some.inj h)
        have hP := ly_newP e2.symm hP
        have hD := ly_newD e2.symm hD
        exact W.zret (v := 0) hx hb hr rfl (fun t ht hW => ⟨⟨0, (), rfl, e1, by rw [ht]; exact hP, va_K.moved hW.alike hK, hD⟩, hS.F ht⟩) hS.2.2 d_Pl_aim_128
  have hB_82 : ∀ (rec_51 : Int32 → Int32 → Int32 → CS → Option (Int32 × CS)) (hr_51 : ∀ (y_1 : Int32) (y_2 : Int32) (y_3 : Int32) (S : CS) (H : Heap) (locs : List Loc) (ls : Array Slot), rec_51 y_1 y_2 y_3 S = some (r, S') → va_P (dC, dI) classes (wV M Y G S) H → va_D A (wV M Y G S) → va_S A s.heap H locs → lv_has ls 5 [(0, .ref M.o_Pl), (1, .int y_1), (2, .int y_2), (3, .int y_3)] → W p l e ({ frames := 2, cells := 0, slots := 0, locals := 44 }) s m ([.ref M.o_Pl] : List Value).toArray below meth c H locs 0 0 Q (F0 m 51 ls [])) (k : Nat), ∀ (y_1 : Int32) (y_2 : Int32) (y_3 : Int32) (y_4 : Int32) (S : CS) (H : Heap) (locs : List Loc) (ls : Array Slot), f_Pl_aim_82 K G rec_51 k y_1 y_2 y_3 y_4 S = some (r, S') → va_P (dC, dI) classes (wV M Y G S) H → va_D A (wV M Y G S) → va_S A s.heap H locs → lv_has ls 5 [(0, .ref M.o_Pl), (1, .int y_1), (2, .int y_2), (3, .int y_3), (4, .int y_4)] → W p l e ({ frames := 2, cells := 0, slots := 0, locals := 44 }) s m ([.ref M.o_Pl] : List Value).toArray below meth c H locs 0 0 Q (F0 m 82 ls []) := by
    intro rec_51 hr_51 k
    induction k with
    | zero => intro y_1 y_2 y_3 y_4 S H locs ls h; exact lf_no h
    | succ k hr_82 =>
      intro y_1 y_2 y_3 y_4 S H locs ls h hP hD hS hl
      rw [f_Pl_aim_82] at h
      refine lv_iload hx hb d_Pl_aim_82 (lv_at hl 4 rfl) ?_
      refine lv_if_eq (tgt := 117) hx hb d_Pl_aim_84 (by decide) (fun c_13 => ?_) (fun c_13 => ?_)
      · have h := lf_t h c_13
        exact hB_117 _ hr_51 y_1 y_2 y_3 y_4 S _ _ _ h hP hD hS (lv_sub hl [0, 1, 2, 3, 4] rfl)
      · have h := lf_f h c_13
        refine lv_iload_n hx hb d_Pl_aim_87 rfl (lv_at hl 2 rfl) ?_
        refine lv_iload_n hx hb d_Pl_aim_88 rfl (lv_at hl 1 rfl) ?_
        refine lv_icmp_ge (tgt := 117) hx hb d_Pl_aim_89 (by decide) (fun c_14 => ?_) (fun c_14 => ?_)
        · have h := lf_t h c_14
          exact hB_117 _ hr_51 y_1 y_2 y_3 y_4 S _ _ _ h hP hD hS (lv_sub hl [0, 1, 2, 3, 4] rfl)
        · have h := lf_f h c_14
          refine lv_aload_n hx hb d_Pl_aim_92 rfl (lv_at hl 0 rfl) ?_
          refine va_get (D := (dC, dI)) (ci := 9) (v := .ref M.o_Tb) (C := R_Pl) (T := F_Pl) (N := 17) hx hb hts (fun w h => u_Vq_Pl w (i_Pl w h)) hown hK hP 7 rfl rfl 1 (by decide) (hts _ (u_Vq_Pl _ k_Pl_12)) (fun _ h9 => h9) rfl d_Pl_aim_93 ?_
          refine lv_iload_n hx hb d_Pl_aim_96 rfl (lv_at hl 2 rfl) ?_
          obtain ⟨r_15, S_15, hc_15, h⟩ := lf_cE h
          have hFc := lx_free hD hS hA
          refine va_calli (va_runV (As := [.int y_2]) (rest := []) ⟨hx, hb, hml, hown, hts⟩ (l_Tb_isFree l dC dI X _ hc_15) (cwV 1 hts (gwV good_Vq (u_Vq_Pl _ k_Pl_71) (u_Vq_Tb _ k_Tb_63) (u_Vq_Tb _ k_Tb_64) (u_Vq_Tb _ k_Tb_0) (wcs (u_Vq_Tb _ k_Tb_65) (fun _ h => h))) rfl rfl rfl (by decide +kernel) ⟨Nat.le_of_ble_eq_true rfl, Nat.le_of_ble_eq_true rfl⟩) (pv_ofE (X.same _) (fun U z1 z2 => X.mono _ _ U hFc (hEw _ _ hS U z1 z2)) hP hK hD (va_recv hK hP (ci := 4) (q0 := 3) rfl rfl)) rfl rfl hl.1 rfl (lv_room (Nat.le_of_ble_eq_true rfl)) d_Pl_aim_97 ⟨by decide, by decide⟩) hS (fun q _ h => hFc q h) hFc (fun r_ u t H locs ht hvm hw hB hz1 hk1 hS => ?_)
          rw [hw]
          obtain ⟨hP, -, hD⟩ := hB
          rw [ht] at hP
          have hD := lx_dj hD hFc
          refine lv_if_eq (tgt := 111) hx hb d_Pl_aim_100 (by decide) (fun c_16 => ?_) (fun c_16 => ?_)
          · have h := lf_t h c_16
            exact hB_111 _ hr_51 _ hr_82 y_1 y_2 y_3 y_4 S_15 _ _ _ h hP hD hS (lv_sub hl [0, 1, 2, 3, 4] rfl)
          · have h := lf_f h c_16
            refine lv_aload_n hx hb d_Pl_aim_103 rfl (lv_at hl 0 rfl) ?_
            refine lv_iload_n hx hb d_Pl_aim_104 rfl (lv_at hl 2 rfl) ?_
            obtain ⟨r_17, S_17, hc_17, h⟩ := lf_cE h
            have hFc := lx_free hD hS hA
            refine va_calli (va_runV (As := [.int y_2]) (rest := []) ⟨hx, hb, hml, hown, hts⟩ (l_Pl_hasFixed l dC dI X _ hc_17) (cwV 1 hts (gwV good_Vq (u_Vq_Pl _ k_Pl_72) (u_Vq_Pl _ k_Pl_73) (u_Vq_Pl _ k_Pl_172) (u_Vq_Pl _ k_Pl_0) (wcs (u_Vq_Pl _ k_Pl_74) (fun _ h => h))) rfl rfl rfl (by decide +kernel) ⟨Nat.le_of_ble_eq_true rfl, Nat.le_of_ble_eq_true rfl⟩) (pv_ofE (X.same _) (fun U z1 z2 => X.mono _ _ U hFc (hEw _ _ hS U z1 z2)) hP hK hD (va_recv hK hP (ci := 9) (q0 := 7) rfl rfl)) rfl rfl hl.1 rfl (lv_room (Nat.le_of_ble_eq_true rfl)) d_Pl_aim_105 ⟨by decide, by decide⟩) hS (fun q _ h => hFc q h) hFc (fun r_ u t H locs ht hvm hw hB hz1 hk1 hS => ?_)
            rw [hw]
            obtain ⟨hP, -, hD⟩ := hB
            rw [ht] at hP
            have hD := lx_dj hD hFc
            refine lv_if_eq (tgt := 117) hx hb d_Pl_aim_108 (by decide) (fun c_18 => ?_) (fun c_18 => ?_)
            · have h := lf_t h c_18
              exact hB_117 _ hr_51 y_1 y_2 y_3 y_4 S_17 _ _ _ h hP hD hS (lv_sub hl [0, 1, 2, 3, 4] rfl)
            · have h := lf_f h c_18
              exact hB_111 _ hr_51 _ hr_82 y_1 y_2 y_3 y_4 S_17 _ _ _ h hP hD hS (lv_sub hl [0, 1, 2, 3, 4] rfl)
  have hB_80 : ∀ (rec_51 : Int32 → Int32 → Int32 → CS → Option (Int32 × CS)) (hr_51 : ∀ (y_1 : Int32) (y_2 : Int32) (y_3 : Int32) (S : CS) (H : Heap) (locs : List Loc) (ls : Array Slot), rec_51 y_1 y_2 y_3 S = some (r, S') → va_P (dC, dI) classes (wV M Y G S) H → va_D A (wV M Y G S) → va_S A s.heap H locs → lv_has ls 5 [(0, .ref M.o_Pl), (1, .int y_1), (2, .int y_2), (3, .int y_3)] → W p l e ({ frames := 2, cells := 0, slots := 0, locals := 44 }) s m ([.ref M.o_Pl] : List Value).toArray below meth c H locs 0 0 Q (F0 m 51 ls [])), ∀ (y_1 : Int32) (y_2 : Int32) (y_3 : Int32) (z_0 : Int32) (S : CS) (H : Heap) (locs : List Loc) (ls : Array Slot), f_Pl_aim_80 K G rec_51 y_1 y_2 y_3 z_0 S = some (r, S') → va_P (dC, dI) classes (wV M Y G S) H → va_D A (wV M Y G S) → va_S A s.heap H locs → lv_has ls 5 [(0, .ref M.o_Pl), (1, .int y_1), (2, .int y_2), (3, .int y_3)] → W p l e ({ frames := 2, cells := 0, slots := 0, locals := 44 }) s m ([.ref M.o_Pl] : List Value).toArray below meth c H locs 0 0 Q (F0 m 80 ls [.int z_0]) := by
    intro rec_51 hr_51 y_1 y_2 y_3 z_0 S H locs ls h hP hD hS hl
    rw [f_Pl_aim_80] at h
    refine lv_istore (lv' := [(4, .int z_0), (0, .ref M.o_Pl), (1, .int y_1), (2, .int y_2), (3, .int y_3)]) hx hb d_Pl_aim_80 hl (by decide) rfl (fun ls hl => ?_)
    exact hB_82 _ hr_51 K y_1 y_2 y_3 z_0 S _ _ _ h hP hD hS (lv_sub hl [1, 2, 3, 4, 0] rfl)
  have hB_79 : ∀ (rec_51 : Int32 → Int32 → Int32 → CS → Option (Int32 × CS)) (hr_51 : ∀ (y_1 : Int32) (y_2 : Int32) (y_3 : Int32) (S : CS) (H : Heap) (locs : List Loc) (ls : Array Slot), rec_51 y_1 y_2 y_3 S = some (r, S') → va_P (dC, dI) classes (wV M Y G S) H → va_D A (wV M Y G S) → va_S A s.heap H locs → lv_has ls 5 [(0, .ref M.o_Pl), (1, .int y_1), (2, .int y_2), (3, .int y_3)] → W p l e ({ frames := 2, cells := 0, slots := 0, locals := 44 }) s m ([.ref M.o_Pl] : List Value).toArray below meth c H locs 0 0 Q (F0 m 51 ls [])), ∀ (y_1 : Int32) (y_2 : Int32) (y_3 : Int32) (S : CS) (H : Heap) (locs : List Loc) (ls : Array Slot), f_Pl_aim_79 K G rec_51 y_1 y_2 y_3 S = some (r, S') → va_P (dC, dI) classes (wV M Y G S) H → va_D A (wV M Y G S) → va_S A s.heap H locs → lv_has ls 5 [(0, .ref M.o_Pl), (1, .int y_1), (2, .int y_2), (3, .int y_3)] → W p l e ({ frames := 2, cells := 0, slots := 0, locals := 44 }) s m ([.ref M.o_Pl] : List Value).toArray below meth c H locs 0 0 Q (F0 m 79 ls []) := by
    intro rec_51 hr_51 y_1 y_2 y_3 S H locs ls h hP hD hS hl
    rw [f_Pl_aim_79] at h
    refine lv_iconst (v := 0) hx hb d_Pl_aim_79 (by decide) ?_
    exact hB_80 _ hr_51 y_1 y_2 y_3 0 S _ _ _ h hP hD hS (lv_sub hl [0, 1, 2, 3] rfl)
  have hB_51 : ∀ (k : Nat), ∀ (y_1 : Int32) (y_2 : Int32) (y_3 : Int32) (S : CS) (H : Heap) (locs : List Loc) (ls : Array Slot), f_Pl_aim_51 K G k y_1 y_2 y_3 S = some (r, S') → va_P (dC, dI) classes (wV M Y G S) H → va_D A (wV M Y G S) → va_S A s.heap H locs → lv_has ls 5 [(0, .ref M.o_Pl), (1, .int y_1), (2, .int y_2), (3, .int y_3)] → W p l e ({ frames := 2, cells := 0, slots := 0, locals := 44 }) s m ([.ref M.o_Pl] : List Value).toArray below meth c H locs 0 0 Q (F0 m 51 ls []) := by
    intro k
    induction k with
    | zero => intro y_1 y_2 y_3 S H locs ls h; exact lf_no h
    | succ k hr_51 =>
      intro y_1 y_2 y_3 S H locs ls h hP hD hS hl
      rw [f_Pl_aim_51] at h
      refine lv_iload_n hx hb d_Pl_aim_51 rfl (lv_at hl 3 rfl) ?_
      refine lv_iload_n hx hb d_Pl_aim_52 rfl (lv_at hl 1 rfl) ?_
      refine lv_icmp_ge (tgt := 178) hx hb d_Pl_aim_53 (by decide) (fun c_7 => ?_) (fun c_7 => ?_)
      · have h := lf_t h c_7
        refine lv_aload_n hx hb d_Pl_aim_178 rfl (lv_at hl 0 rfl) ?_
        refine lv_iload_n hx hb d_Pl_aim_179 rfl (lv_at hl 1 rfl) ?_
        obtain ⟨S_8, hc_8, h⟩ := lf_bE h
        have hFc := lx_free hD hS hA
        refine va_callv (va_runV (As := [.int y_1]) (rest := []) ⟨hx, hb, hml, hown, hts⟩ (l_Pl_findRooms l dC dI X _ hc_8) (cwV 1 hts (gwV good_Vq (u_Vq_Pl _ k_Pl_79) (u_Vq_Pl _ k_Pl_80) (u_Vq_Pl _ k_Pl_174) (u_Vq_Pl _ k_Pl_0) (wcs (u_Vq_Pl _ k_Pl_81) (fun _ h => h))) rfl rfl rfl (by decide +kernel) ⟨Nat.le_of_ble_eq_true rfl, Nat.le_of_ble_eq_true rfl⟩) (pv_ofE (X.same _) (fun U z1 z2 => X.mono _ _ U hFc (hEw _ _ hS U z1 z2)) hP hK hD (va_recv hK hP (ci := 9) (q0 := 7) rfl rfl)) rfl rfl hl.1 rfl (lv_room (Nat.le_of_ble_eq_true rfl)) d_Pl_aim_180 ⟨by decide, by decide⟩) hS (fun q _ h => hFc q h) hFc (fun u t H locs ht hvm hw hB hz1 hk1 hS => ?_)
        obtain ⟨hP, -, hD⟩ := hB
        rw [ht] at hP
        have hD := lx_dj hD hFc
        refine lv_iconst (v := 1) hx hb d_Pl_aim_183 (by decide) ?_
        rw [hQ]
        have e1 : (1 : Int32) = r := congrArg Prod.fst (Option.some.inj h)
        have e2 : S_8 = S' := congrArg Prod.snd (Option.some.inj h)
        have hP := ly_newP e2.symm hP
        have hD := ly_newD e2.symm hD
        exact W.zret (v := 1) hx hb hr rfl (fun t ht hW => ⟨⟨1, (), rfl, e1, by rw [ht]; exact hP, va_K.moved hW.alike hK, hD⟩, hS.F ht⟩) hS.2.2 d_Pl_aim_184
      · have h := lf_f h c_7
        refine lv_aload_n hx hb d_Pl_aim_56 rfl (lv_at hl 0 rfl) ?_
        refine va_get (D := (dC, dI)) (ci := 9) (v := .ref M.o_Tb) (C := R_Pl) (T := F_Pl) (N := 17) hx hb hts (fun w h => u_Vq_Pl w (i_Pl w h)) hown hK hP 7 rfl rfl 1 (by decide) (hts _ (u_Vq_Pl _ k_Pl_12)) (fun _ h9 => h9) rfl d_Pl_aim_57 ?_
        refine lv_iload_n hx hb d_Pl_aim_60 rfl (lv_at hl 3 rfl) ?_
        obtain ⟨r_9, S_9, hc_9, h⟩ := lf_cE h
        have hFc := lx_free hD hS hA
        refine va_calli (va_runV (As := [.int y_3]) (rest := []) ⟨hx, hb, hml, hown, hts⟩ (l_Tb_isFree l dC dI X _ hc_9) (cwV 1 hts (gwV good_Vq (u_Vq_Pl _ k_Pl_71) (u_Vq_Tb _ k_Tb_63) (u_Vq_Tb _ k_Tb_64) (u_Vq_Tb _ k_Tb_0) (wcs (u_Vq_Tb _ k_Tb_65) (fun _ h => h))) rfl rfl rfl (by decide +kernel) ⟨Nat.le_of_ble_eq_true rfl, Nat.le_of_ble_eq_true rfl⟩) (pv_ofE (X.same _) (fun U z1 z2 => X.mono _ _ U hFc (hEw _ _ hS U z1 z2)) hP hK hD (va_recv hK hP (ci := 4) (q0 := 3) rfl rfl)) rfl rfl hl.1 rfl (lv_room (Nat.le_of_ble_eq_true rfl)) d_Pl_aim_61 ⟨by decide, by decide⟩) hS (fun q _ h => hFc q h) hFc (fun r_ u t H locs ht hvm hw hB hz1 hk1 hS => ?_)
        rw [hw]
        obtain ⟨hP, -, hD⟩ := hB
        rw [ht] at hP
        have hD := lx_dj hD hFc
        refine lv_if_ne (tgt := 79) hx hb d_Pl_aim_64 (by decide) (fun c_10 => ?_) (fun c_10 => ?_)
        · have h := lf_f h c_10
          exact hB_79 _ hr_51 y_1 y_2 y_3 S_9 _ _ _ h hP hD hS (lv_sub hl [0, 1, 2, 3] rfl)
        · have h := lf_t h c_10
          refine lv_aload_n hx hb d_Pl_aim_67 rfl (lv_at hl 0 rfl) ?_
          refine lv_iload_n hx hb d_Pl_aim_68 rfl (lv_at hl 3 rfl) ?_
          obtain ⟨r_11, S_11, hc_11, h⟩ := lf_cE h
          have hFc := lx_free hD hS hA
          refine va_calli (va_runV (As := [.int y_3]) (rest := []) ⟨hx, hb, hml, hown, hts⟩ (l_Pl_hasFixed l dC dI X _ hc_11) (cwV 1 hts (gwV good_Vq (u_Vq_Pl _ k_Pl_72) (u_Vq_Pl _ k_Pl_73) (u_Vq_Pl _ k_Pl_172) (u_Vq_Pl _ k_Pl_0) (wcs (u_Vq_Pl _ k_Pl_74) (fun _ h => h))) rfl rfl rfl (by decide +kernel) ⟨Nat.le_of_ble_eq_true rfl, Nat.le_of_ble_eq_true rfl⟩) (pv_ofE (X.same _) (fun U z1 z2 => X.mono _ _ U hFc (hEw _ _ hS U z1 z2)) hP hK hD (va_recv hK hP (ci := 9) (q0 := 7) rfl rfl)) rfl rfl hl.1 rfl (lv_room (Nat.le_of_ble_eq_true rfl)) d_Pl_aim_69 ⟨by decide, by decide⟩) hS (fun q _ h => hFc q h) hFc (fun r_ u t H locs ht hvm hw hB hz1 hk1 hS => ?_)
          rw [hw]
          obtain ⟨hP, -, hD⟩ := hB
          rw [ht] at hP
          have hD := lx_dj hD hFc
          refine lv_if_eq (tgt := 79) hx hb d_Pl_aim_72 (by decide) (fun c_12 => ?_) (fun c_12 => ?_)
          · have h := lf_t h c_12
            exact hB_79 _ hr_51 y_1 y_2 y_3 S_11 _ _ _ h hP hD hS (lv_sub hl [0, 1, 2, 3] rfl)
          · have h := lf_f h c_12
            refine lv_iconst (v := 1) hx hb d_Pl_aim_75 (by decide) ?_
            refine lv_goto (tgt := 80) hx hb d_Pl_aim_76 (by decide) ?_
            exact hB_80 _ hr_51 y_1 y_2 y_3 1 S_11 _ _ _ h hP hD hS (lv_sub hl [0, 1, 2, 3] rfl)
  have hB_20 : ∀ (k : Nat), ∀ (y_1 : Int32) (y_2 : Int32) (S : CS) (H : Heap) (locs : List Loc) (ls : Array Slot), f_Pl_aim_20 K G k y_1 y_2 S = some (r, S') → va_P (dC, dI) classes (wV M Y G S) H → va_D A (wV M Y G S) → va_S A s.heap H locs → lv_has ls 5 [(0, .ref M.o_Pl), (1, .int y_1), (2, .int y_2)] → W p l e ({ frames := 2, cells := 0, slots := 0, locals := 44 }) s m ([.ref M.o_Pl] : List Value).toArray below meth c H locs 0 0 Q (F0 m 20 ls []) := by
    intro k
    induction k with
    | zero => intro y_1 y_2 S H locs ls h; exact lf_no h
    | succ k hr_20 =>
      intro y_1 y_2 S H locs ls h hP hD hS hl
      rw [f_Pl_aim_20] at h
      refine lv_iload_n hx hb d_Pl_aim_20 rfl (lv_at hl 2 rfl) ?_
      refine lv_aload_n hx hb d_Pl_aim_21 rfl (lv_at hl 0 rfl) ?_
      refine va_get (D := (dC, dI)) (ci := 9) (v := .ref M.a_Pl_aimedAt) (C := R_Pl) (T := F_Pl) (N := 17) hx hb hts (fun w h => u_Vq_Pl w (i_Pl w h)) hown hK hP 7 rfl rfl 6 (by decide) (hts _ (u_Vq_Pl _ k_Pl_17)) (fun _ h9 => h9) rfl d_Pl_aim_22 ?_
      refine va_alen (v := nI (G.n / 2 + 2)) hx hb hK hP 41 1 rfl rfl rfl d_Pl_aim_25 ?_
      refine lv_icmp_ge (tgt := 42) hx hb d_Pl_aim_26 (by decide) (fun c_2 => ?_) (fun c_2 => ?_)
      · have h := lf_t h c_2
        refine lv_aload_n hx hb d_Pl_aim_42 rfl (lv_at hl 0 rfl) ?_
        refine lv_iconst (v := 0) hx hb d_Pl_aim_43 (by decide) ?_
        refine va_put (D := (dC, dI)) (ci := 9) (v := .int 0) (ty := .int) (C := R_Pl) (T := F_Pl) (N := 17) hx hb hts (fun w h => u_Vq_Pl w (i_Pl w h)) t_Pl t_Pl_ok n_Pl hown hK hP hD hS 7 rfl rfl 14 (by decide) (hts _ (u_Vq_Pl _ k_Pl_25)) (fun _ h9 => h9) rfl (by decide +kernel) rfl rfl (Nat.le_of_ble_eq_true rfl) d_Pl_aim_44 (fun H locs hP hD hS => ?_)
        obtain ⟨S_3, eS_3, h⟩ := lf_lX h
        have hP := ly_newP eS_3 hP
        have hD := ly_newD eS_3 hD
        refine lv_iconst (v := 2) hx hb d_Pl_aim_47 (by decide) ?_
        refine lv_istore_n (lv' := [(2, .int 2), (0, .ref M.o_Pl), (1, .int y_1)]) hx hb d_Pl_aim_48 rfl hl (by decide) rfl (fun ls hl => ?_)
        refine lv_iconst (v := 2) hx hb d_Pl_aim_49 (by decide) ?_
        refine lv_istore_n (lv' := [(3, .int 2), (2, .int 2), (0, .ref M.o_Pl), (1, .int y_1)]) hx hb d_Pl_aim_50 rfl hl (by decide) rfl (fun ls hl => ?_)
        exact hB_51 K y_1 2 2 S_3 _ _ _ h hP hD hS (lv_sub hl [2, 3, 1, 0] rfl)
      · have h := lf_f h c_2
        refine lv_aload_n hx hb d_Pl_aim_29 rfl (lv_at hl 0 rfl) ?_
        refine va_get (D := (dC, dI)) (ci := 9) (v := .ref M.a_Pl_aimedAt) (C := R_Pl) (T := F_Pl) (N := 17) hx hb hts (fun w h => u_Vq_Pl w (i_Pl w h)) hown hK hP 7 rfl rfl 6 (by decide) (hts _ (u_Vq_Pl _ k_Pl_17)) (fun _ h9 => h9) rfl d_Pl_aim_30 ?_
        refine lv_iload_n hx hb d_Pl_aim_33 rfl (lv_at hl 2 rfl) ?_
        refine lv_iconst (v := 0) hx hb d_Pl_aim_34 (by decide) ?_
        obtain ⟨g_4, h⟩ := lf_gE h
        refine va_zast hx hb hK hP hD hS 41 1 rfl rfl g_4 d_Pl_aim_35 (fun H locs hP hD hS => ?_)
        obtain ⟨S_5, eS_5, h⟩ := lf_lX h
        have hP := ly_newP eS_5 hP
        have hD := ly_newD eS_5 hD
        obtain ⟨x_6, ex_6, h⟩ := lf_lX h
        refine lv_iinc (v := x_6) (lv' := [(2, .int x_6), (0, .ref M.o_Pl), (1, .int y_1)]) hx hb d_Pl_aim_36 hl (k := 2) rfl (by rw [ex_6]; rfl) (by decide) rfl (fun ls hl => ?_)
        refine lv_goto (tgt := 20) hx hb d_Pl_aim_39 (by decide) ?_
        exact hr_20 y_1 x_6 S_5 _ _ _ h hP hD hS (lv_sub hl [1, 2, 0] rfl)
  rw [f_Pl_aim] at h
  refine lv_aload_n hx hb d_Pl_aim_0 rfl (lv_at hl 0 rfl) ?_
  refine va_get (D := (dC, dI)) (ci := 9) (v := .ref M.o_Tb) (C := R_Pl) (T := F_Pl) (N := 17) hx hb hts (fun w h => u_Vq_Pl w (i_Pl w h)) hown hK hP 7 rfl rfl 1 (by decide) (hts _ (u_Vq_Pl _ k_Pl_12)) (fun _ h9 => h9) rfl d_Pl_aim_1 ?_
  refine va_get (D := (dC, dI)) (ci := 4) (v := .int S.v_Tb_clusters) (C := R_Tb) (T := F_Tb) (N := 10) hx hb hts (fun w h => u_Vq_Tb w (i_Tb w h)) hown hK hP 3 rfl rfl 7 (by decide) (hts _ (u_Vq_Pl _ k_Pl_4)) (fun _ h9 => h9) rfl d_Pl_aim_4 ?_
  refine lv_iconst (v := 2) hx hb d_Pl_aim_7 (by decide) ?_
  refine lv_iadd hx hb d_Pl_aim_8 ?_
  refine lv_aload_n hx hb d_Pl_aim_9 rfl (lv_at hl 0 rfl) ?_
  refine va_get (D := (dC, dI)) (ci := 9) (v := .ref M.a_Pl_aimedAt) (C := R_Pl) (T := F_Pl) (N := 17) hx hb hts (fun w h => u_Vq_Pl w (i_Pl w h)) hown hK hP 7 rfl rfl 6 (by decide) (hts _ (u_Vq_Pl _ k_Pl_17)) (fun _ h9 => h9) rfl d_Pl_aim_10 ?_
  refine va_alen (v := nI (G.n / 2 + 2)) hx hb hK hP 41 1 rfl rfl rfl d_Pl_aim_13 ?_
  refine va_mmin hx hb (by rw [hml]; exact hl.1.symm) hown (hts _ (u_Vq_Pl _ k_Pl_48)) (hts _ (u_Vq_J _ k_J_7)) (hts _ (u_Vq_J _ k_J_0)) (hts _ (u_Vq_J _ k_J_8)) (Nat.le_of_ble_eq_true rfl) (Nat.le_of_ble_eq_true rfl) (by decide) (by decide) d_Pl_aim_14 ?_
  refine lv_topi (fun x_1 ex_1 => ?_)
  have h := lf_lE h ex_1
  refine lv_istore_n (lv' := [(1, .int x_1), (0, .ref M.o_Pl)]) hx hb d_Pl_aim_17 rfl hl (by decide) rfl (fun ls hl => ?_)
  refine lv_iconst (v := 0) hx hb d_Pl_aim_18 (by decide) ?_
  refine lv_istore_n (lv' := [(2, .int 0), (1, .int x_1), (0, .ref M.o_Pl)]) hx hb d_Pl_aim_19 rfl hl (by decide) rfl (fun ls hl => ?_)
  exact hB_20 K x_1 0 S _ _ _ h hP hD hS (lv_sub hl [2, 1, 0] rfl)
set_option maxHeartbeats 4000000 in
set_option maxRecDepth 100000 in
theorem l_Pl_room (l : Launch) (dC : Nat → ClassId) (dI : Nat → Nat → Nat) {K : Nat} {M : CA} {E : (Nat → Prop) → State → Prop} (X : ly_X l dC dI K M E) (sz : Nat) {Y : CT} {G : CG} {S S' : CS} {p0 : Int32} {r : Int32} (h : f_Pl_room K G S p0 = some (r, S')) : Met l y_Pl_room (.code y_Pl_room cb_Pl_room 2 (some .int) :: V_Vq) ({ frames := 0, cells := 0, slots := 0, locals := 0 }) (va_Pc [.ref M.o_Pl, .int p0] (fun U => U.heap.size = sz ∧ at_ (dC, dI) (fun _ => True) (wV M Y G S) (tV M) U ∧ E (va_A (wV M Y G S) sz) U)) (va_Qi (fun (r_ : Int32) (u : Unit) => r_ = r) (fun (u : Unit) t => at_ (dC, dI) (va_A (wV M Y G S) sz) (wV M Y G S') (tV M) t) (va_A (wV M Y G S) sz)) 0 0 (va_A (wV M Y G S) sz) := by
  refine Met.ofW (cc := cb_Pl_room) (maxL := 2) (ret := (some .int)) (by decide) rfl ?_
  intro p e s m args below meth c s₁ B hml hv
  obtain ⟨rfl, hsz, ⟨hP, hK, hD0⟩, hE⟩ := hv
  have hx := B.exec
  have hb := B.bytes
  have hr := B.returns
  have hts0 := atoms_spec (ws := .code y_Pl_room cb_Pl_room 2 (some .int) :: V_Vq) B.pre
  have hts : ∀ w ∈ V_Vq, w.before ([.ref M.o_Pl, .int p0] : List Value).toArray s = true := fun w h => hts0 w (List.mem_cons_of_mem _ h)
  have hown : s.vm.findClass R_Pl = some m.cls := findClass_of_methodNamed B.named
  subst hsz
  have hD := hD0.self (sz := s.heap.size)
  generalize hAe : va_A (wV M Y G S) s.heap.size = A at hD hE ⊢
  have hA : ∀ q : Nat, s.heap.size ≤ q → A q := fun q h => by rw [← hAe]; exact Or.inr h
  have hS : va_S A s.heap s.heap [] := va_S.rf
  have hP : va_P (dC, dI) classes (wV M Y G S) s.heap := hP
  have hK : va_K (dC, dI) classes (tV M) s := hK
  have hEw : ∀ (H : Heap) (locs : List Loc), va_S A s.heap H locs → ∀ U : State, U.heap = H → s.WarmedH U.vm → E A U := fun H locs hS U hU hW => X.kept A s U H locs hE hS hU hW
  have hl := lv_entry ([.ref M.o_Pl, .int p0]) (n := 2) (Nat.le_of_ble_eq_true rfl)
  rw [lg_entry_eq]
  generalize (lg_sl ([.ref M.o_Pl, .int p0]) ++ List.replicate (2 - (lg_sl ([.ref M.o_Pl, .int p0])).length) Slot.unset).toArray = ls at hl ⊢
  have hl : lv_has ls 2 [(0, .ref M.o_Pl), (1, .int p0)] := hl
  refine qabs (fun Q hQ => ?_)
  have hB_21 : ∀ (S : CS) (H : Heap) (locs : List Loc) (ls : Array Slot), f_Pl_room_21 K G S = some (r, S') → va_P (dC, dI) classes (wV M Y G S) H → va_D A (wV M Y G S) → va_S A s.heap H locs → lv_has ls 2 [] → W p l e ({ frames := 0, cells := 0, slots := 0, locals := 0 }) s m ([.ref M.o_Pl, .int p0] : List Value).toArray below meth c H locs 0 0 Q (F0 m 21 ls []) := by
    intro S H locs ls h hP hD hS hl
    rw [f_Pl_room_21] at h
    refine lv_iconst (v := 0) hx hb d_Pl_room_21 (by decide) ?_
    rw [hQ]
    have e1 : (0 : Int32) = r := congrArg Prod.fst (Option.some.inj h)
    have e2 : S = S' := congrArg Prod.snd (Option.some.inj h)
    have hP := ly_newP e2.symm hP
    have hD := ly_newD e2.symm hD
    exact W.iret (v := 0) hx hb hr (fun t ht hW => ⟨⟨0, (), rfl, e1, by rw [ht]; exact hP, va_K.moved hW.alike hK, hD⟩, hS.F ht⟩) hS.2.2 d_Pl_room_22
  rw [f_Pl_room] at h
  refine lv_iload_n hx hb d_Pl_room_0 rfl (lv_at hl 1 rfl) ?_
  refine lv_if_lt (tgt := 21) hx hb d_Pl_room_1 (by decide) (fun c_1 => ?_) (fun c_1 => ?_)
  · have h := lf_t h c_1
    exact hB_21 S _ _ _ h hP hD hS (lv_sub hl [] rfl)
  · have h := lf_f h c_1
    refine lv_iload_n hx hb d_Pl_room_4 rfl (lv_at hl 1 rfl) ?_
    refine lv_aload_n hx hb d_Pl_room_5 rfl (lv_at hl 0 rfl) ?_
    refine va_get (D := (dC, dI)) (ci := 9) (v := .int S.v_Pl_roomCount) (C := R_Pl) (T := F_Pl) (N := 17) hx hb hts (fun w h => u_Vq_Pl w (i_Pl w h)) hown hK hP 7 rfl rfl 8 (by decide) (hts _ (u_Vq_Pl _ k_Pl_19)) (fun _ h9 => h9) rfl d_Pl_room_6 ?_
    refine lv_icmp_ge (tgt := 21) hx hb d_Pl_room_9 (by decide) (fun c_2 => ?_) (fun c_2 => ?_)
    · have h := lf_t h c_2
      exact hB_21 S _ _ _ h hP hD hS (lv_sub hl [] rfl)
    · have h := lf_f h c_2
      refine lv_aload_n hx hb d_Pl_room_12 rfl (lv_at hl 0 rfl) ?_
      refine va_get (D := (dC, dI)) (ci := 9) (v := .ref M.a_Pl_rooms) (C := R_Pl) (T := F_Pl) (N := 17) hx hb hts (fun w h => u_Vq_Pl w (i_Pl w h)) hown hK hP 7 rfl rfl 7 (by decide) (hts _ (u_Vq_Pl _ k_Pl_18)) (fun _ h9 => h9) rfl d_Pl_room_13 ?_
      refine lv_iload_n hx hb d_Pl_room_16 rfl (lv_at hl 1 rfl) ?_
      obtain ⟨g_3, h⟩ := lf_gE h
      refine va_iald hx hb hK hP 42 2 rfl rfl g_3 d_Pl_room_17 ?_
      refine lv_goto (tgt := 22) hx hb d_Pl_room_18 (by decide) ?_
      rw [hQ]
      have e1 : (S.w_Pl_rooms p0.toNatClampNeg) = r := congrArg Prod.fst (Option.some.inj h)
      have e2 : S = S' := congrArg Prod.snd (Option.some.inj h)
      have hP := ly_newP e2.symm hP
      have hD := ly_newD e2.symm hD
      exact W.iret (v := (S.w_Pl_rooms p0.toNatClampNeg)) hx hb hr (fun t ht hW => ⟨⟨(S.w_Pl_rooms p0.toNatClampNeg), (), rfl, e1, by rw [ht]; exact hP, va_K.moved hW.alike hK, hD⟩, hS.F ht⟩) hS.2.2 d_Pl_room_22
set_option maxHeartbeats 4000000 in
set_option maxRecDepth 100000 in
theorem l_Pl_addToList (l : Launch) (dC : Nat → ClassId) (dI : Nat → Nat → Nat) {K : Nat} {M : CA} {E : (Nat → Prop) → State → Prop} (X : ly_X l dC dI K M E) (sz : Nat) {Y : CT} {G : CG} {S S' : CS} {p0 : Int32} (h : f_Pl_addToList K G S p0 = some S') : Met l y_Pl_addToList (.code y_Pl_addToList cb_Pl_addToList 2 none :: V_Vq) ({ frames := 0, cells := 0, slots := 0, locals := 0 }) (va_Pc [.ref M.o_Pl, .int p0] (fun U => U.heap.size = sz ∧ at_ (dC, dI) (fun _ => True) (wV M Y G S) (tV M) U ∧ E (va_A (wV M Y G S) sz) U)) (va_Qv (fun (u : Unit) => True) (fun (u : Unit) t => at_ (dC, dI) (va_A (wV M Y G S) sz) (wV M Y G S') (tV M) t) (va_A (wV M Y G S) sz)) 0 0 (va_A (wV M Y G S) sz) := by
  refine Met.ofW (cc := cb_Pl_addToList) (maxL := 2) (ret := none) (by decide) rfl ?_
  intro p e s m args below meth c s₁ B hml hv
  obtain ⟨rfl, hsz, ⟨hP, hK, hD0⟩, hE⟩ := hv
  have hx := B.exec
  have hb := B.bytes
  have hr := B.returns
  have hts0 := atoms_spec (ws := .code y_Pl_addToList cb_Pl_addToList 2 none :: V_Vq) B.pre
  have hts : ∀ w ∈ V_Vq, w.before ([.ref M.o_Pl, .int p0] : List Value).toArray s = true := fun w h => hts0 w (List.mem_cons_of_mem _ h)
  have hown : s.vm.findClass R_Pl = some m.cls := findClass_of_methodNamed B.named
  subst hsz
  have hD := hD0.self (sz := s.heap.size)
  generalize hAe : va_A (wV M Y G S) s.heap.size = A at hD hE ⊢
  have hA : ∀ q : Nat, s.heap.size ≤ q → A q := fun q h => by rw [← hAe]; exact Or.inr h
  have hS : va_S A s.heap s.heap [] := va_S.rf
  have hP : va_P (dC, dI) classes (wV M Y G S) s.heap := hP
  have hK : va_K (dC, dI) classes (tV M) s := hK
  have hEw : ∀ (H : Heap) (locs : List Loc), va_S A s.heap H locs → ∀ U : State, U.heap = H → s.WarmedH U.vm → E A U := fun H locs hS U hU hW => X.kept A s U H locs hE hS hU hW
  have hl := lv_entry ([.ref M.o_Pl, .int p0]) (n := 2) (Nat.le_of_ble_eq_true rfl)
  rw [lg_entry_eq]
  generalize (lg_sl ([.ref M.o_Pl, .int p0]) ++ List.replicate (2 - (lg_sl ([.ref M.o_Pl, .int p0])).length) Slot.unset).toArray = ls at hl ⊢
  have hl : lv_has ls 2 [(0, .ref M.o_Pl), (1, .int p0)] := hl
  refine qabs (fun Q hQ => ?_)
  rw [f_Pl_addToList] at h
  refine lv_aload_n hx hb d_Pl_addToList_0 rfl (lv_at hl 0 rfl) ?_
  refine va_get (D := (dC, dI)) (ci := 9) (v := .int S.v_Pl_listed) (C := R_Pl) (T := F_Pl) (N := 17) hx hb hts (fun w h => u_Vq_Pl w (i_Pl w h)) hown hK hP 7 rfl rfl 10 (by decide) (hts _ (u_Vq_Pl _ k_Pl_21)) (fun _ h9 => h9) rfl d_Pl_addToList_1 ?_
  refine lv_aload_n hx hb d_Pl_addToList_4 rfl (lv_at hl 0 rfl) ?_
  refine va_get (D := (dC, dI)) (ci := 9) (v := .ref M.a_Pl_list) (C := R_Pl) (T := F_Pl) (N := 17) hx hb hts (fun w h => u_Vq_Pl w (i_Pl w h)) hown hK hP 7 rfl rfl 9 (by decide) (hts _ (u_Vq_Pl _ k_Pl_20)) (fun _ h9 => h9) rfl d_Pl_addToList_5 ?_
  refine va_alen (v := nI (G.n / 2 + 4)) hx hb hK hP 43 2 rfl rfl rfl d_Pl_addToList_8 ?_
  refine lv_icmp_ge (tgt := 32) hx hb d_Pl_addToList_9 (by decide) (fun c_1 => ?_) (fun c_1 => ?_)
  · have h := lf_t h c_1
    rw [hQ]
    have e2 : S = S' := Option.some.inj h
    have hP := ly_newP e2.symm hP
    have hD := ly_newD e2.symm hD
    exact W.vret hx hb hr (fun t ht hW => ⟨⟨(), rfl, trivial, by rw [ht]; exact hP, va_K.moved hW.alike hK, hD⟩, hS.F ht⟩) hS.2.2 d_Pl_addToList_32
  · have h := lf_f h c_1
    refine lv_aload_n hx hb d_Pl_addToList_12 rfl (lv_at hl 0 rfl) ?_
    refine va_get (D := (dC, dI)) (ci := 9) (v := .ref M.a_Pl_list) (C := R_Pl) (T := F_Pl) (N := 17) hx hb hts (fun w h => u_Vq_Pl w (i_Pl w h)) hown hK hP 7 rfl rfl 9 (by decide) (hts _ (u_Vq_Pl _ k_Pl_20)) (fun _ h9 => h9) rfl d_Pl_addToList_13 ?_
    refine lv_aload_n hx hb d_Pl_addToList_16 rfl (lv_at hl 0 rfl) ?_
    refine va_get (D := (dC, dI)) (ci := 9) (v := .int S.v_Pl_listed) (C := R_Pl) (T := F_Pl) (N := 17) hx hb hts (fun w h => u_Vq_Pl w (i_Pl w h)) hown hK hP 7 rfl rfl 10 (by decide) (hts _ (u_Vq_Pl _ k_Pl_21)) (fun _ h9 => h9) rfl d_Pl_addToList_17 ?_
    refine lv_iload_n hx hb d_Pl_addToList_20 rfl (lv_at hl 1 rfl) ?_
    obtain ⟨g_2, h⟩ := lf_gE h
    refine va_iast hx hb hK hP hD hS 43 2 rfl rfl g_2 d_Pl_addToList_21 (fun H locs hP hD hS => ?_)
    obtain ⟨S_3, eS_3, h⟩ := lf_lX h
    have hP := ly_newP eS_3 hP
    have hD := ly_newD eS_3 hD
    refine lv_aload_n hx hb d_Pl_addToList_22 rfl (lv_at hl 0 rfl) ?_
    refine lv_dup hx hb d_Pl_addToList_23 rfl ?_
    refine va_get (D := (dC, dI)) (ci := 9) (v := .int S_3.v_Pl_listed) (C := R_Pl) (T := F_Pl) (N := 17) hx hb hts (fun w h => u_Vq_Pl w (i_Pl w h)) hown hK hP 7 rfl rfl 10 (by decide) (hts _ (u_Vq_Pl _ k_Pl_21)) (fun _ h9 => h9) rfl d_Pl_addToList_24 ?_
    refine lv_iconst (v := 1) hx hb d_Pl_addToList_27 (by decide) ?_
    refine lv_iadd hx hb d_Pl_addToList_28 ?_
    refine va_put (D := (dC, dI)) (ci := 9) (v := .int (S_3.v_Pl_listed + 1)) (ty := .int) (C := R_Pl) (T := F_Pl) (N := 17) hx hb hts (fun w h => u_Vq_Pl w (i_Pl w h)) t_Pl t_Pl_ok n_Pl hown hK hP hD hS 7 rfl rfl 10 (by decide) (hts _ (u_Vq_Pl _ k_Pl_21)) (fun _ h9 => h9) rfl (by decide +kernel) rfl rfl (Nat.le_of_ble_eq_true rfl) d_Pl_addToList_29 (fun H locs hP hD hS => ?_)
    obtain ⟨S_4, eS_4, h⟩ := lf_lX h
    have hP := ly_newP eS_4 hP
    have hD := ly_newD eS_4 hD
    rw [hQ]
    have e2 : S_4 = S' := Option.some.inj h
    have hP := ly_newP e2.symm hP
    have hD := ly_newD e2.symm hD
    exact W.vret hx hb hr (fun t ht hW => ⟨⟨(), rfl, trivial, by rw [ht]; exact hP, va_K.moved hW.alike hK, hD⟩, hS.F ht⟩) hS.2.2 d_Pl_addToList_32
