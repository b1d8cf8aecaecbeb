set_option maxHeartbeats 4000000 in
set_option maxRecDepth 100000 in
theorem l_Ed_writeLabel (l : Launch) (dC : Nat → ClassId) (dI : Nat → Nat → Nat) {K : Nat} {M : CA} {E : (Nat → Prop) → State → Prop} (X : ly_X l dC dI K M E) (sz : Nat) {Y : CT} {G : CG} {S S' : CS} {p1 : Int32} (h : f_Ed_writeLabel K G S p1 = some S') : Met l y_Ed_writeLabel (.code y_Ed_writeLabel cb_Ed_writeLabel 5 none :: V_Vq) ({ frames := 1, cells := 0, slots := 0, locals := 22 }) (va_Pc [.ref M.o_Ed, .ref M.o_Tp, .int p1] (fun U => U.heap.size = sz ∧ at_ (dC, dI) (fun _ => True) (wV M Y G S) (tV M) U ∧ E (va_A (wV M Y G S) sz) U)) (va_Qv (fun (u : Unit) => True) (fun (u : Unit) t => at_ (dC, dI) (va_A (wV M Y G S) sz) (wV M Y G S') (tV M) t) (va_A (wV M Y G S) sz)) 0 0 (va_A (wV M Y G S) sz) := by
  refine Met.ofW (cc := cb_Ed_writeLabel) (maxL := 5) (ret := none) (by decide) rfl ?_
  intro p e s m args below meth c s₁ B hml hv
  obtain ⟨rfl, hsz, ⟨hP, hK, hD0⟩, hE⟩ := hv
  have hx := B.exec
  have hb := B.bytes
  have hr := B.returns
  have hts0 := atoms_spec (ws := .code y_Ed_writeLabel cb_Ed_writeLabel 5 none :: V_Vq) B.pre
  have hts : ∀ w ∈ V_Vq, w.before ([.ref M.o_Ed, .ref M.o_Tp, .int p1] : List Value).toArray s = true := fun w h => hts0 w (List.mem_cons_of_mem _ h)
  have hown : s.vm.findClass R_Ed = some m.cls := findClass_of_methodNamed B.named
  subst hsz
  have hD := hD0.self (sz := s.heap.size)
  generalize hAe : va_A (wV M Y G S) s.heap.size = A at hD hE ⊢
  have hA : ∀ q : Nat, s.heap.size ≤ q → A q := fun q h => by rw [← hAe]; exact Or.inr h
  have hS : va_S A s.heap s.heap [] := va_S.rf
  have hP : va_P (dC, dI) classes (wV M Y G S) s.heap := hP
  have hK : va_K (dC, dI) classes (tV M) s := hK
  have hEw : ∀ (H : Heap) (locs : List Loc), va_S A s.heap H locs → ∀ U : State, U.heap = H → s.WarmedH U.vm → E A U := fun H locs hS U hU hW => X.kept A s U H locs hE hS hU hW
  have hl := lv_entry ([.ref M.o_Ed, .ref M.o_Tp, .int p1]) (n := 5) (Nat.le_of_ble_eq_true rfl)
  rw [lg_entry_eq]
  generalize (lg_sl ([.ref M.o_Ed, .ref M.o_Tp, .int p1]) ++ List.replicate (5 - (lg_sl ([.ref M.o_Ed, .ref M.o_Tp, .int p1])).length) Slot.unset).toArray = ls at hl ⊢
  have hl : lv_has ls 5 [(0, .ref M.o_Ed), (1, .ref M.o_Tp), (2, .int p1)] := hl
  refine qabs (fun Q hQ => ?_)
  have hB_50 : ∀ (rec_18 : Int32 → Int32 → Int32 → CS → Option (CS)) (hr_18 : ∀ (y_2 : Int32) (y_3 : Int32) (y_4 : Int32) (S : CS) (H : Heap) (locs : List Loc) (ls : Array Slot), rec_18 y_2 y_3 y_4 S = some S' → va_P (dC, dI) classes (wV M Y G S) H → va_D A (wV M Y G S) → va_S A s.heap H locs → lv_has ls 5 [(0, .ref M.o_Ed), (1, .ref M.o_Tp), (2, .int y_2), (3, .int y_3), (4, .int y_4)] → W p l e ({ frames := 1, cells := 0, slots := 0, locals := 22 }) s m ([.ref M.o_Ed, .ref M.o_Tp, .int p1] : List Value).toArray below meth c H locs 0 0 Q (F0 m 18 ls [])), ∀ (y_2 : Int32) (y_3 : Int32) (y_4 : Int32) (z_1 : Int32) (z_2 : Int32) (S : CS) (H : Heap) (locs : List Loc) (ls : Array Slot), f_Ed_writeLabel_50 K G rec_18 y_2 y_3 y_4 z_1 z_2 S = some S' → va_P (dC, dI) classes (wV M Y G S) H → va_D A (wV M Y G S) → va_S A s.heap H locs → lv_has ls 5 [(0, .ref M.o_Ed), (1, .ref M.o_Tp), (2, .int y_2), (3, .int y_3), (4, .int y_4)] → W p l e ({ frames := 1, cells := 0, slots := 0, locals := 22 }) s m ([.ref M.o_Ed, .ref M.o_Tp, .int p1] : List Value).toArray below meth c H locs 0 0 Q (F0 m 50 ls [.int z_2, .int z_1, .ref M.o_Dk]) := by
    intro rec_18 hr_18 y_2 y_3 y_4 z_1 z_2 S H locs ls h hP hD hS hl
    rw [f_Ed_writeLabel_50] at h
    obtain ⟨S_7, hc_7, h⟩ := lf_bE h
    have hFc := lx_free hD hS hA
    refine va_callv (va_runV (As := [.int z_1, .int z_2]) (rest := []) ⟨hx, hb, hml, hown, hts⟩ (l_Dk_putOne l dC dI X _ hc_7) (cwV 2 hts (gwV good_Vq (u_Vq_Ed _ k_Ed_25) (u_Vq_Dk _ k_Dk_11) (u_Vq_Dk _ k_Dk_12) (u_Vq_Dk _ k_Dk_0) (wcs (u_Vq_Dk _ k_Dk_13) (fun _ h => h))) rfl rfl rfl (by decide +kernel) ⟨Nat.le_of_ble_eq_true rfl, Nat.le_of_ble_eq_true rfl⟩) (pv_ofE (X.same _) (fun U z1 z2 => X.mono _ _ U hFc (hEw _ _ hS U z1 z2)) hP hK hD (va_recv hK hP (ci := 0) (q0 := 1) rfl rfl)) rfl rfl hl.1 rfl (lv_room (Nat.le_of_ble_eq_true rfl)) d_Ed_writeLabel_50 ⟨by decide, by decide⟩) hS (fun q _ h => hFc q h) hFc (fun u t H locs ht hvm hw hB hz1 hk1 hS => ?_)
    obtain ⟨hP, -, hD⟩ := hB
    rw [ht] at hP
    have hD := lx_dj hD hFc
    obtain ⟨x_8, ex_8, h⟩ := lf_lX h
    refine lv_iinc (v := x_8) (lv' := [(4, .int x_8), (0, .ref M.o_Ed), (1, .ref M.o_Tp), (2, .int y_2), (3, .int y_3)]) hx hb d_Ed_writeLabel_53 hl (k := 4) rfl (by rw [ex_8]; rfl) (by decide) rfl (fun ls hl => ?_)
    refine lv_goto (tgt := 18) hx hb d_Ed_writeLabel_56 (by decide) ?_
    exact hr_18 y_2 y_3 x_8 S_7 _ _ _ h hP hD hS (lv_sub hl [1, 2, 3, 4, 0] rfl)
  have hB_18 : ∀ (k : Nat), ∀ (y_2 : Int32) (y_3 : Int32) (y_4 : Int32) (S : CS) (H : Heap) (locs : List Loc) (ls : Array Slot), f_Ed_writeLabel_18 K G k y_2 y_3 y_4 S = some S' → va_P (dC, dI) classes (wV M Y G S) H → va_D A (wV M Y G S) → va_S A s.heap H locs → lv_has ls 5 [(0, .ref M.o_Ed), (1, .ref M.o_Tp), (2, .int y_2), (3, .int y_3), (4, .int y_4)] → W p l e ({ frames := 1, cells := 0, slots := 0, locals := 22 }) s m ([.ref M.o_Ed, .ref M.o_Tp, .int p1] : List Value).toArray below meth c H locs 0 0 Q (F0 m 18 ls []) := by
    intro k
    induction k with
    | zero => intro y_2 y_3 y_4 S H locs ls h; exact lf_no h
    | succ k hr_18 =>
      intro y_2 y_3 y_4 S H locs ls h hP hD hS hl
      rw [f_Ed_writeLabel_18] at h
      refine lv_iload hx hb d_Ed_writeLabel_18 (lv_at hl 4 rfl) ?_
      refine lv_bipush (v := 11) hx hb d_Ed_writeLabel_20 (by decide) ?_
      refine lv_icmp_ge (tgt := 59) hx hb d_Ed_writeLabel_22 (by decide) (fun c_2 => ?_) (fun c_2 => ?_)
      · have h := lf_t h c_2
        refine lv_aload_n hx hb d_Ed_writeLabel_59 rfl (lv_at hl 0 rfl) ?_
        refine va_get (D := (dC, dI)) (ci := 8) (v := .ref M.o_Dk) (C := R_Ed) (T := F_Ed) (N := 13) hx hb hts (fun w h => u_Vq_Ed w (i_Ed w h)) hown hK hP 6 rfl rfl 0 (by decide) (hts _ (u_Vq_Ed _ k_Ed_7)) (fun _ h9 => h9) rfl d_Ed_writeLabel_60 ?_
        refine lv_iload_n hx hb d_Ed_writeLabel_63 rfl (lv_at hl 3 rfl) ?_
        refine lv_bipush (v := 11) hx hb d_Ed_writeLabel_64 (by decide) ?_
        refine lv_iadd hx hb d_Ed_writeLabel_66 ?_
        refine lv_bipush (v := 8) hx hb d_Ed_writeLabel_67 (by decide) ?_
        obtain ⟨S_3, hc_3, h⟩ := lf_bE h
        have hFc := lx_free hD hS hA
        refine va_callv (va_runV (As := [.int (y_3 + 11), .int 8]) (rest := []) ⟨hx, hb, hml, hown, hts⟩ (l_Dk_putOne l dC dI X _ hc_3) (cwV 2 hts (gwV good_Vq (u_Vq_Ed _ k_Ed_25) (u_Vq_Dk _ k_Dk_11) (u_Vq_Dk _ k_Dk_12) (u_Vq_Dk _ k_Dk_0) (wcs (u_Vq_Dk _ k_Dk_13) (fun _ h => h))) rfl rfl rfl (by decide +kernel) ⟨Nat.le_of_ble_eq_true rfl, Nat.le_of_ble_eq_true rfl⟩) (pv_ofE (X.same _) (fun U z1 z2 => X.mono _ _ U hFc (hEw _ _ hS U z1 z2)) hP hK hD (va_recv hK hP (ci := 0) (q0 := 1) rfl rfl)) rfl rfl hl.1 rfl (lv_room (Nat.le_of_ble_eq_true rfl)) d_Ed_writeLabel_69 ⟨by decide, by decide⟩) hS (fun q _ h => hFc q h) hFc (fun u t H locs ht hvm hw hB hz1 hk1 hS => ?_)
        obtain ⟨hP, -, hD⟩ := hB
        rw [ht] at hP
        have hD := lx_dj hD hFc
        refine lv_aload_n hx hb d_Ed_writeLabel_72 rfl (lv_at hl 0 rfl) ?_
        refine va_get (D := (dC, dI)) (ci := 8) (v := .ref M.o_Dk) (C := R_Ed) (T := F_Ed) (N := 13) hx hb hts (fun w h => u_Vq_Ed w (i_Ed w h)) hown hK hP 6 rfl rfl 0 (by decide) (hts _ (u_Vq_Ed _ k_Ed_7)) (fun _ h9 => h9) rfl d_Ed_writeLabel_73 ?_
        refine lv_iload_n hx hb d_Ed_writeLabel_76 rfl (lv_at hl 3 rfl) ?_
        refine lv_bipush (v := 24) hx hb d_Ed_writeLabel_77 (by decide) ?_
        refine lv_iadd hx hb d_Ed_writeLabel_79 ?_
        refine lv_bipush (v := 33) hx hb d_Ed_writeLabel_80 (by decide) ?_
        obtain ⟨S_4, hc_4, h⟩ := lf_bE h
        have hFc := lx_free hD hS hA
        refine va_callv (va_runV (As := [.int (y_3 + 24), .int 33]) (rest := []) ⟨hx, hb, hml, hown, hts⟩ (l_Dk_putTwo l dC dI X _ hc_4) (cwV 2 hts (gwV good_Vq (u_Vq_Ed _ k_Ed_26) (u_Vq_Dk _ k_Dk_27) (u_Vq_Dk _ k_Dk_28) (u_Vq_Dk _ k_Dk_0) (wcs (u_Vq_Dk _ k_Dk_29) (fun _ h => h))) rfl rfl rfl (by decide +kernel) ⟨Nat.le_of_ble_eq_true rfl, Nat.le_of_ble_eq_true rfl⟩) (pv_ofE (X.same _) (fun U z1 z2 => X.mono _ _ U hFc (hEw _ _ hS U z1 z2)) hP hK hD (va_recv hK hP (ci := 0) (q0 := 1) rfl rfl)) rfl rfl hl.1 rfl (lv_room (Nat.le_of_ble_eq_true rfl)) d_Ed_writeLabel_82 ⟨by decide, by decide⟩) hS (fun q _ h => hFc q h) hFc (fun u t H locs ht hvm hw hB hz1 hk1 hS => ?_)
        obtain ⟨hP, -, hD⟩ := hB
        rw [ht] at hP
        have hD := lx_dj hD hFc
        rw [hQ]
        have e2 : S_4 = S' := Option.some.inj h
        have hP := ly_newP e2.symm hP
        have hD := ly_newD e2.symm hD
        exact W.vret hx hb hr (fun t ht hW => ⟨⟨(), rfl, trivial, by rw [ht]; exact hP, va_K.moved hW.alike hK, hD⟩, hS.F ht⟩) hS.2.2 d_Ed_writeLabel_85
      · have h := lf_f h c_2
        refine lv_aload_n hx hb d_Ed_writeLabel_25 rfl (lv_at hl 0 rfl) ?_
        refine va_get (D := (dC, dI)) (ci := 8) (v := .ref M.o_Dk) (C := R_Ed) (T := F_Ed) (N := 13) hx hb hts (fun w h => u_Vq_Ed w (i_Ed w h)) hown hK hP 6 rfl rfl 0 (by decide) (hts _ (u_Vq_Ed _ k_Ed_7)) (fun _ h9 => h9) rfl d_Ed_writeLabel_26 ?_
        refine lv_iload_n hx hb d_Ed_writeLabel_29 rfl (lv_at hl 3 rfl) ?_
        refine lv_iload hx hb d_Ed_writeLabel_30 (lv_at hl 4 rfl) ?_
        refine lv_iadd hx hb d_Ed_writeLabel_32 ?_
        refine lv_iload hx hb d_Ed_writeLabel_33 (lv_at hl 4 rfl) ?_
        refine lv_iload_n hx hb d_Ed_writeLabel_35 rfl (lv_at hl 2 rfl) ?_
        refine lv_icmp_ge (tgt := 48) hx hb d_Ed_writeLabel_36 (by decide) (fun c_5 => ?_) (fun c_5 => ?_)
        · have h := lf_t h c_5
          refine lv_bipush (v := 32) hx hb d_Ed_writeLabel_48 (by decide) ?_
          exact hB_50 _ hr_18 y_2 y_3 y_4 (y_3 + y_4) 32 S _ _ _ h hP hD hS (lv_sub hl [0, 1, 2, 3, 4] rfl)
        · have h := lf_f h c_5
          refine lv_aload_n hx hb d_Ed_writeLabel_39 rfl (lv_at hl 1 rfl) ?_
          refine lv_iload hx hb d_Ed_writeLabel_40 (lv_at hl 4 rfl) ?_
          obtain ⟨r_6, S_6, hc_6, h⟩ := lf_cE h
          have hFc := lx_free hD hS hA
          refine va_calli (va_runV (As := [.int y_4]) (rest := [.int (y_3 + y_4), .ref M.o_Dk]) ⟨hx, hb, hml, hown, hts⟩ (l_Tp_one l dC dI X _ hc_6) (cwV 1 hts (gwV good_Vq (u_Vq_Ed _ k_Ed_24) (u_Vq_Tp _ k_Tp_23) (u_Vq_Tp _ k_Tp_24) (u_Vq_Tp _ k_Tp_0) (wcs (u_Vq_Tp _ k_Tp_25) (fun _ h => h))) rfl rfl rfl (by decide +kernel) ⟨Nat.le_of_ble_eq_true rfl, Nat.le_of_ble_eq_true rfl⟩) (pv_ofE (X.same _) (fun U z1 z2 => X.mono _ _ U hFc (hEw _ _ hS U z1 z2)) hP hK hD (va_recv hK hP (ci := 3) (q0 := 2) rfl rfl)) rfl rfl hl.1 rfl (lv_room (Nat.le_of_ble_eq_true rfl)) d_Ed_writeLabel_42 ⟨by decide, by decide⟩) hS (fun q _ h => hFc q h) hFc (fun r_ u t H locs ht hvm hw hB hz1 hk1 hS => ?_)
          rw [hw]
          obtain ⟨hP, -, hD⟩ := hB
          rw [ht] at hP
          have hD := lx_dj hD hFc
          refine lv_goto (tgt := 50) hx hb d_Ed_writeLabel_45 (by decide) ?_
          exact hB_50 _ hr_18 y_2 y_3 y_4 (y_3 + y_4) r_6 S_6 _ _ _ h hP hD hS (lv_sub hl [0, 1, 2, 3, 4] rfl)
  rw [f_Ed_writeLabel] at h
  refine lv_aload_n hx hb d_Ed_writeLabel_0 rfl (lv_at hl 0 rfl) ?_
  refine va_get (D := (dC, dI)) (ci := 8) (v := .ref M.o_Tb) (C := R_Ed) (T := F_Ed) (N := 13) hx hb hts (fun w h => u_Vq_Ed w (i_Ed w h)) hown hK hP 6 rfl rfl 1 (by decide) (hts _ (u_Vq_Ed _ k_Ed_8)) (fun _ h9 => h9) rfl d_Ed_writeLabel_1 ?_
  refine lv_aload_n hx hb d_Ed_writeLabel_4 rfl (lv_at hl 0 rfl) ?_
  refine va_get (D := (dC, dI)) (ci := 8) (v := .ref M.o_Tb) (C := R_Ed) (T := F_Ed) (N := 13) hx hb hts (fun w h => u_Vq_Ed w (i_Ed w h)) hown hK hP 6 rfl rfl 1 (by decide) (hts _ (u_Vq_Ed _ k_Ed_8)) (fun _ h9 => h9) rfl d_Ed_writeLabel_5 ?_
  refine va_get (D := (dC, dI)) (ci := 4) (v := .int S.v_Tb_root) (C := R_Tb) (T := F_Tb) (N := 10) hx hb hts (fun w h => u_Vq_Tb w (i_Tb w h)) hown hK hP 3 rfl rfl 5 (by decide) (hts _ (u_Vq_Ed _ k_Ed_1)) (fun _ h9 => h9) rfl d_Ed_writeLabel_8 ?_
  obtain ⟨r_1, S_1, hc_1, h⟩ := lf_cE h
  have hFc := lx_free hD hS hA
  refine va_calli (va_runV (As := [.int S.v_Tb_root]) (rest := []) ⟨hx, hb, hml, hown, hts⟩ (l_Tb_place l dC dI X _ hc_1) (cwV 1 hts (gwV good_Vq (u_Vq_Ed _ k_Ed_23) (u_Vq_Tb _ k_Tb_57) (u_Vq_Tb _ k_Tb_58) (u_Vq_Tb _ k_Tb_0) (wcs (u_Vq_Tb _ k_Tb_59) (fun _ h => h))) rfl rfl rfl (by decide +kernel) ⟨Nat.le_of_ble_eq_true rfl, Nat.le_of_ble_eq_true rfl⟩) (pv_ofE (X.same _) (fun U z1 z2 => X.mono _ _ U hFc (hEw _ _ hS U z1 z2)) hP hK hD (va_recv hK hP (ci := 4) (q0 := 3) rfl rfl)) rfl rfl hl.1 rfl (lv_room (Nat.le_of_ble_eq_true rfl)) d_Ed_writeLabel_11 ⟨by decide, by decide⟩) hS (fun q _ h => hFc q h) hFc (fun r_ u t H locs ht hvm hw hB hz1 hk1 hS => ?_)
  rw [hw]
  obtain ⟨hP, -, hD⟩ := hB
  rw [ht] at hP
  have hD := lx_dj hD hFc
  refine lv_istore_n (lv' := [(3, .int r_1), (0, .ref M.o_Ed), (1, .ref M.o_Tp), (2, .int p1)]) hx hb d_Ed_writeLabel_14 rfl hl (by decide) rfl (fun ls hl => ?_)
  refine lv_iconst (v := 0) hx hb d_Ed_writeLabel_15 (by decide) ?_
  refine lv_istore (lv' := [(4, .int 0), (3, .int r_1), (0, .ref M.o_Ed), (1, .ref M.o_Tp), (2, .int p1)]) hx hb d_Ed_writeLabel_16 hl (by decide) rfl (fun ls hl => ?_)
  exact hB_18 K p1 r_1 0 S_1 _ _ _ h hP hD hS (lv_sub hl [2, 3, 4, 1, 0] rfl)
set_option maxHeartbeats 4000000 in
set_option maxRecDepth 100000 in
theorem l_Wo_isName_Edunits (l : Launch) (dC : Nat → ClassId) (dI : Nat → Nat → Nat) {K : Nat} {M : CA} {E : (Nat → Prop) → State → Prop} (X : ly_X l dC dI K M E) (sz : Nat) {Y : CT} {G : CG} {S S' : CS} {p1 : Int32} {r : Int32} (h : f_Wo_isName_Edunits K G S p1 = some (r, S')) : Met l y_Wo_isName (.code y_Wo_isName b_Wo_isName 3 (some .boolean) :: V_Vq) ({ frames := 1, cells := 0, slots := 0, locals := 21 }) (va_Pc [.ref M.a_Ed_units, .int p1] (fun U => U.heap.size = sz ∧ at_ (dC, dI) (fun _ => True) (wV M Y G S) (tV M) U ∧ E (va_A (wV M Y G S) sz) U)) (va_Qi (fun (r_ : Int32) (u : Unit) => r_ = r) (fun (u : Unit) t => at_ (dC, dI) (va_A (wV M Y G S) sz) (wV M Y G S') (tV M) t) (va_A (wV M Y G S) sz)) 0 0 (va_A (wV M Y G S) sz) := by
  refine Met.ofW (cc := b_Wo_isName) (maxL := 3) (ret := (some .boolean)) (by decide) rfl ?_
  intro p e s m args below meth c s₁ B hml hv
  obtain ⟨rfl, hsz, ⟨hP, hK, hD0⟩, hE⟩ := hv
  have hx := B.exec
  have hb := B.bytes
  have hr := B.returns
  have hts0 := atoms_spec (ws := .code y_Wo_isName b_Wo_isName 3 (some .boolean) :: V_Vq) B.pre
  have hts : ∀ w ∈ V_Vq, w.before ([.ref M.a_Ed_units, .int p1] : List Value).toArray s = true := fun w h => hts0 w (List.mem_cons_of_mem _ h)
  have hown : s.vm.findClass R_Wo = some m.cls := findClass_of_methodNamed B.named
  subst hsz
  have hD := hD0.self (sz := s.heap.size)
  generalize hAe : va_A (wV M Y G S) s.heap.size = A at hD hE ⊢
  have hA : ∀ q : Nat, s.heap.size ≤ q → A q := fun q h => by rw [← hAe]; exact Or.inr h
  have hS : va_S A s.heap s.heap [] := va_S.rf
  have hP : va_P (dC, dI) classes (wV M Y G S) s.heap := hP
  have hK : va_K (dC, dI) classes (tV M) s := hK
  have hEw : ∀ (H : Heap) (locs : List Loc), va_S A s.heap H locs → ∀ U : State, U.heap = H → s.WarmedH U.vm → E A U := fun H locs hS U hU hW => X.kept A s U H locs hE hS hU hW
  have hl := lv_entry ([.ref M.a_Ed_units, .int p1]) (n := 3) (Nat.le_of_ble_eq_true rfl)
  rw [lg_entry_eq]
  generalize (lg_sl ([.ref M.a_Ed_units, .int p1]) ++ List.replicate (3 - (lg_sl ([.ref M.a_Ed_units, .int p1])).length) Slot.unset).toArray = ls at hl ⊢
  have hl : lv_has ls 3 [(0, .ref M.a_Ed_units), (1, .int p1)] := hl
  refine qabs (fun Q hQ => ?_)
  have hB_18 : ∀ (S : CS) (H : Heap) (locs : List Loc) (ls : Array Slot), f_Wo_isName_Edunits_18 K G S = some (r, S') → va_P (dC, dI) classes (wV M Y G S) H → va_D A (wV M Y G S) → va_S A s.heap H locs → lv_has ls 3 [] → W p l e ({ frames := 1, cells := 0, slots := 0, locals := 21 }) s m ([.ref M.a_Ed_units, .int p1] : List Value).toArray below meth c H locs 0 0 Q (F0 m 18 ls []) := by
    intro S H locs ls h hP hD hS hl
    rw [f_Wo_isName_Edunits_18] at h
    refine lv_iconst (v := 0) hx hb d_Wo_isName_18 (by decide) ?_
    rw [hQ]
    have e1 : (0 : Int32) = r := congrArg Prod.fst (Option.some.inj h)
    have e2 : S = S' := congrArg Prod.snd (Option.some.inj h)
    have hP := ly_newP e2.symm hP
    have hD := ly_newD e2.symm hD
    exact W.zret (v := 0) hx hb hr rfl (fun t ht hW => ⟨⟨0, (), rfl, e1, by rw [ht]; exact hP, va_K.moved hW.alike hK, hD⟩, hS.F ht⟩) hS.2.2 d_Wo_isName_19
  have hB_68 : ∀ (S : CS) (H : Heap) (locs : List Loc) (ls : Array Slot), f_Wo_isName_Edunits_68 K G S = some (r, S') → va_P (dC, dI) classes (wV M Y G S) H → va_D A (wV M Y G S) → va_S A s.heap H locs → lv_has ls 3 [] → W p l e ({ frames := 1, cells := 0, slots := 0, locals := 21 }) s m ([.ref M.a_Ed_units, .int p1] : List Value).toArray below meth c H locs 0 0 Q (F0 m 68 ls []) := by
    intro S H locs ls h hP hD hS hl
    rw [f_Wo_isName_Edunits_68] at h
    refine lv_iconst (v := 0) hx hb d_Wo_isName_68 (by decide) ?_
    rw [hQ]
    have e1 : (0 : Int32) = r := congrArg Prod.fst (Option.some.inj h)
    have e2 : S = S' := congrArg Prod.snd (Option.some.inj h)
    have hP := ly_newP e2.symm hP
    have hD := ly_newD e2.symm hD
    exact W.zret (v := 0) hx hb hr rfl (fun t ht hW => ⟨⟨0, (), rfl, e1, by rw [ht]; exact hP, va_K.moved hW.alike hK, hD⟩, hS.F ht⟩) hS.2.2 d_Wo_isName_69
  have hB_22 : ∀ (k : Nat), ∀ (y_1 : Int32) (y_2 : Int32) (S : CS) (H : Heap) (locs : List Loc) (ls : Array Slot), f_Wo_isName_Edunits_22 K G k y_1 y_2 S = some (r, S') → va_P (dC, dI) classes (wV M Y G S) H → va_D A (wV M Y G S) → va_S A s.heap H locs → lv_has ls 3 [(0, .ref M.a_Ed_units), (1, .int y_1), (2, .int y_2)] → W p l e ({ frames := 1, cells := 0, slots := 0, locals := 21 }) s m ([.ref M.a_Ed_units, .int p1] : List Value).toArray below meth c H locs 0 0 Q (F0 m 22 ls []) := by
    intro k
    induction k with
    | zero => intro y_1 y_2 S H locs ls h; exact lf_no h
    | succ k hr_22 =>
      intro y_1 y_2 S H locs ls h hP hD hS hl
      rw [f_Wo_isName_Edunits_22] at h
      refine lv_iload_n hx hb d_Wo_isName_22 rfl (lv_at hl 2 rfl) ?_
      refine lv_iload_n hx hb d_Wo_isName_23 rfl (lv_at hl 1 rfl) ?_
      refine lv_icmp_ge (tgt := 44) hx hb d_Wo_isName_24 (by decide) (fun c_4 => ?_) (fun c_4 => ?_)
      · have h := lf_t h c_4
        refine lv_aload_n hx hb d_Wo_isName_44 rfl (lv_at hl 0 rfl) ?_
        refine lv_iload_n hx hb d_Wo_isName_45 rfl (lv_at hl 1 rfl) ?_
        refine lv_iconst (v := 1) hx hb d_Wo_isName_46 (by decide) ?_
        refine lv_isub hx hb d_Wo_isName_47 ?_
        obtain ⟨g_5, h⟩ := lf_gE h
        refine va_iald hx hb hK hP 37 2 rfl rfl g_5 d_Wo_isName_48 ?_
        refine lv_bipush (v := 32) hx hb d_Wo_isName_49 (by decide) ?_
        refine lv_icmp_eq (tgt := 68) hx hb d_Wo_isName_51 (by decide) (fun c_6 => ?_) (fun c_6 => ?_)
        · have h := lf_t h c_6
          exact hB_68 S _ _ _ h hP hD hS (lv_sub hl [] rfl)
        · have h := lf_f h c_6
          refine lv_aload_n hx hb d_Wo_isName_54 rfl (lv_at hl 0 rfl) ?_
          refine lv_iload_n hx hb d_Wo_isName_55 rfl (lv_at hl 1 rfl) ?_
          refine lv_iconst (v := 1) hx hb d_Wo_isName_56 (by decide) ?_
          refine lv_isub hx hb d_Wo_isName_57 ?_
          obtain ⟨g_7, h⟩ := lf_gE h
          refine va_iald hx hb hK hP 37 2 rfl rfl g_7 d_Wo_isName_58 ?_
          refine lv_bipush (v := 46) hx hb d_Wo_isName_59 (by decide) ?_
          refine lv_icmp_eq (tgt := 68) hx hb d_Wo_isName_61 (by decide) (fun c_8 => ?_) (fun c_8 => ?_)
          · have h := lf_t h c_8
            exact hB_68 S _ _ _ h hP hD hS (lv_sub hl [] rfl)
          · have h := lf_f h c_8
            refine lv_iconst (v := 1) hx hb d_Wo_isName_64 (by decide) ?_
            refine lv_goto (tgt := 69) hx hb d_Wo_isName_65 (by decide) ?_
            rw [hQ]
            have e1 : (1 : Int32) = r := congrArg Prod.fst (Option.some.inj h)
            have e2 : S = S' := congrArg Prod.snd (Option.some.inj h)
            have hP := ly_newP e2.symm hP
            have hD := ly_newD e2.symm hD
            exact W.zret (v := 1) hx hb hr rfl (fun t ht hW => ⟨⟨1, (), rfl, e1, by rw [ht]; exact hP, va_K.moved hW.alike hK, hD⟩, hS.F ht⟩) hS.2.2 d_Wo_isName_69
      · have h := lf_f h c_4
        refine lv_aload_n hx hb d_Wo_isName_27 rfl (lv_at hl 0 rfl) ?_
        refine lv_iload_n hx hb d_Wo_isName_28 rfl (lv_at hl 2 rfl) ?_
        obtain ⟨g_9, h⟩ := lf_gE h
        refine va_iald hx hb hK hP 37 2 rfl rfl g_9 d_Wo_isName_29 ?_
        obtain ⟨r_10, hc_10, h⟩ := lf_bE h
        have hFc := lx_free0 hS hA
        refine va_calli (va_runS (As := [.int (S.w_Ed_units y_2.toNatClampNeg)]) (rest := []) ⟨hx, hb, hml, hown, hts⟩ (l_Wo_mayBeUnit l dC dI  _ hc_10) (va_cwS 1 hts (gwS good_Vq (u_Vq_Wo _ k_Wo_11) (u_Vq_Wo _ k_Wo_12) (u_Vq_Wo _ k_Wo_0) (wcs (u_Vq_Wo _ k_Wo_13) (fun _ h => h))) rfl rfl rfl (by decide +kernel) ⟨Nat.le_of_ble_eq_true rfl, Nat.le_of_ble_eq_true rfl⟩) (ps_of (W := []) (tys := []) (hP.sub (ws' := []) [] rfl) (hK.sub [] rfl) (hD.sub (ws' := []) [] (by decide) rfl)) rfl rfl hl.1 rfl (lv_room (Nat.le_of_ble_eq_true rfl)) d_Wo_isName_30 ⟨by decide, by decide⟩) hS (fun q _ h => hFc q h) hFc (fun r_ u t H locs ht hvm hw hB hz1 hk1 hS => ?_)
        rw [hw]
        have hP := lx_stat (A := A) hP hk1
        refine lv_if_ne (tgt := 38) hx hb d_Wo_isName_33 (by decide) (fun c_11 => ?_) (fun c_11 => ?_)
        · have h := lf_f h c_11
          obtain ⟨x_12, ex_12, h⟩ := lf_lX h
          refine lv_iinc (v := x_12) (lv' := [(2, .int x_12), (0, .ref M.a_Ed_units), (1, .int y_1)]) hx hb d_Wo_isName_38 hl (k := 2) rfl (by rw [ex_12]; rfl) (by decide) rfl (fun ls hl => ?_)
          refine lv_goto (tgt := 22) hx hb d_Wo_isName_41 (by decide) ?_
          exact hr_22 y_1 x_12 S _ _ _ h hP hD hS (lv_sub hl [1, 2, 0] rfl)
        · have h := lf_t h c_11
          refine lv_iconst (v := 0) hx hb d_Wo_isName_36 (by decide) ?_
          rw [hQ]
          have e1 : (0 : Int32) = r := congrArg Prod.fst (Option.some.inj h)
          have e2 : S = S' := congrArg Prod.snd (Option.some.inj h)
          have hP := ly_newP e2.symm hP
          have hD := ly_newD e2.symm hD
          exact W.zret (v := 0) hx hb hr rfl (fun t ht hW => ⟨⟨0, (), rfl, e1, by rw [ht]; exact hP, va_K.moved hW.alike hK, hD⟩, hS.F ht⟩) hS.2.2 d_Wo_isName_37
  rw [f_Wo_isName_Edunits] at h
  refine lv_iload_n hx hb d_Wo_isName_0 rfl (lv_at hl 1 rfl) ?_
  refine lv_iconst (v := 1) hx hb d_Wo_isName_1 (by decide) ?_
  refine lv_icmp_lt (tgt := 18) hx hb d_Wo_isName_2 (by decide) (fun c_1 => ?_) (fun c_1 => ?_)
  · have h := lf_t h c_1
    exact hB_18 S _ _ _ h hP hD hS (lv_sub hl [] rfl)
  · have h := lf_f h c_1
    refine lv_iload_n hx hb d_Wo_isName_5 rfl (lv_at hl 1 rfl) ?_
    refine lv_sipush (v := 255) hx hb d_Wo_isName_6 (by decide) ?_
    refine lv_icmp_gt (tgt := 18) hx hb d_Wo_isName_9 (by decide) (fun c_2 => ?_) (fun c_2 => ?_)
    · have h := lf_t h c_2
      exact hB_18 S _ _ _ h hP hD hS (lv_sub hl [] rfl)
    · have h := lf_f h c_2
      refine lv_iload_n hx hb d_Wo_isName_12 rfl (lv_at hl 1 rfl) ?_
      refine lv_aload_n hx hb d_Wo_isName_13 rfl (lv_at hl 0 rfl) ?_
      refine va_alen (v := 255) hx hb hK hP 37 2 rfl rfl rfl d_Wo_isName_14 ?_
      refine lv_icmp_le (tgt := 20) hx hb d_Wo_isName_15 (by decide) (fun c_3 => ?_) (fun c_3 => ?_)
      · have h := lf_t h c_3
        refine lv_iconst (v := 0) hx hb d_Wo_isName_20 (by decide) ?_
        refine lv_istore_n (lv' := [(2, .int 0), (0, .ref M.a_Ed_units), (1, .int p1)]) hx hb d_Wo_isName_21 rfl hl (by decide) rfl (fun ls hl => ?_)
        exact hB_22 K p1 0 S _ _ _ h hP hD hS (lv_sub hl [1, 2, 0] rfl)
      · have h := lf_f h c_3
        exact hB_18 S _ _ _ h hP hD hS (lv_sub hl [] rfl)
set_option maxHeartbeats 4000000 in
set_option maxRecDepth 100000 in
theorem l_Ed_lastPoint (l : Launch) (dC : Nat → ClassId) (dI : Nat → Nat → Nat) {K : Nat} {M : CA} {E : (Nat → Prop) → State → Prop} (X : ly_X l dC dI K M E) (sz : Nat) {Y : CT} {G : CG} {S S' : CS} {r : Int32} (h : f_Ed_lastPoint K G S = some (r, S')) : Met l y_Ed_lastPoint (.code y_Ed_lastPoint cb_Ed_lastPoint 2 (some .int) :: V_Vq) ({ frames := 0, cells := 0, slots := 0, locals := 0 }) (va_Pc [.ref M.o_Ed] (fun U => U.heap.size = sz ∧ at_ (dC, dI) (fun _ => True) (wV M Y G S) (tV M) U ∧ E (va_A (wV M Y G S) sz) U)) (va_Qi (fun (r_ : Int32) (u : Unit) => r_ = r) (fun (u : Unit) t => at_ (dC, dI) (va_A (wV M Y G S) sz) (wV M Y G S') (tV M) t) (va_A (wV M Y G S) sz)) 0 0 (va_A (wV M Y G S) sz) := by
  refine Met.ofW (cc := cb_Ed_lastPoint) (maxL := 2) (ret := (some .int)) (by decide) rfl ?_
  intro p e s m args below meth c s₁ B hml hv
  obtain ⟨rfl, hsz, ⟨hP, hK, hD0⟩, hE⟩ := hv
  have hx := B.exec
  have hb := B.bytes
  have hr := B.returns
  have hts0 := atoms_spec (ws := .code y_Ed_lastPoint cb_Ed_lastPoint 2 (some .int) :: V_Vq) B.pre
  have hts : ∀ w ∈ V_Vq, w.before ([.ref M.o_Ed] : List Value).toArray s = true := fun w h => hts0 w (List.mem_cons_of_mem _ h)
  have hown : s.vm.findClass R_Ed = some m.cls := findClass_of_methodNamed B.named
  subst hsz
  have hD := hD0.self (sz := s.heap.size)
  generalize hAe : va_A (wV M Y G S) s.heap.size = A at hD hE ⊢
  have hA : ∀ q : Nat, s.heap.size ≤ q → A q := fun q h => by rw [← hAe]; exact Or.inr h
  have hS : va_S A s.heap s.heap [] := va_S.rf
  have hP : va_P (dC, dI) classes (wV M Y G S) s.heap := hP
  have hK : va_K (dC, dI) classes (tV M) s := hK
  have hEw : ∀ (H : Heap) (locs : List Loc), va_S A s.heap H locs → ∀ U : State, U.heap = H → s.WarmedH U.vm → E A U := fun H locs hS U hU hW => X.kept A s U H locs hE hS hU hW
  have hl := lv_entry ([.ref M.o_Ed]) (n := 2) (Nat.le_of_ble_eq_true rfl)
  rw [lg_entry_eq]
  generalize (lg_sl ([.ref M.o_Ed]) ++ List.replicate (2 - (lg_sl ([.ref M.o_Ed])).length) Slot.unset).toArray = ls at hl ⊢
  have hl : lv_has ls 2 [(0, .ref M.o_Ed)] := hl
  refine qabs (fun Q hQ => ?_)
  have hB_7 : ∀ (k : Nat), ∀ (y_1 : Int32) (S : CS) (H : Heap) (locs : List Loc) (ls : Array Slot), f_Ed_lastPoint_7 K G k y_1 S = some (r, S') → va_P (dC, dI) classes (wV M Y G S) H → va_D A (wV M Y G S) → va_S A s.heap H locs → lv_has ls 2 [(0, .ref M.o_Ed), (1, .int y_1)] → W p l e ({ frames := 0, cells := 0, slots := 0, locals := 0 }) s m ([.ref M.o_Ed] : List Value).toArray below meth c H locs 0 0 Q (F0 m 7 ls []) := by
    intro k
    induction k with
    | zero => intro y_1 S H locs ls h; exact lf_no h
    | succ k hr_7 =>
      intro y_1 S H locs ls h hP hD hS hl
      rw [f_Ed_lastPoint_7] at h
      refine lv_iload_n hx hb d_Ed_lastPoint_7 rfl (lv_at hl 1 rfl) ?_
      refine lv_if_le (tgt := 30) hx hb d_Ed_lastPoint_8 (by decide) (fun c_2 => ?_) (fun c_2 => ?_)
      · have h := lf_t h c_2
        refine lv_iconst (v := (-1)) hx hb d_Ed_lastPoint_30 (by decide) ?_
        rw [hQ]
        have e1 : ((-1)) = r := congrArg Prod.fst (Option.some.inj h)
        have e2 : S = S' := congrArg Prod.snd (Option.some.inj h)
        have hP := ly_newP e2.symm hP
        have hD := ly_newD e2.symm hD
        exact W.iret (v := ((-1))) hx hb hr (fun t ht hW => ⟨⟨((-1)), (), rfl, e1, by rw [ht]; exact hP, va_K.moved hW.alike hK, hD⟩, hS.F ht⟩) hS.2.2 d_Ed_lastPoint_31
      · have h := lf_f h c_2
        refine lv_aload_n hx hb d_Ed_lastPoint_11 rfl (lv_at hl 0 rfl) ?_
        refine va_get (D := (dC, dI)) (ci := 8) (v := .ref M.a_Ed_units) (C := R_Ed) (T := F_Ed) (N := 13) hx hb hts (fun w h => u_Vq_Ed w (i_Ed w h)) hown hK hP 6 rfl rfl 5 (by decide) (hts _ (u_Vq_Ed _ k_Ed_12)) (fun _ h9 => h9) rfl d_Ed_lastPoint_12 ?_
        refine lv_iload_n hx hb d_Ed_lastPoint_15 rfl (lv_at hl 1 rfl) ?_
        obtain ⟨g_3, h⟩ := lf_gE h
        refine va_iald hx hb hK hP 37 2 rfl rfl g_3 d_Ed_lastPoint_16 ?_
        refine lv_bipush (v := 46) hx hb d_Ed_lastPoint_17 (by decide) ?_
        refine lv_icmp_ne (tgt := 24) hx hb d_Ed_lastPoint_19 (by decide) (fun c_4 => ?_) (fun c_4 => ?_)
        · have h := lf_f h c_4
          obtain ⟨x_5, ex_5, h⟩ := lf_lX h
          refine lv_iinc (v := x_5) (lv' := [(1, .int x_5), (0, .ref M.o_Ed)]) hx hb d_Ed_lastPoint_24 hl (k := 1) rfl (by rw [ex_5]; rfl) (by decide) rfl (fun ls hl => ?_)
          refine lv_goto (tgt := 7) hx hb d_Ed_lastPoint_27 (by decide) ?_
          exact hr_7 x_5 S _ _ _ h hP hD hS (lv_sub hl [1, 0] rfl)
        · have h := lf_t h c_4
          refine lv_iload_n hx hb d_Ed_lastPoint_22 rfl (lv_at hl 1 rfl) ?_
          rw [hQ]
          have e1 : y_1 = r := congrArg Prod.fst (Option.some.inj h)
          have e2 : S = S' := congrArg Prod.snd (Option.some.inj h)
          have hP := ly_newP e2.symm hP
          have hD := ly_newD e2.symm hD
          exact W.iret (v := y_1) hx hb hr (fun t ht hW => ⟨⟨y_1, (), rfl, e1, by rw [ht]; exact hP, va_K.moved hW.alike hK, hD⟩, hS.F ht⟩) hS.2.2 d_Ed_lastPoint_23
  rw [f_Ed_lastPoint] at h
  refine lv_aload_n hx hb d_Ed_lastPoint_0 rfl (lv_at hl 0 rfl) ?_
  refine va_get (D := (dC, dI)) (ci := 8) (v := .int S.v_Ed_unitCount) (C := R_Ed) (T := F_Ed) (N := 13) hx hb hts (fun w h => u_Vq_Ed w (i_Ed w h)) hown hK hP 6 rfl rfl 6 (by decide) (hts _ (u_Vq_Ed _ k_Ed_13)) (fun _ h9 => h9) rfl d_Ed_lastPoint_1 ?_
  refine lv_iconst (v := 1) hx hb d_Ed_lastPoint_4 (by decide) ?_
  refine lv_isub hx hb d_Ed_lastPoint_5 ?_
  refine lv_topi (fun x_1 ex_1 => ?_)
  have h := lf_lE h ex_1
  refine lv_istore_n (lv' := [(1, .int x_1), (0, .ref M.o_Ed)]) hx hb d_Ed_lastPoint_6 rfl hl (by decide) rfl (fun ls hl => ?_)
  exact hB_7 K x_1 S _ _ _ h hP hD hS (lv_sub hl [1, 0] rfl)
set_option maxHeartbeats 4000000 in
set_option maxRecDepth 100000 in
theorem l_Ed_takePlainName (l : Launch) (dC : Nat → ClassId) (dI : Nat → Nat → Nat) {K : Nat} {M : CA} {E : (Nat → Prop) → State → Prop} (X : ly_X l dC dI K M E) (sz : Nat) {Y : CT} {G : CG} {S S' : CS} {r : Int32} (h : f_Ed_takePlainName K G S = some (r, S')) : Met l y_Ed_takePlainName (.code y_Ed_takePlainName cb_Ed_takePlainName 5 (some .boolean) :: V_Vq) ({ frames := 1, cells := 0, slots := 0, locals := 23 }) (va_Pc [.ref M.o_Ed] (fun U => U.heap.size = sz ∧ at_ (dC, dI) (fun _ => True) (wV M Y G S) (tV M) U ∧ E (va_A (wV M Y G S) sz) U)) (va_Qi (fun (r_ : Int32) (u : Unit) => r_ = r) (fun (u : Unit) t => at_ (dC, dI) (va_A (wV M Y G S) sz) (wV M Y G S') (tV M) t) (va_A (wV M Y G S) sz)) 0 0 (va_A (wV M Y G S) sz) := by
  refine Met.ofW (cc := cb_Ed_takePlainName) (maxL := 5) (ret := (some .boolean)) (by decide) rfl ?_
  intro p e s m args below meth c s₁ B hml hv
  obtain ⟨rfl, hsz, ⟨hP, hK, hD0⟩, hE⟩ := hv
  have hx := B.exec
  have hb := B.bytes
  have hr := B.returns
  have hts0 := atoms_spec (ws := .code y_Ed_takePlainName cb_Ed_takePlainName 5 (some .boolean) :: V_Vq) B.pre
  have hts : ∀ w ∈ V_Vq, w.before ([.ref M.o_Ed] : List Value).toArray s = true := fun w h => hts0 w (List.mem_cons_of_mem _ h)
  have hown : s.vm.findClass R_Ed = some m.cls := findClass_of_methodNamed B.named
  subst hsz
  have hD := hD0.self (sz := s.heap.size)
  generalize hAe : va_A (wV M Y G S) s.heap.size = A at hD hE ⊢
  have hA : ∀ q : Nat, s.heap.size ≤ q → A q := fun q h => by rw [← hAe]; exact Or.inr h
  have hS : va_S A s.heap s.heap [] := va_S.rf
  have hP : va_P (dC, dI) classes (wV M Y G S) s.heap := hP
  have hK : va_K (dC, dI) classes (tV M) s := hK
  have hEw : ∀ (H : Heap) (locs : List Loc), va_S A s.heap H locs → ∀ U : State, U.heap = H → s.WarmedH U.vm → E A U := fun H locs hS U hU hW => X.kept A s U H locs hE hS hU hW
  have hl := lv_entry ([.ref M.o_Ed]) (n := 5) (Nat.le_of_ble_eq_true rfl)
  rw [lg_entry_eq]
  generalize (lg_sl ([.ref M.o_Ed]) ++ List.replicate (5 - (lg_sl ([.ref M.o_Ed])).length) Slot.unset).toArray = ls at hl ⊢
  have hl : lv_has ls 5 [(0, .ref M.o_Ed)] := hl
  refine qabs (fun Q hQ => ?_)
  have hB_48 : ∀ (S : CS) (H : Heap) (locs : List Loc) (ls : Array Slot), f_Ed_takePlainName_48 K G S = some (r, S') → va_P (dC, dI) classes (wV M Y G S) H → va_D A (wV M Y G S) → va_S A s.heap H locs → lv_has ls 5 [] → W p l e ({ frames := 1, cells := 0, slots := 0, locals := 23 }) s m ([.ref M.o_Ed] : List Value).toArray below meth c H locs 0 0 Q (F0 m 48 ls []) := by
    intro S H locs ls h hP hD hS hl
    rw [f_Ed_takePlainName_48] at h
    refine lv_iconst (v := 0) hx hb d_Ed_takePlainName_48 (by decide) ?_
    rw [hQ]
    have e1 : (0 : Int32) = r := congrArg Prod.fst (Option.some.inj h)
    have e2 : S = S' := congrArg Prod.snd (Option.some.inj h)
    have hP := ly_newP e2.symm hP
    have hD := ly_newD e2.symm hD
    exact W.zret (v := 0) hx hb hr rfl (fun t ht hW => ⟨⟨0, (), rfl, e1, by rw [ht]; exact hP, va_K.moved hW.alike hK, hD⟩, hS.F ht⟩) hS.2.2 d_Ed_takePlainName_49
  have hB_130 : ∀ (rec_62 : Int32 → Int32 → Int32 → CS → Option (Int32 × CS)) (hr_62 : ∀ (y_1 : Int32) (y_2 : Int32) (y_4 : Int32) (S : CS) (H : Heap) (locs : List Loc) (ls : Array Slot), rec_62 y_1 y_2 y_4 S = some (r, S') → va_P (dC, dI) classes (wV M Y G S) H → va_D A (wV M Y G S) → va_S A s.heap H locs → lv_has ls 5 [(0, .ref M.o_Ed), (1, .int y_1), (2, .int y_2), (4, .int y_4)] → W p l e ({ frames := 1, cells := 0, slots := 0, locals := 23 }) s m ([.ref M.o_Ed] : List Value).toArray below meth c H locs 0 0 Q (F0 m 62 ls [])), ∀ (y_1 : Int32) (y_2 : Int32) (y_4 : Int32) (S : CS) (H : Heap) (locs : List Loc) (ls : Array Slot), f_Ed_takePlainName_130 K G rec_62 y_1 y_2 y_4 S = some (r, S') → va_P (dC, dI) classes (wV M Y G S) H → va_D A (wV M Y G S) → va_S A s.heap H locs → lv_has ls 5 [(0, .ref M.o_Ed), (1, .int y_1), (2, .int y_2), (4, .int y_4)] → W p l e ({ frames := 1, cells := 0, slots := 0, locals := 23 }) s m ([.ref M.o_Ed] : List Value).toArray below meth c H locs 0 0 Q (F0 m 130 ls []) := by
    intro rec_62 hr_62 y_1 y_2 y_4 S H locs ls h hP hD hS hl
    rw [f_Ed_takePlainName_130] at h
    obtain ⟨x_14, ex_14, h⟩ := lf_lX h
    refine lv_iinc (v := x_14) (lv' := [(4, .int x_14), (0, .ref M.o_Ed), (1, .int y_1), (2, .int y_2)]) hx hb d_Ed_takePlainName_130 hl (k := 3) rfl (by rw [ex_14]; rfl) (by decide) rfl (fun ls hl => ?_)
    refine lv_goto (tgt := 62) hx hb d_Ed_takePlainName_133 (by decide) ?_
    exact hr_62 y_1 y_2 x_14 S _ _ _ h hP hD hS (lv_sub hl [1, 2, 3, 0] rfl)
  have hB_122 : ∀ (rec_62 : Int32 → Int32 → Int32 → CS → Option (Int32 × CS)) (hr_62 : ∀ (y_1 : Int32) (y_2 : Int32) (y_4 : Int32) (S : CS) (H : Heap) (locs : List Loc) (ls : Array Slot), rec_62 y_1 y_2 y_4 S = some (r, S') → va_P (dC, dI) classes (wV M Y G S) H → va_D A (wV M Y G S) → va_S A s.heap H locs → lv_has ls 5 [(0, .ref M.o_Ed), (1, .int y_1), (2, .int y_2), (4, .int y_4)] → W p l e ({ frames := 1, cells := 0, slots := 0, locals := 23 }) s m ([.ref M.o_Ed] : List Value).toArray below meth c H locs 0 0 Q (F0 m 62 ls [])), ∀ (y_1 : Int32) (y_2 : Int32) (y_4 : Int32) (z_1 : Int32) (S : CS) (H : Heap) (locs : List Loc) (ls : Array Slot), f_Ed_takePlainName_122 K G rec_62 y_1 y_2 y_4 z_1 S = some (r, S') → va_P (dC, dI) classes (wV M Y G S) H → va_D A (wV M Y G S) → va_S A s.heap H locs → lv_has ls 5 [(0, .ref M.o_Ed), (1, .int y_1), (2, .int y_2), (4, .int y_4)] → W p l e ({ frames := 1, cells := 0, slots := 0, locals := 23 }) s m ([.ref M.o_Ed] : List Value).toArray below meth c H locs 0 0 Q (F0 m 122 ls [.int z_1, .ref M.a_Ed_shortName]) := by
    intro rec_62 hr_62 y_1 y_2 y_4 z_1 S H locs ls h hP hD hS hl
    rw [f_Ed_takePlainName_122] at h
    refine lv_aload_n hx hb d_Ed_takePlainName_122 rfl (lv_at hl 0 rfl) ?_
    refine va_get (D := (dC, dI)) (ci := 8) (v := .ref M.a_Ed_units) (C := R_Ed) (T := F_Ed) (N := 13) hx hb hts (fun w h => u_Vq_Ed w (i_Ed w h)) hown hK hP 6 rfl rfl 5 (by decide) (hts _ (u_Vq_Ed _ k_Ed_12)) (fun _ h9 => h9) rfl d_Ed_takePlainName_123 ?_
    refine lv_iload hx hb d_Ed_takePlainName_126 (lv_at hl 3 rfl) ?_
    obtain ⟨g_15, h⟩ := lf_gE h
    refine va_iald hx hb hK hP 37 2 rfl rfl g_15 d_Ed_takePlainName_128 ?_
    obtain ⟨g_16, h⟩ := lf_gE h
    refine va_iast hx hb hK hP hD hS 38 2 rfl rfl g_16 d_Ed_takePlainName_129 (fun H locs hP hD hS => ?_)
    obtain ⟨S_17, eS_17, h⟩ := lf_lX h
    have hP := ly_newP eS_17 hP
    have hD := ly_newD eS_17 hD
    exact hB_130 _ hr_62 y_1 y_2 y_4 S_17 _ _ _ h hP hD hS (lv_sub hl [0, 1, 2, 3] rfl)
  have hB_92 : ∀ (rec_62 : Int32 → Int32 → Int32 → CS → Option (Int32 × CS)) (hr_62 : ∀ (y_1 : Int32) (y_2 : Int32) (y_4 : Int32) (S : CS) (H : Heap) (locs : List Loc) (ls : Array Slot), rec_62 y_1 y_2 y_4 S = some (r, S') → va_P (dC, dI) classes (wV M Y G S) H → va_D A (wV M Y G S) → va_S A s.heap H locs → lv_has ls 5 [(0, .ref M.o_Ed), (1, .int y_1), (2, .int y_2), (4, .int y_4)] → W p l e ({ frames := 1, cells := 0, slots := 0, locals := 23 }) s m ([.ref M.o_Ed] : List Value).toArray below meth c H locs 0 0 Q (F0 m 62 ls [])), ∀ (y_1 : Int32) (y_2 : Int32) (y_4 : Int32) (S : CS) (H : Heap) (locs : List Loc) (ls : Array Slot), f_Ed_takePlainName_92 K G rec_62 y_1 y_2 y_4 S = some (r, S') → va_P (dC, dI) classes (wV M Y G S) H → va_D A (wV M Y G S) → va_S A s.heap H locs → lv_has ls 5 [(0, .ref M.o_Ed), (1, .int y_1), (2, .int y_2), (4, .int y_4)] → W p l e ({ frames := 1, cells := 0, slots := 0, locals := 23 }) s m ([.ref M.o_Ed] : List Value).toArray below meth c H locs 0 0 Q (F0 m 92 ls []) := by
    intro rec_62 hr_62 y_1 y_2 y_4 S H locs ls h hP hD hS hl
    rw [f_Ed_takePlainName_92] at h
    refine lv_iload hx hb d_Ed_takePlainName_92 (lv_at hl 3 rfl) ?_
    refine lv_iload_n hx hb d_Ed_takePlainName_94 rfl (lv_at hl 1 rfl) ?_
    refine lv_icmp_eq (tgt := 130) hx hb d_Ed_takePlainName_95 (by decide) (fun c_12 => ?_) (fun c_12 => ?_)
    · have h := lf_t h c_12
      exact hB_130 _ hr_62 y_1 y_2 y_4 S _ _ _ h hP hD hS (lv_sub hl [0, 1, 2, 3] rfl)
    · have h := lf_f h c_12
      refine lv_aload_n hx hb d_Ed_takePlainName_98 rfl (lv_at hl 0 rfl) ?_
      refine va_get (D := (dC, dI)) (ci := 8) (v := .ref M.a_Ed_shortName) (C := R_Ed) (T := F_Ed) (N := 13) hx hb hts (fun w h => u_Vq_Ed w (i_Ed w h)) hown hK hP 6 rfl rfl 7 (by decide) (hts _ (u_Vq_Ed _ k_Ed_14)) (fun _ h9 => h9) rfl d_Ed_takePlainName_99 ?_
      refine lv_iload hx hb d_Ed_takePlainName_102 (lv_at hl 3 rfl) ?_
      refine lv_iload_n hx hb d_Ed_takePlainName_104 rfl (lv_at hl 2 rfl) ?_
      refine lv_icmp_ge (tgt := 113) hx hb d_Ed_takePlainName_105 (by decide) (fun c_13 => ?_) (fun c_13 => ?_)
      · have h := lf_t h c_13
        refine lv_bipush (v := 8) hx hb d_Ed_takePlainName_113 (by decide) ?_
        refine lv_iload hx hb d_Ed_takePlainName_115 (lv_at hl 3 rfl) ?_
        refine lv_iadd hx hb d_Ed_takePlainName_117 ?_
        refine lv_iload_n hx hb d_Ed_takePlainName_118 rfl (lv_at hl 2 rfl) ?_
        refine lv_isub hx hb d_Ed_takePlainName_119 ?_
        refine lv_iconst (v := 1) hx hb d_Ed_takePlainName_120 (by decide) ?_
        refine lv_isub hx hb d_Ed_takePlainName_121 ?_
        exact hB_122 _ hr_62 y_1 y_2 y_4 (((8 + y_4) - y_2) - 1) S _ _ _ h hP hD hS (lv_sub hl [0, 1, 2, 3] rfl)
      · have h := lf_f h c_13
        refine lv_iload hx hb d_Ed_takePlainName_108 (lv_at hl 3 rfl) ?_
        refine lv_goto (tgt := 122) hx hb d_Ed_takePlainName_110 (by decide) ?_
        exact hB_122 _ hr_62 y_1 y_2 y_4 y_4 S _ _ _ h hP hD hS (lv_sub hl [0, 1, 2, 3] rfl)
  have hB_62 : ∀ (k : Nat), ∀ (y_1 : Int32) (y_2 : Int32) (y_4 : Int32) (S : CS) (H : Heap) (locs : List Loc) (ls : Array Slot), f_Ed_takePlainName_62 K G k y_1 y_2 y_4 S = some (r, S') → va_P (dC, dI) classes (wV M Y G S) H → va_D A (wV M Y G S) → va_S A s.heap H locs → lv_has ls 5 [(0, .ref M.o_Ed), (1, .int y_1), (2, .int y_2), (4, .int y_4)] → W p l e ({ frames := 1, cells := 0, slots := 0, locals := 23 }) s m ([.ref M.o_Ed] : List Value).toArray below meth c H locs 0 0 Q (F0 m 62 ls []) := by
    intro k
    induction k with
    | zero => intro y_1 y_2 y_4 S H locs ls h; exact lf_no h
    | succ k hr_62 =>
      intro y_1 y_2 y_4 S H locs ls h hP hD hS hl
      rw [f_Ed_takePlainName_62] at h
      refine lv_iload hx hb d_Ed_takePlainName_62 (lv_at hl 3 rfl) ?_
      refine lv_aload_n hx hb d_Ed_takePlainName_64 rfl (lv_at hl 0 rfl) ?_
      refine va_get (D := (dC, dI)) (ci := 8) (v := .int S.v_Ed_unitCount) (C := R_Ed) (T := F_Ed) (N := 13) hx hb hts (fun w h => u_Vq_Ed w (i_Ed w h)) hown hK hP 6 rfl rfl 6 (by decide) (hts _ (u_Vq_Ed _ k_Ed_13)) (fun _ h9 => h9) rfl d_Ed_takePlainName_65 ?_
      refine lv_icmp_ge (tgt := 136) hx hb d_Ed_takePlainName_68 (by decide) (fun c_7 => ?_) (fun c_7 => ?_)
      · have h := lf_t h c_7
        refine lv_iconst (v := 1) hx hb d_Ed_takePlainName_136 (by decide) ?_
        rw [hQ]
        have e1 : (1 : Int32) = r := congrArg Prod.fst (Option.some.inj h)
        have e2 : S = S' := congrArg Prod.snd (Option.some.inj h)
        have hP := ly_newP e2.symm hP
        have hD := ly_newD e2.symm hD
        exact W.zret (v := 1) hx hb hr rfl (fun t ht hW => ⟨⟨1, (), rfl, e1, by rw [ht]; exact hP, va_K.moved hW.alike hK, hD⟩, hS.F ht⟩) hS.2.2 d_Ed_takePlainName_137
      · have h := lf_f h c_7
        refine lv_iload hx hb d_Ed_takePlainName_71 (lv_at hl 3 rfl) ?_
        refine lv_iload_n hx hb d_Ed_takePlainName_73 rfl (lv_at hl 1 rfl) ?_
        refine lv_icmp_eq (tgt := 92) hx hb d_Ed_takePlainName_74 (by decide) (fun c_8 => ?_) (fun c_8 => ?_)
        · have h := lf_t h c_8
          exact hB_92 _ hr_62 y_1 y_2 y_4 S _ _ _ h hP hD hS (lv_sub hl [0, 1, 2, 3] rfl)
        · have h := lf_f h c_8
          refine lv_aload_n hx hb d_Ed_takePlainName_77 rfl (lv_at hl 0 rfl) ?_
          refine va_get (D := (dC, dI)) (ci := 8) (v := .ref M.a_Ed_units) (C := R_Ed) (T := F_Ed) (N := 13) hx hb hts (fun w h => u_Vq_Ed w (i_Ed w h)) hown hK hP 6 rfl rfl 5 (by decide) (hts _ (u_Vq_Ed _ k_Ed_12)) (fun _ h9 => h9) rfl d_Ed_takePlainName_78 ?_
          refine lv_iload hx hb d_Ed_takePlainName_81 (lv_at hl 3 rfl) ?_
          obtain ⟨g_9, h⟩ := lf_gE h
          refine va_iald hx hb hK hP 37 2 rfl rfl g_9 d_Ed_takePlainName_83 ?_
          obtain ⟨r_10, hc_10, h⟩ := lf_bE h
          have hFc := lx_free0 hS hA
          refine va_calli (va_runS (As := [.int (S.w_Ed_units y_4.toNatClampNeg)]) (rest := []) ⟨hx, hb, hml, hown, hts⟩ (l_Wo_mayBeShort l dC dI  _ hc_10) (va_cwS 1 hts (gwS good_Vq (u_Vq_Ed _ k_Ed_48) (u_Vq_Wo _ k_Wo_5) (u_Vq_Wo _ k_Wo_0) (wcs (u_Vq_Wo _ k_Wo_6) (fun _ h => h))) rfl rfl rfl (by decide +kernel) ⟨Nat.le_of_ble_eq_true rfl, Nat.le_of_ble_eq_true rfl⟩) (ps_of (W := []) (tys := []) (hP.sub (ws' := []) [] rfl) (hK.sub [] rfl) (hD.sub (ws' := []) [] (by decide) rfl)) rfl rfl hl.1 rfl (lv_room (Nat.le_of_ble_eq_true rfl)) d_Ed_takePlainName_84 ⟨by decide, by decide⟩) hS (fun q _ h => hFc q h) hFc (fun r_ u t H locs ht hvm hw hB hz1 hk1 hS => ?_)
          rw [hw]
          have hP := lx_stat (A := A) hP hk1
          refine lv_if_ne (tgt := 92) hx hb d_Ed_takePlainName_87 (by decide) (fun c_11 => ?_) (fun c_11 => ?_)
          · have h := lf_f h c_11
            exact hB_92 _ hr_62 y_1 y_2 y_4 S _ _ _ h hP hD hS (lv_sub hl [0, 1, 2, 3] rfl)
          · have h := lf_t h c_11
            refine lv_iconst (v := 0) hx hb d_Ed_takePlainName_90 (by decide) ?_
            rw [hQ]
            have e1 : (0 : Int32) = r := congrArg Prod.fst (Option.some.inj h)
            have e2 : S = S' := congrArg Prod.snd (Option.some.inj h)
            have hP := ly_newP e2.symm hP
            have hD := ly_newD e2.symm hD
            exact W.zret (v := 0) hx hb hr rfl (fun t ht hW => ⟨⟨0, (), rfl, e1, by rw [ht]; exact hP, va_K.moved hW.alike hK, hD⟩, hS.F ht⟩) hS.2.2 d_Ed_takePlainName_91
  have hB_36 : ∀ (y_1 : Int32) (y_2 : Int32) (z_0 : Int32) (S : CS) (H : Heap) (locs : List Loc) (ls : Array Slot), f_Ed_takePlainName_36 K G y_1 y_2 z_0 S = some (r, S') → va_P (dC, dI) classes (wV M Y G S) H → va_D A (wV M Y G S) → va_S A s.heap H locs → lv_has ls 5 [(0, .ref M.o_Ed), (1, .int y_1), (2, .int y_2)] → W p l e ({ frames := 1, cells := 0, slots := 0, locals := 23 }) s m ([.ref M.o_Ed] : List Value).toArray below meth c H locs 0 0 Q (F0 m 36 ls [.int z_0]) := by
    intro y_1 y_2 z_0 S H locs ls h hP hD hS hl
    rw [f_Ed_takePlainName_36] at h
    refine lv_istore_n (lv' := [(3, .int z_0), (0, .ref M.o_Ed), (1, .int y_1), (2, .int y_2)]) hx hb d_Ed_takePlainName_36 rfl hl (by decide) rfl (fun ls hl => ?_)
    refine lv_iload_n hx hb d_Ed_takePlainName_37 rfl (lv_at hl 3 rfl) ?_
    refine lv_bipush (v := 8) hx hb d_Ed_takePlainName_38 (by decide) ?_
    refine lv_icmp_gt (tgt := 48) hx hb d_Ed_takePlainName_40 (by decide) (fun c_4 => ?_) (fun c_4 => ?_)
    · have h := lf_t h c_4
      exact hB_48 S _ _ _ h hP hD hS (lv_sub hl [] rfl)
    · have h := lf_f h c_4
      refine lv_iload_n hx hb d_Ed_takePlainName_43 rfl (lv_at hl 0 rfl) ?_
      refine lv_iconst (v := 3) hx hb d_Ed_takePlainName_44 (by decide) ?_
      refine lv_icmp_le (tgt := 50) hx hb d_Ed_takePlainName_45 (by decide) (fun c_5 => ?_) (fun c_5 => ?_)
      · have h := lf_t h c_5
        refine lv_aload_n hx hb d_Ed_takePlainName_50 rfl (lv_at hl 1 rfl) ?_
        refine va_get (D := (dC, dI)) (ci := 8) (v := .ref M.a_Ed_shortName) (C := R_Ed) (T := F_Ed) (N := 13) hx hb hts (fun w h => u_Vq_Ed w (i_Ed w h)) hown hK hP 6 rfl rfl 7 (by decide) (hts _ (u_Vq_Ed _ k_Ed_14)) (fun _ h9 => h9) rfl d_Ed_takePlainName_51 ?_
        refine lv_bipush (v := 32) hx hb d_Ed_takePlainName_54 (by decide) ?_
        have hPc := hP.sub (ws' := [(M.a_Ed_shortName, .inl (M.kI, 11, .inl S.w_Ed_shortName))]) [38] rfl
        have hDc := hD.sub (ws' := [(M.a_Ed_shortName, .inl (M.kI, 11, .inl S.w_Ed_shortName))]) [38] (by decide) rfl
        have hKc := hK.sub (tys' := [(M.kI, .int)]) [2] rfl
        have hFc := va_free (wc := [(M.a_Ed_shortName, .inl (M.kI, 11, .inl S.w_Ed_shortName))]) hD hS hA [38] rfl
        refine va_callv (va_runS (As := [.ref M.a_Ed_shortName, .int 32]) (rest := []) ⟨hx, hb, hml, hown, hts⟩ (c_Ar_fillI l dC dI M.a_Ed_shortName _ M.kI 11 S.w_Ed_shortName (by decide) 32) (va_cwS 2 hts (gwS good_Vq (u_Vq_Ed _ k_Ed_47) (u_Vq_J _ k_J_50) (u_Vq_J _ k_J_2) (wcs (u_Vq_J _ k_J_51) u_Vq_J)) rfl rfl rfl (by decide +kernel) ⟨Nat.le_of_ble_eq_true rfl, Nat.le_of_ble_eq_true rfl⟩) (ps_of hPc hKc hDc) rfl rfl hl.1 rfl (lv_room (Nat.le_of_ble_eq_true rfl)) d_Ed_takePlainName_56 ⟨by decide, by decide⟩) hS (fun q _ h => hFc q h) hFc (fun u t H locs ht hvm hw hB hz1 hk1 hS => ?_)
        obtain ⟨hP1, -, -⟩ := hB
        rw [ht, hw] at hP1
        obtain ⟨hP, hD⟩ := lx_one hP hD (q := 38) rfl hk1 hP1
        obtain ⟨S_6, eS_6, h⟩ := lf_lX h
        have hP := ly_newP eS_6 hP
        have hD := ly_newD eS_6 hD
        refine lv_iconst (v := 0) hx hb d_Ed_takePlainName_59 (by decide) ?_
        refine lv_istore (lv' := [(4, .int 0), (3, .int z_0), (0, .ref M.o_Ed), (1, .int y_1), (2, .int y_2)]) hx hb d_Ed_takePlainName_60 hl (by decide) rfl (fun ls hl => ?_)
        exact hB_62 K y_1 y_2 0 S_6 _ _ _ h hP hD hS (lv_sub hl [2, 3, 4, 0] rfl)
      · have h := lf_f h c_5
        exact hB_48 S _ _ _ h hP hD hS (lv_sub hl [] rfl)
  have hB_18 : ∀ (y_1 : Int32) (z_0 : Int32) (S : CS) (H : Heap) (locs : List Loc) (ls : Array Slot), f_Ed_takePlainName_18 K G y_1 z_0 S = some (r, S') → va_P (dC, dI) classes (wV M Y G S) H → va_D A (wV M Y G S) → va_S A s.heap H locs → lv_has ls 5 [(0, .ref M.o_Ed), (1, .int y_1)] → W p l e ({ frames := 1, cells := 0, slots := 0, locals := 23 }) s m ([.ref M.o_Ed] : List Value).toArray below meth c H locs 0 0 Q (F0 m 18 ls [.int z_0]) := by
    intro y_1 z_0 S H locs ls h hP hD hS hl
    rw [f_Ed_takePlainName_18] at h
    refine lv_istore_n (lv' := [(2, .int z_0), (0, .ref M.o_Ed), (1, .int y_1)]) hx hb d_Ed_takePlainName_18 rfl hl (by decide) rfl (fun ls hl => ?_)
    refine lv_iload_n hx hb d_Ed_takePlainName_19 rfl (lv_at hl 2 rfl) ?_
    refine lv_iconst (v := (-1)) hx hb d_Ed_takePlainName_20 (by decide) ?_
    refine lv_icmp_ne (tgt := 28) hx hb d_Ed_takePlainName_21 (by decide) (fun c_3 => ?_) (fun c_3 => ?_)
    · have h := lf_f h c_3
      refine lv_aload_n hx hb d_Ed_takePlainName_28 rfl (lv_at hl 1 rfl) ?_
      refine va_get (D := (dC, dI)) (ci := 8) (v := .int S.v_Ed_unitCount) (C := R_Ed) (T := F_Ed) (N := 13) hx hb hts (fun w h => u_Vq_Ed w (i_Ed w h)) hown hK hP 6 rfl rfl 6 (by decide) (hts _ (u_Vq_Ed _ k_Ed_13)) (fun _ h9 => h9) rfl d_Ed_takePlainName_29 ?_
      refine lv_iload_n hx hb d_Ed_takePlainName_32 rfl (lv_at hl 2 rfl) ?_
      refine lv_isub hx hb d_Ed_takePlainName_33 ?_
      refine lv_iconst (v := 1) hx hb d_Ed_takePlainName_34 (by decide) ?_
      refine lv_isub hx hb d_Ed_takePlainName_35 ?_
      exact hB_36 y_1 z_0 ((S.v_Ed_unitCount - y_1) - 1) S _ _ _ h hP hD hS (lv_sub hl [1, 2, 0] rfl)
    · have h := lf_t h c_3
      refine lv_iconst (v := 0) hx hb d_Ed_takePlainName_24 (by decide) ?_
      refine lv_goto (tgt := 36) hx hb d_Ed_takePlainName_25 (by decide) ?_
      exact hB_36 y_1 z_0 0 S _ _ _ h hP hD hS (lv_sub hl [1, 2, 0] rfl)
  rw [f_Ed_takePlainName] at h
  refine lv_aload_n hx hb d_Ed_takePlainName_0 rfl (lv_at hl 0 rfl) ?_
  obtain ⟨r_1, S_1, hc_1, h⟩ := lf_cE h
  have hFc := lx_free hD hS hA
  refine va_calli (va_runV (As := []) (rest := []) ⟨hx, hb, hml, hown, hts⟩ (l_Ed_lastPoint l dC dI X _ hc_1) (cwV 0 hts (gwV good_Vq (u_Vq_Ed _ k_Ed_44) (u_Vq_Ed _ k_Ed_45) (u_Vq_Ed _ k_Ed_130) (u_Vq_Ed _ k_Ed_0) (wcs (u_Vq_Ed _ k_Ed_46) (fun _ h => h))) rfl rfl rfl (by decide +kernel) ⟨Nat.le_of_ble_eq_true rfl, Nat.le_of_ble_eq_true rfl⟩) (pv_ofE (X.same _) (fun U z1 z2 => X.mono _ _ U hFc (hEw _ _ hS U z1 z2)) hP hK hD (va_recv hK hP (ci := 8) (q0 := 6) rfl rfl)) rfl rfl hl.1 rfl (lv_room (Nat.le_of_ble_eq_true rfl)) d_Ed_takePlainName_1 ⟨by decide, by decide⟩) hS (fun q _ h => hFc q h) hFc (fun r_ u t H locs ht hvm hw hB hz1 hk1 hS => ?_)
  rw [hw]
  obtain ⟨hP, -, hD⟩ := hB
  rw [ht] at hP
  have hD := lx_dj hD hFc
  refine lv_istore_n (lv' := [(1, .int r_1), (0, .ref M.o_Ed)]) hx hb d_Ed_takePlainName_4 rfl hl (by decide) rfl (fun ls hl => ?_)
  refine lv_iload_n hx hb d_Ed_takePlainName_5 rfl (lv_at hl 0 rfl) ?_
  refine lv_iconst (v := (-1)) hx hb d_Ed_takePlainName_6 (by decide) ?_
  refine lv_icmp_ne (tgt := 17) hx hb d_Ed_takePlainName_7 (by decide) (fun c_2 => ?_) (fun c_2 => ?_)
  · have h := lf_f h c_2
    refine lv_iload_n hx hb d_Ed_takePlainName_17 rfl (lv_at hl 0 rfl) ?_
    exact hB_18 r_1 r_1 S_1 _ _ _ h hP hD hS (lv_sub hl [1, 0] rfl)
  · have h := lf_t h c_2
    refine lv_aload_n hx hb d_Ed_takePlainName_10 rfl (lv_at hl 1 rfl) ?_
    refine va_get (D := (dC, dI)) (ci := 8) (v := .int S_1.v_Ed_unitCount) (C := R_Ed) (T := F_Ed) (N := 13) hx hb hts (fun w h => u_Vq_Ed w (i_Ed w h)) hown hK hP 6 rfl rfl 6 (by decide) (hts _ (u_Vq_Ed _ k_Ed_13)) (fun _ h9 => h9) rfl d_Ed_takePlainName_11 ?_
    refine lv_goto (tgt := 18) hx hb d_Ed_takePlainName_14 (by decide) ?_
    exact hB_18 r_1 S_1.v_Ed_unitCount S_1 _ _ _ h hP hD hS (lv_sub hl [1, 0] rfl)
set_option maxHeartbeats 4000000 in
set_option maxRecDepth 100000 in
theorem l_Ed_readName (l : Launch) (dC : Nat → ClassId) (dI : Nat → Nat → Nat) {K : Nat} {M : CA} {E : (Nat → Prop) → State → Prop} (X : ly_X l dC dI K M E) (sz : Nat) {Y : CT} {G : CG} {S S' : CS} {p1 : Int32} {r : Int32} (h : f_Ed_readName K G S p1 = some (r, S')) : Met l y_Ed_readName (.code y_Ed_readName cb_Ed_readName 4 (some .boolean) :: V_Vq) ({ frames := 2, cells := 0, slots := 0, locals := 47 }) (va_Pc [.ref M.o_Ed, .ref M.o_Tp, .int p1] (fun U => U.heap.size = sz ∧ at_ (dC, dI) (fun _ => True) (wV M Y G S) (tV M) U ∧ E (va_A (wV M Y G S) sz) U)) (va_Qi (fun (r_ : Int32) (u : Unit) => r_ = r) (fun (u : Unit) t => at_ (dC, dI) (va_A (wV M Y G S) sz) (wV M Y G S') (tV M) t) (va_A (wV M Y G S) sz)) 0 0 (va_A (wV M Y G S) sz) := by
  refine Met.ofW (cc := cb_Ed_readName) (maxL := 4) (ret := (some .boolean)) (by decide) rfl ?_
  intro p e s m args below meth c s₁ B hml hv
  obtain ⟨rfl, hsz, ⟨hP, hK, hD0⟩, hE⟩ := hv
  have hx := B.exec
  have hb := B.bytes
  have hr := B.returns
  have hts0 := atoms_spec (ws := .code y_Ed_readName cb_Ed_readName 4 (some .boolean) :: V_Vq) B.pre
  have hts : ∀ w ∈ V_Vq, w.before ([.ref M.o_Ed, .ref M.o_Tp, .int p1] : List Value).toArray s = true := fun w h => hts0 w (List.mem_cons_of_mem _ h)
  have hown : s.vm.findClass R_Ed = some m.cls := findClass_of_methodNamed B.named
  subst hsz
  have hD := hD0.self (sz := s.heap.size)
  generalize hAe : va_A (wV M Y G S) s.heap.size = A at hD hE ⊢
  have hA : ∀ q : Nat, s.heap.size ≤ q → A q := fun q h => by rw [← hAe]; exact Or.inr h
  have hS : va_S A s.heap s.heap [] := va_S.rf
  have hP : va_P (dC, dI) classes (wV M Y G S) s.heap := hP
  have hK : va_K (dC, dI) classes (tV M) s := hK
  have hEw : ∀ (H : Heap) (locs : List Loc), va_S A s.heap H locs → ∀ U : State, U.heap = H → s.WarmedH U.vm → E A U := fun H locs hS U hU hW => X.kept A s U H locs hE hS hU hW
  have hl := lv_entry ([.ref M.o_Ed, .ref M.o_Tp, .int p1]) (n := 4) (Nat.le_of_ble_eq_true rfl)
  rw [lg_entry_eq]
  generalize (lg_sl ([.ref M.o_Ed, .ref M.o_Tp, .int p1]) ++ List.replicate (4 - (lg_sl ([.ref M.o_Ed, .ref M.o_Tp, .int p1])).length) Slot.unset).toArray = ls at hl ⊢
  have hl : lv_has ls 4 [(0, .ref M.o_Ed), (1, .ref M.o_Tp), (2, .int p1)] := hl
  refine qabs (fun Q hQ => ?_)
  have hB_13 : ∀ (S : CS) (H : Heap) (locs : List Loc) (ls : Array Slot), f_Ed_readName_13 K G S = some (r, S') → va_P (dC, dI) classes (wV M Y G S) H → va_D A (wV M Y G S) → va_S A s.heap H locs → lv_has ls 4 [] → W p l e ({ frames := 2, cells := 0, slots := 0, locals := 47 }) s m ([.ref M.o_Ed, .ref M.o_Tp, .int p1] : List Value).toArray below meth c H locs 0 0 Q (F0 m 13 ls []) := by
    intro S H locs ls h hP hD hS hl
    rw [f_Ed_readName_13] at h
    refine lv_iconst (v := 0) hx hb d_Ed_readName_13 (by decide) ?_
    rw [hQ]
    have e1 : (0 : Int32) = r := congrArg Prod.fst (Option.some.inj h)
    have e2 : S = S' := congrArg Prod.snd (Option.some.inj h)
    have hP := ly_newP e2.symm hP
    have hD := ly_newD e2.symm hD
    exact W.zret (v := 0) hx hb hr rfl (fun t ht hW => ⟨⟨0, (), rfl, e1, by rw [ht]; exact hP, va_K.moved hW.alike hK, hD⟩, hS.F ht⟩) hS.2.2 d_Ed_readName_14
  have hB_71 : ∀ (S : CS) (H : Heap) (locs : List Loc) (ls : Array Slot), f_Ed_readName_71 K G S = some (r, S') → va_P (dC, dI) classes (wV M Y G S) H → va_D A (wV M Y G S) → va_S A s.heap H locs → lv_has ls 4 [(0, .ref M.o_Ed)] → W p l e ({ frames := 2, cells := 0, slots := 0, locals := 47 }) s m ([.ref M.o_Ed, .ref M.o_Tp, .int p1] : List Value).toArray below meth c H locs 0 0 Q (F0 m 71 ls []) := by
    intro S H locs ls h hP hD hS hl
    rw [f_Ed_readName_71] at h
    refine lv_aload_n hx hb d_Ed_readName_71 rfl (lv_at hl 0 rfl) ?_
    refine va_get (D := (dC, dI)) (ci := 8) (v := .ref M.a_Ed_units) (C := R_Ed) (T := F_Ed) (N := 13) hx hb hts (fun w h => u_Vq_Ed w (i_Ed w h)) hown hK hP 6 rfl rfl 5 (by decide) (hts _ (u_Vq_Ed _ k_Ed_12)) (fun _ h9 => h9) rfl d_Ed_readName_72 ?_
    refine lv_aload_n hx hb d_Ed_readName_75 rfl (lv_at hl 0 rfl) ?_
    refine va_get (D := (dC, dI)) (ci := 8) (v := .int S.v_Ed_unitCount) (C := R_Ed) (T := F_Ed) (N := 13) hx hb hts (fun w h => u_Vq_Ed w (i_Ed w h)) hown hK hP 6 rfl rfl 6 (by decide) (hts _ (u_Vq_Ed _ k_Ed_13)) (fun _ h9 => h9) rfl d_Ed_readName_76 ?_
    obtain ⟨r_11, S_11, hc_11, h⟩ := lf_cE h
    have hFc := lx_free hD hS hA
    refine va_calli (va_runS (As := [.ref M.a_Ed_units, .int S.v_Ed_unitCount]) (rest := []) ⟨hx, hb, hml, hown, hts⟩ (l_Wo_isName_Edunits l dC dI X _ hc_11) (va_cwS 2 hts (gwS good_Vq (u_Vq_Ed _ k_Ed_40) (u_Vq_Wo _ k_Wo_9) (u_Vq_Wo _ k_Wo_0) (wcs (u_Vq_Wo _ k_Wo_10) (fun _ h => h))) rfl rfl rfl (by decide +kernel) ⟨Nat.le_of_ble_eq_true rfl, Nat.le_of_ble_eq_true rfl⟩) (ps_ofE2 (X.same _) (fun U z1 z2 => X.mono _ _ U hFc (hEw _ _ hS U z1 z2)) hP hK hD) rfl rfl hl.1 rfl (lv_room (Nat.le_of_ble_eq_true rfl)) d_Ed_readName_79 ⟨by decide, by decide⟩) hS (fun q _ h => hFc q h) hFc (fun r_ u t H locs ht hvm hw hB hz1 hk1 hS => ?_)
    rw [hw]
    obtain ⟨hP, -, hD⟩ := hB
    rw [ht] at hP
    have hD := lx_dj hD hFc
    refine lv_if_ne (tgt := 87) hx hb d_Ed_readName_82 (by decide) (fun c_12 => ?_) (fun c_12 => ?_)
    · have h := lf_f h c_12
      refine lv_aload_n hx hb d_Ed_readName_87 rfl (lv_at hl 0 rfl) ?_
      refine lv_aload_n hx hb d_Ed_readName_88 rfl (lv_at hl 0 rfl) ?_
      obtain ⟨r_13, S_13, hc_13, h⟩ := lf_cE h
      have hFc := lx_free hD hS hA
      refine va_calli (va_runV (As := []) (rest := [.ref M.o_Ed]) ⟨hx, hb, hml, hown, hts⟩ (l_Ed_takePlainName l dC dI X _ hc_13) (cwV 0 hts (gwV good_Vq (u_Vq_Ed _ k_Ed_41) (u_Vq_Ed _ k_Ed_42) (u_Vq_Ed _ k_Ed_131) (u_Vq_Ed _ k_Ed_0) (wcs (u_Vq_Ed _ k_Ed_43) (fun _ h => h))) rfl rfl rfl (by decide +kernel) ⟨Nat.le_of_ble_eq_true rfl, Nat.le_of_ble_eq_true rfl⟩) (pv_ofE (X.same _) (fun U z1 z2 => X.mono _ _ U hFc (hEw _ _ hS U z1 z2)) hP hK hD (va_recv hK hP (ci := 8) (q0 := 6) rfl rfl)) rfl rfl hl.1 rfl (lv_room (Nat.le_of_ble_eq_true rfl)) d_Ed_readName_89 ⟨by decide, by decide⟩) hS (fun q _ h => hFc q h) hFc (fun r_ u t H locs ht hvm hw hB hz1 hk1 hS => ?_)
      rw [hw]
      obtain ⟨hP, -, hD⟩ := hB
      rw [ht] at hP
      have hD := lx_dj hD hFc
      obtain ⟨g_14, h⟩ := lf_gE h
      refine va_put (D := (dC, dI)) (ci := 8) (v := .int r_13) (ty := .boolean) (C := R_Ed) (T := F_Ed) (N := 13) hx hb hts (fun w h => u_Vq_Ed w (i_Ed w h)) t_Ed t_Ed_ok n_Ed hown hK hP hD hS 6 rfl rfl 8 (by decide) (hts _ (u_Vq_Ed _ k_Ed_15)) (fun _ h9 => h9) rfl (by decide +kernel) (lf_nz g_14) (lf_fz g_14) (Nat.le_of_ble_eq_true rfl) d_Ed_readName_92 (fun H locs hP hD hS => ?_)
      obtain ⟨S_15, eS_15, h⟩ := lf_lX h
      have hP := ly_newP eS_15 hP
      have hD := ly_newD eS_15 hD
      refine lv_iconst (v := 1) hx hb d_Ed_readName_95 (by decide) ?_
      rw [hQ]
      have e1 : (1 : Int32) = r := congrArg Prod.fst (Option.some.inj h)
      have e2 : S_15 = S' := congrArg Prod.snd (Option.some.inj h)
      have hP := ly_newP e2.symm hP
      have hD := ly_newD e2.symm hD
      exact W.zret (v := 1) hx hb hr rfl (fun t ht hW => ⟨⟨1, (), rfl, e1, by rw [ht]; exact hP, va_K.moved hW.alike hK, hD⟩, hS.F ht⟩) hS.2.2 d_Ed_readName_96
    · have h := lf_t h c_12
      refine lv_iconst (v := 0) hx hb d_Ed_readName_85 (by decide) ?_
      rw [hQ]
      have e1 : (0 : Int32) = r := congrArg Prod.fst (Option.some.inj h)
      have e2 : S_11 = S' := congrArg Prod.snd (Option.some.inj h)
      have hP := ly_newP e2.symm hP
      have hD := ly_newD e2.symm hD
      exact W.zret (v := 0) hx hb hr rfl (fun t ht hW => ⟨⟨0, (), rfl, e1, by rw [ht]; exact hP, va_K.moved hW.alike hK, hD⟩, hS.F ht⟩) hS.2.2 d_Ed_readName_86
  have hB_24 : ∀ (k : Nat), ∀ (y_3 : Int32) (S : CS) (H : Heap) (locs : List Loc) (ls : Array Slot), f_Ed_readName_24 K G k y_3 S = some (r, S') → va_P (dC, dI) classes (wV M Y G S) H → va_D A (wV M Y G S) → va_S A s.heap H locs → lv_has ls 4 [(0, .ref M.o_Ed), (1, .ref M.o_Tp), (3, .int y_3)] → W p l e ({ frames := 2, cells := 0, slots := 0, locals := 47 }) s m ([.ref M.o_Ed, .ref M.o_Tp, .int p1] : List Value).toArray below meth c H locs 0 0 Q (F0 m 24 ls []) := by
    intro k
    induction k with
    | zero => intro y_3 S H locs ls h; exact lf_no h
    | succ k hr_24 =>
      intro y_3 S H locs ls h hP hD hS hl
      rw [f_Ed_readName_24] at h
      refine lv_iload_n hx hb d_Ed_readName_24 rfl (lv_at hl 2 rfl) ?_
      refine lv_aload_n hx hb d_Ed_readName_25 rfl (lv_at hl 0 rfl) ?_
      refine va_get (D := (dC, dI)) (ci := 8) (v := .int S.v_Ed_unitCount) (C := R_Ed) (T := F_Ed) (N := 13) hx hb hts (fun w h => u_Vq_Ed w (i_Ed w h)) hown hK hP 6 rfl rfl 6 (by decide) (hts _ (u_Vq_Ed _ k_Ed_13)) (fun _ h9 => h9) rfl d_Ed_readName_26 ?_
      refine lv_icmp_ge (tgt := 71) hx hb d_Ed_readName_29 (by decide) (fun c_4 => ?_) (fun c_4 => ?_)
      · have h := lf_t h c_4
        exact hB_71 S _ _ _ h hP hD hS (lv_sub hl [0] rfl)
      · have h := lf_f h c_4
        refine lv_iload_n hx hb d_Ed_readName_32 rfl (lv_at hl 2 rfl) ?_
        refine lv_sipush (v := 255) hx hb d_Ed_readName_33 (by decide) ?_
        refine lv_icmp_ge (tgt := 71) hx hb d_Ed_readName_36 (by decide) (fun c_5 => ?_) (fun c_5 => ?_)
        · have h := lf_t h c_5
          exact hB_71 S _ _ _ h hP hD hS (lv_sub hl [0] rfl)
        · have h := lf_f h c_5
          refine lv_aload_n hx hb d_Ed_readName_39 rfl (lv_at hl 0 rfl) ?_
          refine va_get (D := (dC, dI)) (ci := 8) (v := .ref M.a_Ed_units) (C := R_Ed) (T := F_Ed) (N := 13) hx hb hts (fun w h => u_Vq_Ed w (i_Ed w h)) hown hK hP 6 rfl rfl 5 (by decide) (hts _ (u_Vq_Ed _ k_Ed_12)) (fun _ h9 => h9) rfl d_Ed_readName_40 ?_
          refine lv_iload_n hx hb d_Ed_readName_43 rfl (lv_at hl 2 rfl) ?_
          refine lv_aload_n hx hb d_Ed_readName_44 rfl (lv_at hl 1 rfl) ?_
          refine lv_iconst (v := 2) hx hb d_Ed_readName_45 (by decide) ?_
          refine lv_iload_n hx hb d_Ed_readName_46 rfl (lv_at hl 2 rfl) ?_
          refine lv_imul hx hb d_Ed_readName_47 ?_
          obtain ⟨r_6, S_6, hc_6, h⟩ := lf_cE h
          have hFc := lx_free hD hS hA
          refine va_calli (va_runV (As := [.int (2 * y_3)]) (rest := [.int y_3, .ref M.a_Ed_units]) ⟨hx, hb, hml, hown, hts⟩ (l_Tp_one l dC dI X _ hc_6) (cwV 1 hts (gwV good_Vq (u_Vq_Ed _ k_Ed_24) (u_Vq_Tp _ k_Tp_23) (u_Vq_Tp _ k_Tp_24) (u_Vq_Tp _ k_Tp_0) (wcs (u_Vq_Tp _ k_Tp_25) (fun _ h => h))) rfl rfl rfl (by decide +kernel) ⟨Nat.le_of_ble_eq_true rfl, Nat.le_of_ble_eq_true rfl⟩) (pv_ofE (X.same _) (fun U z1 z2 => X.mono _ _ U hFc (hEw _ _ hS U z1 z2)) hP hK hD (va_recv hK hP (ci := 3) (q0 := 2) rfl rfl)) rfl rfl hl.1 rfl (lv_room (Nat.le_of_ble_eq_true rfl)) d_Ed_readName_48 ⟨by decide, by decide⟩) hS (fun q _ h => hFc q h) hFc (fun r_ u t H locs ht hvm hw hB hz1 hk1 hS => ?_)
          rw [hw]
          obtain ⟨hP, -, hD⟩ := hB
          rw [ht] at hP
          have hD := lx_dj hD hFc
          refine lv_bipush (v := 8) hx hb d_Ed_readName_51 (by decide) ?_
          refine lv_ishl hx hb d_Ed_readName_53 ?_
          refine lv_aload_n hx hb d_Ed_readName_54 rfl (lv_at hl 1 rfl) ?_
          refine lv_iconst (v := 2) hx hb d_Ed_readName_55 (by decide) ?_
          refine lv_iload_n hx hb d_Ed_readName_56 rfl (lv_at hl 2 rfl) ?_
          refine lv_imul hx hb d_Ed_readName_57 ?_
          refine lv_iconst (v := 1) hx hb d_Ed_readName_58 (by decide) ?_
          refine lv_iadd hx hb d_Ed_readName_59 ?_
          obtain ⟨r_7, S_7, hc_7, h⟩ := lf_cE h
          have hFc := lx_free hD hS hA
          refine va_calli (va_runV (As := [.int ((2 * y_3) + 1)]) (rest := [.int (r_6 <<< ((8 : Int32) &&& 31)), .int y_3, .ref M.a_Ed_units]) ⟨hx, hb, hml, hown, hts⟩ (l_Tp_one l dC dI X _ hc_7) (cwV 1 hts (gwV good_Vq (u_Vq_Ed _ k_Ed_24) (u_Vq_Tp _ k_Tp_23) (u_Vq_Tp _ k_Tp_24) (u_Vq_Tp _ k_Tp_0) (wcs (u_Vq_Tp _ k_Tp_25) (fun _ h => h))) rfl rfl rfl (by decide +kernel) ⟨Nat.le_of_ble_eq_true rfl, Nat.le_of_ble_eq_true rfl⟩) (pv_ofE (X.same _) (fun U z1 z2 => X.mono _ _ U hFc (hEw _ _ hS U z1 z2)) hP hK hD (va_recv hK hP (ci := 3) (q0 := 2) rfl rfl)) rfl rfl hl.1 rfl (lv_room (Nat.le_of_ble_eq_true rfl)) d_Ed_readName_60 ⟨by decide, by decide⟩) hS (fun q _ h => hFc q h) hFc (fun r_ u t H locs ht hvm hw hB hz1 hk1 hS => ?_)
          rw [hw]
          obtain ⟨hP, -, hD⟩ := hB
          rw [ht] at hP
          have hD := lx_dj hD hFc
          refine lv_ior hx hb d_Ed_readName_63 ?_
          obtain ⟨g_8, h⟩ := lf_gE h
          refine va_iast hx hb hK hP hD hS 37 2 rfl rfl g_8 d_Ed_readName_64 (fun H locs hP hD hS => ?_)
          obtain ⟨S_9, eS_9, h⟩ := lf_lX h
          have hP := ly_newP eS_9 hP
          have hD := ly_newD eS_9 hD
          obtain ⟨x_10, ex_10, h⟩ := lf_lX h
          refine lv_iinc (v := x_10) (lv' := [(3, .int x_10), (0, .ref M.o_Ed), (1, .ref M.o_Tp)]) hx hb d_Ed_readName_65 hl (k := 2) rfl (by rw [ex_10]; rfl) (by decide) rfl (fun ls hl => ?_)
          refine lv_goto (tgt := 24) hx hb d_Ed_readName_68 (by decide) ?_
          exact hr_24 x_10 S_9 _ _ _ h hP hD hS (lv_sub hl [1, 2, 0] rfl)
  rw [f_Ed_readName] at h
  refine lv_iload_n hx hb d_Ed_readName_0 rfl (lv_at hl 2 rfl) ?_
  refine lv_iconst (v := 2) hx hb d_Ed_readName_1 (by decide) ?_
  refine lv_irem hx hb d_Ed_readName_2 (by decide) ?_
  refine lv_if_ne (tgt := 13) hx hb d_Ed_readName_3 (by decide) (fun c_1 => ?_) (fun c_1 => ?_)
  · have h := lf_f h c_1
    exact hB_13 S _ _ _ h hP hD hS (lv_sub hl [] rfl)
  · have h := lf_t h c_1
    refine lv_iload_n hx hb d_Ed_readName_6 rfl (lv_at hl 2 rfl) ?_
    refine lv_sipush (v := 510) hx hb d_Ed_readName_7 (by decide) ?_
    refine lv_icmp_le (tgt := 15) hx hb d_Ed_readName_10 (by decide) (fun c_2 => ?_) (fun c_2 => ?_)
    · have h := lf_t h c_2
      refine lv_aload_n hx hb d_Ed_readName_15 rfl (lv_at hl 0 rfl) ?_
      refine lv_iload_n hx hb d_Ed_readName_16 rfl (lv_at hl 2 rfl) ?_
      refine lv_iconst (v := 2) hx hb d_Ed_readName_17 (by decide) ?_
      refine lv_idiv hx hb d_Ed_readName_18 (by decide) ?_
      refine va_put (D := (dC, dI)) (ci := 8) (v := .int (p1 / 2)) (ty := .int) (C := R_Ed) (T := F_Ed) (N := 13) hx hb hts (fun w h => u_Vq_Ed w (i_Ed w h)) t_Ed t_Ed_ok n_Ed hown hK hP hD hS 6 rfl rfl 6 (by decide) (hts _ (u_Vq_Ed _ k_Ed_13)) (fun _ h9 => h9) rfl (by decide +kernel) rfl rfl (Nat.le_of_ble_eq_true rfl) d_Ed_readName_19 (fun H locs hP hD hS => ?_)
      obtain ⟨S_3, eS_3, h⟩ := lf_lX h
      have hP := ly_newP eS_3 hP
      have hD := ly_newD eS_3 hD
      refine lv_iconst (v := 0) hx hb d_Ed_readName_22 (by decide) ?_
      refine lv_istore_n (lv' := [(3, .int 0), (0, .ref M.o_Ed), (1, .ref M.o_Tp), (2, .int p1)]) hx hb d_Ed_readName_23 rfl hl (by decide) rfl (fun ls hl => ?_)
      exact hB_24 K 0 S_3 _ _ _ h hP hD hS (lv_sub hl [1, 2, 0] rfl)
    · have h := lf_f h c_2
      exact hB_13 S _ _ _ h hP hD hS (lv_sub hl [] rfl)
set_option maxHeartbeats 4000000 in
set_option maxRecDepth 100000 in
theorem l_Tr_isNamed_Edunits (l : Launch) (dC : Nat → ClassId) (dI : Nat → Nat → Nat) {K : Nat} {M : CA} {E : (Nat → Prop) → State → Prop} (X : ly_X l dC dI K M E) (sz : Nat) {Y : CT} {G : CG} {S S' : CS} {p0 : Int32} {p2 : Int32} {r : Int32} (h : f_Tr_isNamed_Edunits K G S p0 p2 = some (r, S')) : Met l y_Tr_isNamed (.code y_Tr_isNamed b_Tr_isNamed 6 (some .boolean) :: V_Vq) ({ frames := 1, cells := 0, slots := 0, locals := 21 }) (va_Pc [.ref M.o_Tr, .int p0, .ref M.a_Ed_units, .int p2] (fun U => U.heap.size = sz ∧ at_ (dC, dI) (fun _ => True) (wV M Y G S) (tV M) U ∧ E (va_A (wV M Y G S) sz) U)) (va_Qi (fun (r_ : Int32) (u : Unit) => r_ = r) (fun (u : Unit) t => at_ (dC, dI) (va_A (wV M Y G S) sz) (wV M Y G S') (tV M) t) (va_A (wV M Y G S) sz)) 0 0 (va_A (wV M Y G S) sz) := by
  refine Met.ofW (cc := b_Tr_isNamed) (maxL := 6) (ret := (some .boolean)) (by decide) rfl ?_
  intro p e s m args below meth c s₁ B hml hv
  obtain ⟨rfl, hsz, ⟨hP, hK, hD0⟩, hE⟩ := hv
  have hx := B.exec
  have hb := B.bytes
  have hr := B.returns
  have hts0 := atoms_spec (ws := .code y_Tr_isNamed b_Tr_isNamed 6 (some .boolean) :: V_Vq) B.pre
  have hts : ∀ w ∈ V_Vq, w.before ([.ref M.o_Tr, .int p0, .ref M.a_Ed_units, .int p2] : List Value).toArray s = true := fun w h => hts0 w (List.mem_cons_of_mem _ h)
  have hown : s.vm.findClass R_Tr = some m.cls := findClass_of_methodNamed B.named
  subst hsz
  have hD := hD0.self (sz := s.heap.size)
  generalize hAe : va_A (wV M Y G S) s.heap.size = A at hD hE ⊢
  have hA : ∀ q : Nat, s.heap.size ≤ q → A q := fun q h => by rw [← hAe]; exact Or.inr h
  have hS : va_S A s.heap s.heap [] := va_S.rf
  have hP : va_P (dC, dI) classes (wV M Y G S) s.heap := hP
  have hK : va_K (dC, dI) classes (tV M) s := hK
  have hEw : ∀ (H : Heap) (locs : List Loc), va_S A s.heap H locs → ∀ U : State, U.heap = H → s.WarmedH U.vm → E A U := fun H locs hS U hU hW => X.kept A s U H locs hE hS hU hW
  have hl := lv_entry ([.ref M.o_Tr, .int p0, .ref M.a_Ed_units, .int p2]) (n := 6) (Nat.le_of_ble_eq_true rfl)
  rw [lg_entry_eq]
  generalize (lg_sl ([.ref M.o_Tr, .int p0, .ref M.a_Ed_units, .int p2]) ++ List.replicate (6 - (lg_sl ([.ref M.o_Tr, .int p0, .ref M.a_Ed_units, .int p2])).length) Slot.unset).toArray = ls at hl ⊢
  have hl : lv_has ls 6 [(0, .ref M.o_Tr), (1, .int p0), (2, .ref M.a_Ed_units), (3, .int p2)] := hl
  refine qabs (fun Q hQ => ?_)
  have hB_24 : ∀ (S : CS) (H : Heap) (locs : List Loc) (ls : Array Slot), f_Tr_isNamed_Edunits_24 K G S = some (r, S') → va_P (dC, dI) classes (wV M Y G S) H → va_D A (wV M Y G S) → va_S A s.heap H locs → lv_has ls 6 [] → W p l e ({ frames := 1, cells := 0, slots := 0, locals := 21 }) s m ([.ref M.o_Tr, .int p0, .ref M.a_Ed_units, .int p2] : List Value).toArray below meth c H locs 0 0 Q (F0 m 24 ls []) := by
    intro S H locs ls h hP hD hS hl
    rw [f_Tr_isNamed_Edunits_24] at h
    refine lv_iconst (v := 0) hx hb d_Tr_isNamed_24 (by decide) ?_
    rw [hQ]
    have e1 : (0 : Int32) = r := congrArg Prod.fst (Option.some.inj h)
    have e2 : S = S' := congrArg Prod.snd (Option.some.inj h)
    have hP := ly_newP e2.symm hP
    have hD := ly_newD e2.symm hD
    exact W.zret (v := 0) hx hb hr rfl (fun t ht hW => ⟨⟨0, (), rfl, e1, by rw [ht]; exact hP, va_K.moved hW.alike hK, hD⟩, hS.F ht⟩) hS.2.2 d_Tr_isNamed_25
  have hB_85 : ∀ (rec_37 : Int32 → Int32 → Int32 → CS → Option (Int32 × CS)) (hr_37 : ∀ (y_3 : Int32) (y_4 : Int32) (y_5 : Int32) (S : CS) (H : Heap) (locs : List Loc) (ls : Array Slot), rec_37 y_3 y_4 y_5 S = some (r, S') → va_P (dC, dI) classes (wV M Y G S) H → va_D A (wV M Y G S) → va_S A s.heap H locs → lv_has ls 6 [(0, .ref M.o_Tr), (2, .ref M.a_Ed_units), (3, .int y_3), (4, .int y_4), (5, .int y_5)] → W p l e ({ frames := 1, cells := 0, slots := 0, locals := 21 }) s m ([.ref M.o_Tr, .int p0, .ref M.a_Ed_units, .int p2] : List Value).toArray below meth c H locs 0 0 Q (F0 m 37 ls [])), ∀ (y_3 : Int32) (y_4 : Int32) (y_5 : Int32) (S : CS) (H : Heap) (locs : List Loc) (ls : Array Slot), f_Tr_isNamed_Edunits_85 K G rec_37 y_3 y_4 y_5 S = some (r, S') → va_P (dC, dI) classes (wV M Y G S) H → va_D A (wV M Y G S) → va_S A s.heap H locs → lv_has ls 6 [(0, .ref M.o_Tr), (2, .ref M.a_Ed_units), (3, .int y_3), (4, .int y_4), (5, .int y_5)] → W p l e ({ frames := 1, cells := 0, slots := 0, locals := 21 }) s m ([.ref M.o_Tr, .int p0, .ref M.a_Ed_units, .int p2] : List Value).toArray below meth c H locs 0 0 Q (F0 m 85 ls []) := by
    intro rec_37 hr_37 y_3 y_4 y_5 S H locs ls h hP hD hS hl
    rw [f_Tr_isNamed_Edunits_85] at h
    obtain ⟨x_17, ex_17, h⟩ := lf_lX h
    refine lv_iinc (v := x_17) (lv' := [(5, .int x_17), (0, .ref M.o_Tr), (2, .ref M.a_Ed_units), (3, .int y_3), (4, .int y_4)]) hx hb d_Tr_isNamed_85 hl (k := 4) rfl (by rw [ex_17]; rfl) (by decide) rfl (fun ls hl => ?_)
    refine lv_goto (tgt := 37) hx hb d_Tr_isNamed_88 (by decide) ?_
    exact hr_37 y_3 y_4 x_17 S _ _ _ h hP hD hS (lv_sub hl [1, 2, 3, 4, 0] rfl)
  have hB_37 : ∀ (k : Nat), ∀ (y_3 : Int32) (y_4 : Int32) (y_5 : Int32) (S : CS) (H : Heap) (locs : List Loc) (ls : Array Slot), f_Tr_isNamed_Edunits_37 K G k y_3 y_4 y_5 S = some (r, S') → va_P (dC, dI) classes (wV M Y G S) H → va_D A (wV M Y G S) → va_S A s.heap H locs → lv_has ls 6 [(0, .ref M.o_Tr), (2, .ref M.a_Ed_units), (3, .int y_3), (4, .int y_4), (5, .int y_5)] → W p l e ({ frames := 1, cells := 0, slots := 0, locals := 21 }) s m ([.ref M.o_Tr, .int p0, .ref M.a_Ed_units, .int p2] : List Value).toArray below meth c H locs 0 0 Q (F0 m 37 ls []) := by
    intro k
    induction k with
    | zero => intro y_3 y_4 y_5 S H locs ls h; exact lf_no h
    | succ k hr_37 =>
      intro y_3 y_4 y_5 S H locs ls h hP hD hS hl
      rw [f_Tr_isNamed_Edunits_37] at h
      refine lv_iload hx hb d_Tr_isNamed_37 (lv_at hl 4 rfl) ?_
      refine lv_iload_n hx hb d_Tr_isNamed_39 rfl (lv_at hl 2 rfl) ?_
      refine lv_icmp_ge (tgt := 91) hx hb d_Tr_isNamed_40 (by decide) (fun c_8 => ?_) (fun c_8 => ?_)
      · have h := lf_t h c_8
        refine lv_iconst (v := 1) hx hb d_Tr_isNamed_91 (by decide) ?_
        rw [hQ]
        have e1 : (1 : Int32) = r := congrArg Prod.fst (Option.some.inj h)
        have e2 : S = S' := congrArg Prod.snd (Option.some.inj h)
        have hP := ly_newP e2.symm hP
        have hD := ly_newD e2.symm hD
        exact W.zret (v := 1) hx hb hr rfl (fun t ht hW => ⟨⟨1, (), rfl, e1, by rw [ht]; exact hP, va_K.moved hW.alike hK, hD⟩, hS.F ht⟩) hS.2.2 d_Tr_isNamed_92
      · have h := lf_f h c_8
        refine lv_aload_n hx hb d_Tr_isNamed_43 rfl (lv_at hl 0 rfl) ?_
        refine va_get (D := (dC, dI)) (ci := 5) (v := .ref Y.a_pool) (C := R_Tr) (T := F_Tr) (N := 18) hx hb hts (fun w h => u_Vq_Tr w (i_Tr w h)) hown hK hP 4 rfl rfl 16 (by decide) (hts _ (u_Vq_Tr _ k_Tr_21)) (fun _ h9 => h9) rfl d_Tr_isNamed_44 ?_
        refine lv_iload hx hb d_Tr_isNamed_47 (lv_at hl 3 rfl) ?_
        refine lv_iload hx hb d_Tr_isNamed_49 (lv_at hl 4 rfl) ?_
        refine lv_iadd hx hb d_Tr_isNamed_51 ?_
        obtain ⟨g_9, h⟩ := lf_gE h
        refine va_iald hx hb hK hP 31 2 rfl rfl g_9 d_Tr_isNamed_52 ?_
        refine lv_aload_n hx hb d_Tr_isNamed_53 rfl (lv_at hl 1 rfl) ?_
        refine lv_iload hx hb d_Tr_isNamed_54 (lv_at hl 4 rfl) ?_
        obtain ⟨g_10, h⟩ := lf_gE h
        refine va_iald hx hb hK hP 37 2 rfl rfl g_10 d_Tr_isNamed_56 ?_
        refine lv_icmp_eq (tgt := 85) hx hb d_Tr_isNamed_57 (by decide) (fun c_11 => ?_) (fun c_11 => ?_)
        · have h := lf_t h c_11
          exact hB_85 _ hr_37 y_3 y_4 y_5 S _ _ _ h hP hD hS (lv_sub hl [0, 1, 2, 3, 4] rfl)
        · have h := lf_f h c_11
          refine lv_aload_n hx hb d_Tr_isNamed_60 rfl (lv_at hl 0 rfl) ?_
          refine va_get (D := (dC, dI)) (ci := 5) (v := .ref Y.a_pool) (C := R_Tr) (T := F_Tr) (N := 18) hx hb hts (fun w h => u_Vq_Tr w (i_Tr w h)) hown hK hP 4 rfl rfl 16 (by decide) (hts _ (u_Vq_Tr _ k_Tr_21)) (fun _ h9 => h9) rfl d_Tr_isNamed_61 ?_
          refine lv_iload hx hb d_Tr_isNamed_64 (lv_at hl 3 rfl) ?_
          refine lv_iload hx hb d_Tr_isNamed_66 (lv_at hl 4 rfl) ?_
          refine lv_iadd hx hb d_Tr_isNamed_68 ?_
          obtain ⟨g_12, h⟩ := lf_gE h
          refine va_iald hx hb hK hP 31 2 rfl rfl g_12 d_Tr_isNamed_69 ?_
          obtain ⟨r_13, hc_13, h⟩ := lf_bE h
          have hFc := lx_free0 hS hA
          refine va_calli (va_runS (As := [.int (S.w_Tr_pool (y_4 + y_5).toNatClampNeg)]) (rest := []) ⟨hx, hb, hml, hown, hts⟩ (l_Wo_capital l dC dI  _ hc_13) (va_cwS 1 hts (gwS good_Vq (u_Vq_Tr _ k_Tr_63) (u_Vq_Wo _ k_Wo_17) (u_Vq_Wo _ k_Wo_0) (wcs (u_Vq_Wo _ k_Wo_18) (fun _ h => h))) rfl rfl rfl (by decide +kernel) ⟨Nat.le_of_ble_eq_true rfl, Nat.le_of_ble_eq_true rfl⟩) (ps_of (W := []) (tys := []) (hP.sub (ws' := []) [] rfl) (hK.sub [] rfl) (hD.sub (ws' := []) [] (by decide) rfl)) rfl rfl hl.1 rfl (lv_room (Nat.le_of_ble_eq_true rfl)) d_Tr_isNamed_70 ⟨by decide, by decide⟩) hS (fun q _ h => hFc q h) hFc (fun r_ u t H locs ht hvm hw hB hz1 hk1 hS => ?_)
          rw [hw]
          have hP := lx_stat (A := A) hP hk1
          refine lv_aload_n hx hb d_Tr_isNamed_73 rfl (lv_at hl 1 rfl) ?_
          refine lv_iload hx hb d_Tr_isNamed_74 (lv_at hl 4 rfl) ?_
          obtain ⟨g_14, h⟩ := lf_gE h
          refine va_iald hx hb hK hP 37 2 rfl rfl g_14 d_Tr_isNamed_76 ?_
          obtain ⟨r_15, hc_15, h⟩ := lf_bE h
          have hFc := lx_free0 hS hA
          refine va_calli (va_runS (As := [.int (S.w_Ed_units y_5.toNatClampNeg)]) (rest := [.int r_13]) ⟨hx, hb, hml, hown, hts⟩ (l_Wo_capital l dC dI  _ hc_15) (va_cwS 1 hts (gwS good_Vq (u_Vq_Tr _ k_Tr_63) (u_Vq_Wo _ k_Wo_17) (u_Vq_Wo _ k_Wo_0) (wcs (u_Vq_Wo _ k_Wo_18) (fun _ h => h))) rfl rfl rfl (by decide +kernel) ⟨Nat.le_of_ble_eq_true rfl, Nat.le_of_ble_eq_true rfl⟩) (ps_of (W := []) (tys := []) (hP.sub (ws' := []) [] rfl) (hK.sub [] rfl) (hD.sub (ws' := []) [] (by decide) rfl)) rfl rfl hl.1 rfl (lv_room (Nat.le_of_ble_eq_true rfl)) d_Tr_isNamed_77 ⟨by decide, by decide⟩) hS (fun q _ h => hFc q h) hFc (fun r_ u t H locs ht hvm hw hB hz1 hk1 hS => ?_)
          rw [hw]
          have hP := lx_stat (A := A) hP hk1
          refine lv_icmp_eq (tgt := 85) hx hb d_Tr_isNamed_80 (by decide) (fun c_16 => ?_) (fun c_16 => ?_)
          · have h := lf_t h c_16
            exact hB_85 _ hr_37 y_3 y_4 y_5 S _ _ _ h hP hD hS (lv_sub hl [0, 1, 2, 3, 4] rfl)
          · have h := lf_f h c_16
            refine lv_iconst (v := 0) hx hb d_Tr_isNamed_83 (by decide) ?_
            rw [hQ]
            have e1 : (0 : Int32) = r := congrArg Prod.fst (Option.some.inj h)
            have e2 : S = S' := congrArg Prod.snd (Option.some.inj h)
            have hP := ly_newP e2.symm hP
            have hD := ly_newD e2.symm hD
            exact W.zret (v := 0) hx hb hr rfl (fun t ht hW => ⟨⟨0, (), rfl, e1, by rw [ht]; exact hP, va_K.moved hW.alike hK, hD⟩, hS.F ht⟩) hS.2.2 d_Tr_isNamed_84
  rw [f_Tr_isNamed_Edunits] at h
  refine lv_aload_n hx hb d_Tr_isNamed_0 rfl (lv_at hl 0 rfl) ?_
  refine lv_iload_n hx hb d_Tr_isNamed_1 rfl (lv_at hl 1 rfl) ?_
  obtain ⟨r_1, S_1, hc_1, h⟩ := lf_cE h
  have hFc := lx_free hD hS hA
  refine va_calli (va_runV (As := [.int p0]) (rest := []) ⟨hx, hb, hml, hown, hts⟩ (l_Tr_has l dC dI X _ hc_1) (cwV 1 hts (gwV good_Vq (u_Vq_Tr _ k_Tr_38) (u_Vq_Tr _ k_Tr_39) (u_Vq_Tr _ k_Tr_40) (u_Vq_Tr _ k_Tr_0) (wcs (u_Vq_Tr _ k_Tr_41) (fun _ h => h))) rfl rfl rfl (by decide +kernel) ⟨Nat.le_of_ble_eq_true rfl, Nat.le_of_ble_eq_true rfl⟩) (pv_ofE (X.same _) (fun U z1 z2 => X.mono _ _ U hFc (hEw _ _ hS U z1 z2)) hP hK hD (va_recv hK hP (ci := 5) (q0 := 4) rfl rfl)) rfl rfl hl.1 rfl (lv_room (Nat.le_of_ble_eq_true rfl)) d_Tr_isNamed_2 ⟨by decide, by decide⟩) hS (fun q _ h => hFc q h) hFc (fun r_ u t H locs ht hvm hw hB hz1 hk1 hS => ?_)
  rw [hw]
  obtain ⟨hP, -, hD⟩ := hB
  rw [ht] at hP
  have hD := lx_dj hD hFc
  refine lv_if_eq (tgt := 24) hx hb d_Tr_isNamed_5 (by decide) (fun c_2 => ?_) (fun c_2 => ?_)
  · have h := lf_t h c_2
    exact hB_24 S_1 _ _ _ h hP hD hS (lv_sub hl [] rfl)
  · have h := lf_f h c_2
    refine lv_aload_n hx hb d_Tr_isNamed_8 rfl (lv_at hl 0 rfl) ?_
    refine va_get (D := (dC, dI)) (ci := 5) (v := .ref Y.a_nameLength) (C := R_Tr) (T := F_Tr) (N := 18) hx hb hts (fun w h => u_Vq_Tr w (i_Tr w h)) hown hK hP 4 rfl rfl 12 (by decide) (hts _ (u_Vq_Tr _ k_Tr_17)) (fun _ h9 => h9) rfl d_Tr_isNamed_9 ?_
    refine lv_iload_n hx hb d_Tr_isNamed_12 rfl (lv_at hl 1 rfl) ?_
    obtain ⟨g_3, h⟩ := lf_gE h
    refine va_iald hx hb hK hP 27 2 rfl rfl g_3 d_Tr_isNamed_13 ?_
    refine lv_iload_n hx hb d_Tr_isNamed_14 rfl (lv_at hl 3 rfl) ?_
    refine lv_icmp_ne (tgt := 24) hx hb d_Tr_isNamed_15 (by decide) (fun c_4 => ?_) (fun c_4 => ?_)
    · have h := lf_f h c_4
      exact hB_24 S_1 _ _ _ h hP hD hS (lv_sub hl [] rfl)
    · have h := lf_t h c_4
      refine lv_iload_n hx hb d_Tr_isNamed_18 rfl (lv_at hl 3 rfl) ?_
      refine lv_aload_n hx hb d_Tr_isNamed_19 rfl (lv_at hl 2 rfl) ?_
      refine va_alen (v := 255) hx hb hK hP 37 2 rfl rfl rfl d_Tr_isNamed_20 ?_
      refine lv_icmp_le (tgt := 26) hx hb d_Tr_isNamed_21 (by decide) (fun c_5 => ?_) (fun c_5 => ?_)
      · have h := lf_t h c_5
        refine lv_aload_n hx hb d_Tr_isNamed_26 rfl (lv_at hl 0 rfl) ?_
        refine va_get (D := (dC, dI)) (ci := 5) (v := .ref Y.a_nameAt) (C := R_Tr) (T := F_Tr) (N := 18) hx hb hts (fun w h => u_Vq_Tr w (i_Tr w h)) hown hK hP 4 rfl rfl 11 (by decide) (hts _ (u_Vq_Tr _ k_Tr_16)) (fun _ h9 => h9) rfl d_Tr_isNamed_27 ?_
        refine lv_iload_n hx hb d_Tr_isNamed_30 rfl (lv_at hl 1 rfl) ?_
        obtain ⟨g_6, h⟩ := lf_gE h
        refine va_iald hx hb hK hP 26 2 rfl rfl g_6 d_Tr_isNamed_31 ?_
        refine lv_topi (fun x_7 ex_7 => ?_)
        have h := lf_lE h ex_7
        refine lv_istore (lv' := [(4, .int x_7), (0, .ref M.o_Tr), (1, .int p0), (2, .ref M.a_Ed_units), (3, .int p2)]) hx hb d_Tr_isNamed_32 hl (by decide) rfl (fun ls hl => ?_)
        refine lv_iconst (v := 0) hx hb d_Tr_isNamed_34 (by decide) ?_
        refine lv_istore (lv' := [(5, .int 0), (4, .int x_7), (0, .ref M.o_Tr), (1, .int p0), (2, .ref M.a_Ed_units), (3, .int p2)]) hx hb d_Tr_isNamed_35 hl (by decide) rfl (fun ls hl => ?_)
        exact hB_37 K p2 x_7 0 S_1 _ _ _ h hP hD hS (lv_sub hl [2, 4, 5, 1, 0] rfl)
      · have h := lf_f h c_5
        exact hB_24 S_1 _ _ _ h hP hD hS (lv_sub hl [] rfl)
set_option maxHeartbeats 4000000 in
set_option maxRecDepth 100000 in
theorem l_Ed_hasShortName (l : Launch) (dC : Nat → ClassId) (dI : Nat → Nat → Nat) {K : Nat} {M : CA} {E : (Nat → Prop) → State → Prop} (X : ly_X l dC dI K M E) (sz : Nat) {Y : CT} {G : CG} {S S' : CS} {p0 : Int32} {r : Int32} (h : f_Ed_hasShortName K G S p0 = some (r, S')) : Met l y_Ed_hasShortName (.code y_Ed_hasShortName cb_Ed_hasShortName 4 (some .boolean) :: V_Vq) ({ frames := 2, cells := 0, slots := 0, locals := 42 }) (va_Pc [.ref M.o_Ed, .int p0] (fun U => U.heap.size = sz ∧ at_ (dC, dI) (fun _ => True) (wV M Y G S) (tV M) U ∧ E (va_A (wV M Y G S) sz) U)) (va_Qi (fun (r_ : Int32) (u : Unit) => r_ = r) (fun (u : Unit) t => at_ (dC, dI) (va_A (wV M Y G S) sz) (wV M Y G S') (tV M) t) (va_A (wV M Y G S) sz)) 0 0 (va_A (wV M Y G S) sz) := by
  refine Met.ofW (cc := cb_Ed_hasShortName) (maxL := 4) (ret := (some .boolean)) (by decide) rfl ?_
  intro p e s m args below meth c s₁ B hml hv
  obtain ⟨rfl, hsz, ⟨hP, hK, hD0⟩, hE⟩ := hv
  have hx := B.exec
  have hb := B.bytes
  have hr := B.returns
  have hts0 := atoms_spec (ws := .code y_Ed_hasShortName cb_Ed_hasShortName 4 (some .boolean) :: V_Vq) B.pre
  have hts : ∀ w ∈ V_Vq, w.before ([.ref M.o_Ed, .int p0] : List Value).toArray s = true := fun w h => hts0 w (List.mem_cons_of_mem _ h)
  have hown : s.vm.findClass R_Ed = some m.cls := findClass_of_methodNamed B.named
  subst hsz
  have hD := hD0.self (sz := s.heap.size)
  generalize hAe : va_A (wV M Y G S) s.heap.size = A at hD hE ⊢
  have hA : ∀ q : Nat, s.heap.size ≤ q → A q := fun q h => by rw [← hAe]; exact Or.inr h
  have hS : va_S A s.heap s.heap [] := va_S.rf
  have hP : va_P (dC, dI) classes (wV M Y G S) s.heap := hP
  have hK : va_K (dC, dI) classes (tV M) s := hK
  have hEw : ∀ (H : Heap) (locs : List Loc), va_S A s.heap H locs → ∀ U : State, U.heap = H → s.WarmedH U.vm → E A U := fun H locs hS U hU hW => X.kept A s U H locs hE hS hU hW
  have hl := lv_entry ([.ref M.o_Ed, .int p0]) (n := 4) (Nat.le_of_ble_eq_true rfl)
  rw [lg_entry_eq]
  generalize (lg_sl ([.ref M.o_Ed, .int p0]) ++ List.replicate (4 - (lg_sl ([.ref M.o_Ed, .int p0])).length) Slot.unset).toArray = ls at hl ⊢
  have hl : lv_has ls 4 [(0, .ref M.o_Ed), (1, .int p0)] := hl
  refine qabs (fun Q hQ => ?_)
  have hB_11 : ∀ (k : Nat), ∀ (y_2 : Int32) (y_3 : Int32) (S : CS) (H : Heap) (locs : List Loc) (ls : Array Slot), f_Ed_hasShortName_11 K G k y_2 y_3 S = some (r, S') → va_P (dC, dI) classes (wV M Y G S) H → va_D A (wV M Y G S) → va_S A s.heap H locs → lv_has ls 4 [(0, .ref M.o_Ed), (2, .int y_2), (3, .int y_3)] → W p l e ({ frames := 2, cells := 0, slots := 0, locals := 42 }) s m ([.ref M.o_Ed, .int p0] : List Value).toArray below meth c H locs 0 0 Q (F0 m 11 ls []) := by
    intro k
    induction k with
    | zero => intro y_2 y_3 S H locs ls h; exact lf_no h
    | succ k hr_11 =>
      intro y_2 y_3 S H locs ls h hP hD hS hl
      rw [f_Ed_hasShortName_11] at h
      refine lv_iload_n hx hb d_Ed_hasShortName_11 rfl (lv_at hl 2 rfl) ?_
      refine lv_bipush (v := 11) hx hb d_Ed_hasShortName_12 (by decide) ?_
      refine lv_icmp_ge (tgt := 44) hx hb d_Ed_hasShortName_14 (by decide) (fun c_2 => ?_) (fun c_2 => ?_)
      · have h := lf_t h c_2
        refine lv_iconst (v := 1) hx hb d_Ed_hasShortName_44 (by decide) ?_
        rw [hQ]
        have e1 : (1 : Int32) = r := congrArg Prod.fst (Option.some.inj h)
        have e2 : S = S' := congrArg Prod.snd (Option.some.inj h)
        have hP := ly_newP e2.symm hP
        have hD := ly_newD e2.symm hD
        exact W.zret (v := 1) hx hb hr rfl (fun t ht hW => ⟨⟨1, (), rfl, e1, by rw [ht]; exact hP, va_K.moved hW.alike hK, hD⟩, hS.F ht⟩) hS.2.2 d_Ed_hasShortName_45
      · have h := lf_f h c_2
        refine lv_aload_n hx hb d_Ed_hasShortName_17 rfl (lv_at hl 0 rfl) ?_
        refine va_get (D := (dC, dI)) (ci := 8) (v := .ref M.o_Dk) (C := R_Ed) (T := F_Ed) (N := 13) hx hb hts (fun w h => u_Vq_Ed w (i_Ed w h)) hown hK hP 6 rfl rfl 0 (by decide) (hts _ (u_Vq_Ed _ k_Ed_7)) (fun _ h9 => h9) rfl d_Ed_hasShortName_18 ?_
        refine lv_iload_n hx hb d_Ed_hasShortName_21 rfl (lv_at hl 1 rfl) ?_
        refine lv_iload_n hx hb d_Ed_hasShortName_22 rfl (lv_at hl 2 rfl) ?_
        refine lv_iadd hx hb d_Ed_hasShortName_23 ?_
        obtain ⟨r_3, S_3, hc_3, h⟩ := lf_cE h
        have hFc := lx_free hD hS hA
        refine va_calli (va_runV (As := [.int (y_2 + y_3)]) (rest := []) ⟨hx, hb, hml, hown, hts⟩ (l_Dk_one l dC dI X _ hc_3) (cwV 1 hts (gwV good_Vq (u_Vq_Ed _ k_Ed_59) (u_Vq_Dk _ k_Dk_20) (u_Vq_Dk _ k_Dk_21) (u_Vq_Dk _ k_Dk_0) (wcs (u_Vq_Dk _ k_Dk_22) (fun _ h => h))) rfl rfl rfl (by decide +kernel) ⟨Nat.le_of_ble_eq_true rfl, Nat.le_of_ble_eq_true rfl⟩) (pv_ofE (X.same _) (fun U z1 z2 => X.mono _ _ U hFc (hEw _ _ hS U z1 z2)) hP hK hD (va_recv hK hP (ci := 0) (q0 := 1) rfl rfl)) rfl rfl hl.1 rfl (lv_room (Nat.le_of_ble_eq_true rfl)) d_Ed_hasShortName_24 ⟨by decide, by decide⟩) hS (fun q _ h => hFc q h) hFc (fun r_ u t H locs ht hvm hw hB hz1 hk1 hS => ?_)
        rw [hw]
        obtain ⟨hP, -, hD⟩ := hB
        rw [ht] at hP
        have hD := lx_dj hD hFc
        refine lv_aload_n hx hb d_Ed_hasShortName_27 rfl (lv_at hl 0 rfl) ?_
        refine va_get (D := (dC, dI)) (ci := 8) (v := .ref M.a_Ed_shortName) (C := R_Ed) (T := F_Ed) (N := 13) hx hb hts (fun w h => u_Vq_Ed w (i_Ed w h)) hown hK hP 6 rfl rfl 7 (by decide) (hts _ (u_Vq_Ed _ k_Ed_14)) (fun _ h9 => h9) rfl d_Ed_hasShortName_28 ?_
        refine lv_iload_n hx hb d_Ed_hasShortName_31 rfl (lv_at hl 2 rfl) ?_
        obtain ⟨g_4, h⟩ := lf_gE h
        refine va_iald hx hb hK hP 38 2 rfl rfl g_4 d_Ed_hasShortName_32 ?_
        refine lv_icmp_eq (tgt := 38) hx hb d_Ed_hasShortName_33 (by decide) (fun c_5 => ?_) (fun c_5 => ?_)
        · have h := lf_t h c_5
          obtain ⟨x_6, ex_6, h⟩ := lf_lX h
          refine lv_iinc (v := x_6) (lv' := [(3, .int x_6), (0, .ref M.o_Ed), (2, .int y_2)]) hx hb d_Ed_hasShortName_38 hl (k := 2) rfl (by rw [ex_6]; rfl) (by decide) rfl (fun ls hl => ?_)
          refine lv_goto (tgt := 11) hx hb d_Ed_hasShortName_41 (by decide) ?_
          exact hr_11 y_2 x_6 S_3 _ _ _ h hP hD hS (lv_sub hl [1, 2, 0] rfl)
        · have h := lf_f h c_5
          refine lv_iconst (v := 0) hx hb d_Ed_hasShortName_36 (by decide) ?_
          rw [hQ]
          have e1 : (0 : Int32) = r := congrArg Prod.fst (Option.some.inj h)
          have e2 : S_3 = S' := congrArg Prod.snd (Option.some.inj h)
          have hP := ly_newP e2.symm hP
          have hD := ly_newD e2.symm hD
          exact W.zret (v := 0) hx hb hr rfl (fun t ht hW => ⟨⟨0, (), rfl, e1, by rw [ht]; exact hP, va_K.moved hW.alike hK, hD⟩, hS.F ht⟩) hS.2.2 d_Ed_hasShortName_37
  rw [f_Ed_hasShortName] at h
  refine lv_aload_n hx hb d_Ed_hasShortName_0 rfl (lv_at hl 0 rfl) ?_
  refine va_get (D := (dC, dI)) (ci := 8) (v := .ref M.o_Tr) (C := R_Ed) (T := F_Ed) (N := 13) hx hb hts (fun w h => u_Vq_Ed w (i_Ed w h)) hown hK hP 6 rfl rfl 2 (by decide) (hts _ (u_Vq_Ed _ k_Ed_9)) (fun _ h9 => h9) rfl d_Ed_hasShortName_1 ?_
  refine lv_iload_n hx hb d_Ed_hasShortName_4 rfl (lv_at hl 1 rfl) ?_
  obtain ⟨r_1, S_1, hc_1, h⟩ := lf_cE h
  have hFc := lx_free hD hS hA
  refine va_calli (va_runV (As := [.int p0]) (rest := []) ⟨hx, hb, hml, hown, hts⟩ (l_Tr_spotOf l dC dI X _ hc_1) (cwV 1 hts (gwV good_Vq (u_Vq_Ed _ k_Ed_58) (u_Vq_Tr _ k_Tr_57) (u_Vq_Tr _ k_Tr_58) (u_Vq_Tr _ k_Tr_0) (wcs (u_Vq_Tr _ k_Tr_59) (fun _ h => h))) rfl rfl rfl (by decide +kernel) ⟨Nat.le_of_ble_eq_true rfl, Nat.le_of_ble_eq_true rfl⟩) (pv_ofE (X.same _) (fun U z1 z2 => X.mono _ _ U hFc (hEw _ _ hS U z1 z2)) hP hK hD (va_recv hK hP (ci := 5) (q0 := 4) rfl rfl)) rfl rfl hl.1 rfl (lv_room (Nat.le_of_ble_eq_true rfl)) d_Ed_hasShortName_5 ⟨by decide, by decide⟩) hS (fun q _ h => hFc q h) hFc (fun r_ u t H locs ht hvm hw hB hz1 hk1 hS => ?_)
  rw [hw]
  obtain ⟨hP, -, hD⟩ := hB
  rw [ht] at hP
  have hD := lx_dj hD hFc
  refine lv_istore_n (lv' := [(2, .int r_1), (0, .ref M.o_Ed), (1, .int p0)]) hx hb d_Ed_hasShortName_8 rfl hl (by decide) rfl (fun ls hl => ?_)
  refine lv_iconst (v := 0) hx hb d_Ed_hasShortName_9 (by decide) ?_
  refine lv_istore_n (lv' := [(3, .int 0), (2, .int r_1), (0, .ref M.o_Ed), (1, .int p0)]) hx hb d_Ed_hasShortName_10 rfl hl (by decide) rfl (fun ls hl => ?_)
  exact hB_11 K r_1 0 S_1 _ _ _ h hP hD hS (lv_sub hl [2, 1, 0] rfl)
set_option maxHeartbeats 4000000 in
set_option maxRecDepth 100000 in
theorem l_Ed_clashes (l : Launch) (dC : Nat → ClassId) (dI : Nat → Nat → Nat) {K : Nat} {M : CA} {E : (Nat → Prop) → State → Prop} (X : ly_X l dC dI K M E) (sz : Nat) {Y : CT} {G : CG} {S S' : CS} {p0 : Int32} {r : Int32} (h : f_Ed_clashes K G S p0 = some (r, S')) : Met l y_Ed_clashes (.code y_Ed_clashes cb_Ed_clashes 4 (some .boolean) :: V_Vq) ({ frames := 3, cells := 0, slots := 0, locals := 65 }) (va_Pc [.ref M.o_Ed, .int p0] (fun U => U.heap.size = sz ∧ at_ (dC, dI) (fun _ => True) (wV M Y G S) (tV M) U ∧ E (va_A (wV M Y G S) sz) U)) (va_Qi (fun (r_ : Int32) (u : Unit) => r_ = r) (fun (u : Unit) t => at_ (dC, dI) (va_A (wV M Y G S) sz) (wV M Y G S') (tV M) t) (va_A (wV M Y G S) sz)) 0 0 (va_A (wV M Y G S) sz) := by
  refine Met.ofW (cc := cb_Ed_clashes) (maxL := 4) (ret := (some .boolean)) (by decide) rfl ?_
  intro p e s m args below meth c s₁ B hml hv
  obtain ⟨rfl, hsz, ⟨hP, hK, hD0⟩, hE⟩ := hv
  have hx := B.exec
  have hb := B.bytes
  have hr := B.returns
  have hts0 := atoms_spec (ws := .code y_Ed_clashes cb_Ed_clashes 4 (some .boolean) :: V_Vq) B.pre
  have hts : ∀ w ∈ V_Vq, w.before ([.ref M.o_Ed, .int p0] : List Value).toArray s = true := fun w h => hts0 w (List.mem_cons_of_mem _ h)
  have hown : s.vm.findClass R_Ed = some m.cls := findClass_of_methodNamed B.named
  subst hsz
  have hD := hD0.self (sz := s.heap.size)
  generalize hAe : va_A (wV M Y G S) s.heap.size = A at hD hE ⊢
  have hA : ∀ q : Nat, s.heap.size ≤ q → A q := fun q h => by rw [← hAe]; exact Or.inr h
  have hS : va_S A s.heap s.heap [] := va_S.rf
  have hP : va_P (dC, dI) classes (wV M Y G S) s.heap := hP
  have hK : va_K (dC, dI) classes (tV M) s := hK
  have hEw : ∀ (H : Heap) (locs : List Loc), va_S A s.heap H locs → ∀ U : State, U.heap = H → s.WarmedH U.vm → E A U := fun H locs hS U hU hW => X.kept A s U H locs hE hS hU hW
  have hl := lv_entry ([.ref M.o_Ed, .int p0]) (n := 4) (Nat.le_of_ble_eq_true rfl)
  rw [lg_entry_eq]
  generalize (lg_sl ([.ref M.o_Ed, .int p0]) ++ List.replicate (4 - (lg_sl ([.ref M.o_Ed, .int p0])).length) Slot.unset).toArray = ls at hl ⊢
  have hl : lv_has ls 4 [(0, .ref M.o_Ed), (1, .int p0)] := hl
  refine qabs (fun Q hQ => ?_)
  have hB_58 : ∀ (S : CS) (H : Heap) (locs : List Loc) (ls : Array Slot), f_Ed_clashes_58 K G S = some (r, S') → va_P (dC, dI) classes (wV M Y G S) H → va_D A (wV M Y G S) → va_S A s.heap H locs → lv_has ls 4 [] → W p l e ({ frames := 3, cells := 0, slots := 0, locals := 65 }) s m ([.ref M.o_Ed, .int p0] : List Value).toArray below meth c H locs 0 0 Q (F0 m 58 ls []) := by
    intro S H locs ls h hP hD hS hl
    rw [f_Ed_clashes_58] at h
    refine lv_iconst (v := 1) hx hb d_Ed_clashes_58 (by decide) ?_
    rw [hQ]
    have e1 : (1 : Int32) = r := congrArg Prod.fst (Option.some.inj h)
    have e2 : S = S' := congrArg Prod.snd (Option.some.inj h)
    have hP := ly_newP e2.symm hP
    have hD := ly_newD e2.symm hD
    exact W.zret (v := 1) hx hb hr rfl (fun t ht hW => ⟨⟨1, (), rfl, e1, by rw [ht]; exact hP, va_K.moved hW.alike hK, hD⟩, hS.F ht⟩) hS.2.2 d_Ed_clashes_59
  have hB_60 : ∀ (rec_2 : Int32 → Int32 → CS → Option (Int32 × CS)) (hr_2 : ∀ (y_1 : Int32) (y_2 : Int32) (S : CS) (H : Heap) (locs : List Loc) (ls : Array Slot), rec_2 y_1 y_2 S = some (r, S') → va_P (dC, dI) classes (wV M Y G S) H → va_D A (wV M Y G S) → va_S A s.heap H locs → lv_has ls 4 [(0, .ref M.o_Ed), (1, .int y_1), (2, .int y_2)] → W p l e ({ frames := 3, cells := 0, slots := 0, locals := 65 }) s m ([.ref M.o_Ed, .int p0] : List Value).toArray below meth c H locs 0 0 Q (F0 m 2 ls [])), ∀ (y_1 : Int32) (y_2 : Int32) (S : CS) (H : Heap) (locs : List Loc) (ls : Array Slot), f_Ed_clashes_60 K G rec_2 y_1 y_2 S = some (r, S') → va_P (dC, dI) classes (wV M Y G S) H → va_D A (wV M Y G S) → va_S A s.heap H locs → lv_has ls 4 [(0, .ref M.o_Ed), (1, .int y_1), (2, .int y_2)] → W p l e ({ frames := 3, cells := 0, slots := 0, locals := 65 }) s m ([.ref M.o_Ed, .int p0] : List Value).toArray below meth c H locs 0 0 Q (F0 m 60 ls []) := by
    intro rec_2 hr_2 y_1 y_2 S H locs ls h hP hD hS hl
    rw [f_Ed_clashes_60] at h
    obtain ⟨x_9, ex_9, h⟩ := lf_lX h
    refine lv_iinc (v := x_9) (lv' := [(2, .int x_9), (0, .ref M.o_Ed), (1, .int y_1)]) hx hb d_Ed_clashes_60 hl (k := 2) rfl (by rw [ex_9]; rfl) (by decide) rfl (fun ls hl => ?_)
    refine lv_goto (tgt := 2) hx hb d_Ed_clashes_63 (by decide) ?_
    exact hr_2 y_1 x_9 S _ _ _ h hP hD hS (lv_sub hl [1, 2, 0] rfl)
  have hB_2 : ∀ (k : Nat), ∀ (y_1 : Int32) (y_2 : Int32) (S : CS) (H : Heap) (locs : List Loc) (ls : Array Slot), f_Ed_clashes_2 K G k y_1 y_2 S = some (r, S') → va_P (dC, dI) classes (wV M Y G S) H → va_D A (wV M Y G S) → va_S A s.heap H locs → lv_has ls 4 [(0, .ref M.o_Ed), (1, .int y_1), (2, .int y_2)] → W p l e ({ frames := 3, cells := 0, slots := 0, locals := 65 }) s m ([.ref M.o_Ed, .int p0] : List Value).toArray below meth c H locs 0 0 Q (F0 m 2 ls []) := by
    intro k
    induction k with
    | zero => intro y_1 y_2 S H locs ls h; exact lf_no h
    | succ k hr_2 =>
      intro y_1 y_2 S H locs ls h hP hD hS hl
      rw [f_Ed_clashes_2] at h
      refine lv_iload_n hx hb d_Ed_clashes_2 rfl (lv_at hl 2 rfl) ?_
      refine lv_aload_n hx hb d_Ed_clashes_3 rfl (lv_at hl 0 rfl) ?_
      refine va_get (D := (dC, dI)) (ci := 8) (v := .ref M.o_Tr) (C := R_Ed) (T := F_Ed) (N := 13) hx hb hts (fun w h => u_Vq_Ed w (i_Ed w h)) hown hK hP 6 rfl rfl 2 (by decide) (hts _ (u_Vq_Ed _ k_Ed_9)) (fun _ h9 => h9) rfl d_Ed_clashes_4 ?_
      refine lv_iload_n hx hb d_Ed_clashes_7 rfl (lv_at hl 1 rfl) ?_
      obtain ⟨r_1, S_1, hc_1, h⟩ := lf_cE h
      have hFc := lx_free hD hS hA
      refine va_calli (va_runV (As := [.int y_1]) (rest := [.int y_2]) ⟨hx, hb, hml, hown, hts⟩ (l_Tr_countIn l dC dI X _ hc_1) (cwV 1 hts (gwV good_Vq (u_Vq_Ed _ k_Ed_52) (u_Vq_Tr _ k_Tr_91) (u_Vq_Tr _ k_Tr_92) (u_Vq_Tr _ k_Tr_0) (wcs (u_Vq_Tr _ k_Tr_93) (fun _ h => h))) rfl rfl rfl (by decide +kernel) ⟨Nat.le_of_ble_eq_true rfl, Nat.le_of_ble_eq_true rfl⟩) (pv_ofE (X.same _) (fun U z1 z2 => X.mono _ _ U hFc (hEw _ _ hS U z1 z2)) hP hK hD (va_recv hK hP (ci := 5) (q0 := 4) rfl rfl)) rfl rfl hl.1 rfl (lv_room (Nat.le_of_ble_eq_true rfl)) d_Ed_clashes_8 ⟨by decide, by decide⟩) hS (fun q _ h => hFc q h) hFc (fun r_ u t H locs ht hvm hw hB hz1 hk1 hS => ?_)
      rw [hw]
      obtain ⟨hP, -, hD⟩ := hB
      rw [ht] at hP
      have hD := lx_dj hD hFc
      refine lv_icmp_ge (tgt := 66) hx hb d_Ed_clashes_11 (by decide) (fun c_2 => ?_) (fun c_2 => ?_)
      · have h := lf_t h c_2
        refine lv_iconst (v := 0) hx hb d_Ed_clashes_66 (by decide) ?_
        rw [hQ]
        have e1 : (0 : Int32) = r := congrArg Prod.fst (Option.some.inj h)
        have e2 : S_1 = S' := congrArg Prod.snd (Option.some.inj h)
        have hP := ly_newP e2.symm hP
        have hD := ly_newD e2.symm hD
        exact W.zret (v := 0) hx hb hr rfl (fun t ht hW => ⟨⟨0, (), rfl, e1, by rw [ht]; exact hP, va_K.moved hW.alike hK, hD⟩, hS.F ht⟩) hS.2.2 d_Ed_clashes_67
      · have h := lf_f h c_2
        refine lv_aload_n hx hb d_Ed_clashes_14 rfl (lv_at hl 0 rfl) ?_
        refine va_get (D := (dC, dI)) (ci := 8) (v := .ref M.o_Tr) (C := R_Ed) (T := F_Ed) (N := 13) hx hb hts (fun w h => u_Vq_Ed w (i_Ed w h)) hown hK hP 6 rfl rfl 2 (by decide) (hts _ (u_Vq_Ed _ k_Ed_9)) (fun _ h9 => h9) rfl d_Ed_clashes_15 ?_
        refine lv_iload_n hx hb d_Ed_clashes_18 rfl (lv_at hl 1 rfl) ?_
        refine lv_iload_n hx hb d_Ed_clashes_19 rfl (lv_at hl 2 rfl) ?_
        obtain ⟨r_3, S_3, hc_3, h⟩ := lf_cE h
        have hFc := lx_free hD hS hA
        refine va_calli (va_runV (As := [.int y_1, .int y_2]) (rest := []) ⟨hx, hb, hml, hown, hts⟩ (l_Tr_kid l dC dI X _ hc_3) (cwV 2 hts (gwV good_Vq (u_Vq_Ed _ k_Ed_53) (u_Vq_Tr _ k_Tr_54) (u_Vq_Tr _ k_Tr_55) (u_Vq_Tr _ k_Tr_0) (wcs (u_Vq_Tr _ k_Tr_56) (fun _ h => h))) rfl rfl rfl (by decide +kernel) ⟨Nat.le_of_ble_eq_true rfl, Nat.le_of_ble_eq_true rfl⟩) (pv_ofE (X.same _) (fun U z1 z2 => X.mono _ _ U hFc (hEw _ _ hS U z1 z2)) hP hK hD (va_recv hK hP (ci := 5) (q0 := 4) rfl rfl)) rfl rfl hl.1 rfl (lv_room (Nat.le_of_ble_eq_true rfl)) d_Ed_clashes_20 ⟨by decide, by decide⟩) hS (fun q _ h => hFc q h) hFc (fun r_ u t H locs ht hvm hw hB hz1 hk1 hS => ?_)
        rw [hw]
        obtain ⟨hP, -, hD⟩ := hB
        rw [ht] at hP
        have hD := lx_dj hD hFc
        refine lv_istore_n (lv' := [(3, .int r_3), (0, .ref M.o_Ed), (1, .int y_1), (2, .int y_2)]) hx hb d_Ed_clashes_23 rfl hl (by decide) rfl (fun ls hl => ?_)
        refine lv_aload_n hx hb d_Ed_clashes_24 rfl (lv_at hl 1 rfl) ?_
        refine va_get (D := (dC, dI)) (ci := 8) (v := .ref M.o_Tr) (C := R_Ed) (T := F_Ed) (N := 13) hx hb hts (fun w h => u_Vq_Ed w (i_Ed w h)) hown hK hP 6 rfl rfl 2 (by decide) (hts _ (u_Vq_Ed _ k_Ed_9)) (fun _ h9 => h9) rfl d_Ed_clashes_25 ?_
        refine lv_iload_n hx hb d_Ed_clashes_28 rfl (lv_at hl 0 rfl) ?_
        refine lv_aload_n hx hb d_Ed_clashes_29 rfl (lv_at hl 1 rfl) ?_
        refine va_get (D := (dC, dI)) (ci := 8) (v := .ref M.a_Ed_units) (C := R_Ed) (T := F_Ed) (N := 13) hx hb hts (fun w h => u_Vq_Ed w (i_Ed w h)) hown hK hP 6 rfl rfl 5 (by decide) (hts _ (u_Vq_Ed _ k_Ed_12)) (fun _ h9 => h9) rfl d_Ed_clashes_30 ?_
        refine lv_aload_n hx hb d_Ed_clashes_33 rfl (lv_at hl 1 rfl) ?_
        refine va_get (D := (dC, dI)) (ci := 8) (v := .int S_3.v_Ed_unitCount) (C := R_Ed) (T := F_Ed) (N := 13) hx hb hts (fun w h => u_Vq_Ed w (i_Ed w h)) hown hK hP 6 rfl rfl 6 (by decide) (hts _ (u_Vq_Ed _ k_Ed_13)) (fun _ h9 => h9) rfl d_Ed_clashes_34 ?_
        obtain ⟨r_4, S_4, hc_4, h⟩ := lf_cE h
        have hFc := lx_free hD hS hA
        refine va_calli (va_runV (As := [.int r_3, .ref M.a_Ed_units, .int S_3.v_Ed_unitCount]) (rest := []) ⟨hx, hb, hml, hown, hts⟩ (l_Tr_isNamed_Edunits l dC dI X _ hc_4) (cwV 3 hts (gwV good_Vq (u_Vq_Ed _ k_Ed_54) (u_Vq_Tr _ k_Tr_60) (u_Vq_Tr _ k_Tr_61) (u_Vq_Tr _ k_Tr_0) (wcs (u_Vq_Tr _ k_Tr_62) (fun _ h => h))) rfl rfl rfl (by decide +kernel) ⟨Nat.le_of_ble_eq_true rfl, Nat.le_of_ble_eq_true rfl⟩) (pv_ofE (X.same _) (fun U z1 z2 => X.mono _ _ U hFc (hEw _ _ hS U z1 z2)) hP hK hD (va_recv hK hP (ci := 5) (q0 := 4) rfl rfl)) rfl rfl hl.1 rfl (lv_room (Nat.le_of_ble_eq_true rfl)) d_Ed_clashes_37 ⟨by decide, by decide⟩) hS (fun q _ h => hFc q h) hFc (fun r_ u t H locs ht hvm hw hB hz1 hk1 hS => ?_)
        rw [hw]
        obtain ⟨hP, -, hD⟩ := hB
        rw [ht] at hP
        have hD := lx_dj hD hFc
        refine lv_if_ne (tgt := 58) hx hb d_Ed_clashes_40 (by decide) (fun c_5 => ?_) (fun c_5 => ?_)
        · have h := lf_f h c_5
          exact hB_58 S_4 _ _ _ h hP hD hS (lv_sub hl [] rfl)
        · have h := lf_t h c_5
          refine lv_aload_n hx hb d_Ed_clashes_43 rfl (lv_at hl 1 rfl) ?_
          refine va_get (D := (dC, dI)) (ci := 8) (v := .int S_4.v_Ed_plain) (C := R_Ed) (T := F_Ed) (N := 13) hx hb hts (fun w h => u_Vq_Ed w (i_Ed w h)) hown hK hP 6 rfl rfl 8 (by decide) (hts _ (u_Vq_Ed _ k_Ed_15)) (fun _ h9 => h9) rfl d_Ed_clashes_44 ?_
          refine lv_if_eq (tgt := 60) hx hb d_Ed_clashes_47 (by decide) (fun c_6 => ?_) (fun c_6 => ?_)
          · have h := lf_t h c_6
            exact hB_60 _ hr_2 y_1 y_2 S_4 _ _ _ h hP hD hS (lv_sub hl [1, 2, 3] rfl)
          · have h := lf_f h c_6
            refine lv_aload_n hx hb d_Ed_clashes_50 rfl (lv_at hl 1 rfl) ?_
            refine lv_iload_n hx hb d_Ed_clashes_51 rfl (lv_at hl 0 rfl) ?_
            obtain ⟨r_7, S_7, hc_7, h⟩ := lf_cE h
            have hFc := lx_free hD hS hA
            refine va_calli (va_runV (As := [.int r_3]) (rest := []) ⟨hx, hb, hml, hown, hts⟩ (l_Ed_hasShortName l dC dI X _ hc_7) (cwV 1 hts (gwV good_Vq (u_Vq_Ed _ k_Ed_55) (u_Vq_Ed _ k_Ed_56) (u_Vq_Ed _ k_Ed_132) (u_Vq_Ed _ k_Ed_0) (wcs (u_Vq_Ed _ k_Ed_57) (fun _ h => h))) rfl rfl rfl (by decide +kernel) ⟨Nat.le_of_ble_eq_true rfl, Nat.le_of_ble_eq_true rfl⟩) (pv_ofE (X.same _) (fun U z1 z2 => X.mono _ _ U hFc (hEw _ _ hS U z1 z2)) hP hK hD (va_recv hK hP (ci := 8) (q0 := 6) rfl rfl)) rfl rfl hl.1 rfl (lv_room (Nat.le_of_ble_eq_true rfl)) d_Ed_clashes_52 ⟨by decide, by decide⟩) hS (fun q _ h => hFc q h) hFc (fun r_ u t H locs ht hvm hw hB hz1 hk1 hS => ?_)
            rw [hw]
            obtain ⟨hP, -, hD⟩ := hB
            rw [ht] at hP
            have hD := lx_dj hD hFc
            refine lv_if_eq (tgt := 60) hx hb d_Ed_clashes_55 (by decide) (fun c_8 => ?_) (fun c_8 => ?_)
            · have h := lf_t h c_8
              exact hB_60 _ hr_2 y_1 y_2 S_7 _ _ _ h hP hD hS (lv_sub hl [1, 2, 3] rfl)
            · have h := lf_f h c_8
              exact hB_58 S_7 _ _ _ h hP hD hS (lv_sub hl [] rfl)
  rw [f_Ed_clashes] at h
  refine lv_iconst (v := 0) hx hb d_Ed_clashes_0 (by decide) ?_
  refine lv_istore_n (lv' := [(2, .int 0), (0, .ref M.o_Ed), (1, .int p0)]) hx hb d_Ed_clashes_1 rfl hl (by decide) rfl (fun ls hl => ?_)
  exact hB_2 K p0 0 S _ _ _ h hP hD hS (lv_sub hl [1, 2, 0] rfl)
set_option maxHeartbeats 4000000 in
set_option maxRecDepth 100000 in
theorem l_Ed_isShortNameTaken (l : Launch) (dC : Nat → ClassId) (dI : Nat → Nat → Nat) {K : Nat} {M : CA} {E : (Nat → Prop) → State → Prop} (X : ly_X l dC dI K M E) (sz : Nat) {Y : CT} {G : CG} {S S' : CS} {p0 : Int32} {r : Int32} (h : f_Ed_isShortNameTaken K G S p0 = some (r, S')) : Met l y_Ed_isShortNameTaken (.code y_Ed_isShortNameTaken cb_Ed_isShortNameTaken 3 (some .boolean) :: V_Vq) ({ frames := 3, cells := 0, slots := 0, locals := 65 }) (va_Pc [.ref M.o_Ed, .int p0] (fun U => U.heap.size = sz ∧ at_ (dC, dI) (fun _ => True) (wV M Y G S) (tV M) U ∧ E (va_A (wV M Y G S) sz) U)) (va_Qi (fun (r_ : Int32) (u : Unit) => r_ = r) (fun (u : Unit) t => at_ (dC, dI) (va_A (wV M Y G S) sz) (wV M Y G S') (tV M) t) (va_A (wV M Y G S) sz)) 0 0 (va_A (wV M Y G S) sz) := by
  refine Met.ofW (cc := cb_Ed_isShortNameTaken) (maxL := 3) (ret := (some .boolean)) (by decide) rfl ?_
  intro p e s m args below meth c s₁ B hml hv
  obtain ⟨rfl, hsz, ⟨hP, hK, hD0⟩, hE⟩ := hv
  have hx := B.exec
  have hb := B.bytes
  have hr := B.returns
  have hts0 := atoms_spec (ws := .code y_Ed_isShortNameTaken cb_Ed_isShortNameTaken 3 (some .boolean) :: V_Vq) B.pre
  have hts : ∀ w ∈ V_Vq, w.before ([.ref M.o_Ed, .int p0] : List Value).toArray s = true := fun w h => hts0 w (List.mem_cons_of_mem _ h)
  have hown : s.vm.findClass R_Ed = some m.cls := findClass_of_methodNamed B.named
  subst hsz
  have hD := hD0.self (sz := s.heap.size)
  generalize hAe : va_A (wV M Y G S) s.heap.size = A at hD hE ⊢
  have hA : ∀ q : Nat, s.heap.size ≤ q → A q := fun q h => by rw [← hAe]; exact Or.inr h
  have hS : va_S A s.heap s.heap [] := va_S.rf
  have hP : va_P (dC, dI) classes (wV M Y G S) s.heap := hP
  have hK : va_K (dC, dI) classes (tV M) s := hK
  have hEw : ∀ (H : Heap) (locs : List Loc), va_S A s.heap H locs → ∀ U : State, U.heap = H → s.WarmedH U.vm → E A U := fun H locs hS U hU hW => X.kept A s U H locs hE hS hU hW
  have hl := lv_entry ([.ref M.o_Ed, .int p0]) (n := 3) (Nat.le_of_ble_eq_true rfl)
  rw [lg_entry_eq]
  generalize (lg_sl ([.ref M.o_Ed, .int p0]) ++ List.replicate (3 - (lg_sl ([.ref M.o_Ed, .int p0])).length) Slot.unset).toArray = ls at hl ⊢
  have hl : lv_has ls 3 [(0, .ref M.o_Ed), (1, .int p0)] := hl
  refine qabs (fun Q hQ => ?_)
  have hB_2 : ∀ (k : Nat), ∀ (y_1 : Int32) (y_2 : Int32) (S : CS) (H : Heap) (locs : List Loc) (ls : Array Slot), f_Ed_isShortNameTaken_2 K G k y_1 y_2 S = some (r, S') → va_P (dC, dI) classes (wV M Y G S) H → va_D A (wV M Y G S) → va_S A s.heap H locs → lv_has ls 3 [(0, .ref M.o_Ed), (1, .int y_1), (2, .int y_2)] → W p l e ({ frames := 3, cells := 0, slots := 0, locals := 65 }) s m ([.ref M.o_Ed, .int p0] : List Value).toArray below meth c H locs 0 0 Q (F0 m 2 ls []) := by
    intro k
    induction k with
    | zero => intro y_1 y_2 S H locs ls h; exact lf_no h
    | succ k hr_2 =>
      intro y_1 y_2 S H locs ls h hP hD hS hl
      rw [f_Ed_isShortNameTaken_2] at h
      refine lv_iload_n hx hb d_Ed_isShortNameTaken_2 rfl (lv_at hl 2 rfl) ?_
      refine lv_aload_n hx hb d_Ed_isShortNameTaken_3 rfl (lv_at hl 0 rfl) ?_
      refine va_get (D := (dC, dI)) (ci := 8) (v := .ref M.o_Tr) (C := R_Ed) (T := F_Ed) (N := 13) hx hb hts (fun w h => u_Vq_Ed w (i_Ed w h)) hown hK hP 6 rfl rfl 2 (by decide) (hts _ (u_Vq_Ed _ k_Ed_9)) (fun _ h9 => h9) rfl d_Ed_isShortNameTaken_4 ?_
      refine lv_iload_n hx hb d_Ed_isShortNameTaken_7 rfl (lv_at hl 1 rfl) ?_
      obtain ⟨r_1, S_1, hc_1, h⟩ := lf_cE h
      have hFc := lx_free hD hS hA
      refine va_calli (va_runV (As := [.int y_1]) (rest := [.int y_2]) ⟨hx, hb, hml, hown, hts⟩ (l_Tr_countIn l dC dI X _ hc_1) (cwV 1 hts (gwV good_Vq (u_Vq_Ed _ k_Ed_52) (u_Vq_Tr _ k_Tr_91) (u_Vq_Tr _ k_Tr_92) (u_Vq_Tr _ k_Tr_0) (wcs (u_Vq_Tr _ k_Tr_93) (fun _ h => h))) rfl rfl rfl (by decide +kernel) ⟨Nat.le_of_ble_eq_true rfl, Nat.le_of_ble_eq_true rfl⟩) (pv_ofE (X.same _) (fun U z1 z2 => X.mono _ _ U hFc (hEw _ _ hS U z1 z2)) hP hK hD (va_recv hK hP (ci := 5) (q0 := 4) rfl rfl)) rfl rfl hl.1 rfl (lv_room (Nat.le_of_ble_eq_true rfl)) d_Ed_isShortNameTaken_8 ⟨by decide, by decide⟩) hS (fun q _ h => hFc q h) hFc (fun r_ u t H locs ht hvm hw hB hz1 hk1 hS => ?_)
      rw [hw]
      obtain ⟨hP, -, hD⟩ := hB
      rw [ht] at hP
      have hD := lx_dj hD hFc
      refine lv_icmp_ge (tgt := 38) hx hb d_Ed_isShortNameTaken_11 (by decide) (fun c_2 => ?_) (fun c_2 => ?_)
      · have h := lf_t h c_2
        refine lv_iconst (v := 0) hx hb d_Ed_isShortNameTaken_38 (by decide) ?_
        rw [hQ]
        have e1 : (0 : Int32) = r := congrArg Prod.fst (Option.some.inj h)
        have e2 : S_1 = S' := congrArg Prod.snd (Option.some.inj h)
        have hP := ly_newP e2.symm hP
        have hD := ly_newD e2.symm hD
        exact W.zret (v := 0) hx hb hr rfl (fun t ht hW => ⟨⟨0, (), rfl, e1, by rw [ht]; exact hP, va_K.moved hW.alike hK, hD⟩, hS.F ht⟩) hS.2.2 d_Ed_isShortNameTaken_39
      · have h := lf_f h c_2
        refine lv_aload_n hx hb d_Ed_isShortNameTaken_14 rfl (lv_at hl 0 rfl) ?_
        refine lv_aload_n hx hb d_Ed_isShortNameTaken_15 rfl (lv_at hl 0 rfl) ?_
        refine va_get (D := (dC, dI)) (ci := 8) (v := .ref M.o_Tr) (C := R_Ed) (T := F_Ed) (N := 13) hx hb hts (fun w h => u_Vq_Ed w (i_Ed w h)) hown hK hP 6 rfl rfl 2 (by decide) (hts _ (u_Vq_Ed _ k_Ed_9)) (fun _ h9 => h9) rfl d_Ed_isShortNameTaken_16 ?_
        refine lv_iload_n hx hb d_Ed_isShortNameTaken_19 rfl (lv_at hl 1 rfl) ?_
        refine lv_iload_n hx hb d_Ed_isShortNameTaken_20 rfl (lv_at hl 2 rfl) ?_
        obtain ⟨r_3, S_3, hc_3, h⟩ := lf_cE h
        have hFc := lx_free hD hS hA
        refine va_calli (va_runV (As := [.int y_1, .int y_2]) (rest := [.ref M.o_Ed]) ⟨hx, hb, hml, hown, hts⟩ (l_Tr_kid l dC dI X _ hc_3) (cwV 2 hts (gwV good_Vq (u_Vq_Ed _ k_Ed_53) (u_Vq_Tr _ k_Tr_54) (u_Vq_Tr _ k_Tr_55) (u_Vq_Tr _ k_Tr_0) (wcs (u_Vq_Tr _ k_Tr_56) (fun _ h => h))) rfl rfl rfl (by decide +kernel) ⟨Nat.le_of_ble_eq_true rfl, Nat.le_of_ble_eq_true rfl⟩) (pv_ofE (X.same _) (fun U z1 z2 => X.mono _ _ U hFc (hEw _ _ hS U z1 z2)) hP hK hD (va_recv hK hP (ci := 5) (q0 := 4) rfl rfl)) rfl rfl hl.1 rfl (lv_room (Nat.le_of_ble_eq_true rfl)) d_Ed_isShortNameTaken_21 ⟨by decide, by decide⟩) hS (fun q _ h => hFc q h) hFc (fun r_ u t H locs ht hvm hw hB hz1 hk1 hS => ?_)
        rw [hw]
        obtain ⟨hP, -, hD⟩ := hB
        rw [ht] at hP
        have hD := lx_dj hD hFc
        obtain ⟨r_4, S_4, hc_4, h⟩ := lf_cE h
        have hFc := lx_free hD hS hA
        refine va_calli (va_runV (As := [.int r_3]) (rest := []) ⟨hx, hb, hml, hown, hts⟩ (l_Ed_hasShortName l dC dI X _ hc_4) (cwV 1 hts (gwV good_Vq (u_Vq_Ed _ k_Ed_55) (u_Vq_Ed _ k_Ed_56) (u_Vq_Ed _ k_Ed_132) (u_Vq_Ed _ k_Ed_0) (wcs (u_Vq_Ed _ k_Ed_57) (fun _ h => h))) rfl rfl rfl (by decide +kernel) ⟨Nat.le_of_ble_eq_true rfl, Nat.le_of_ble_eq_true rfl⟩) (pv_ofE (X.same _) (fun U z1 z2 => X.mono _ _ U hFc (hEw _ _ hS U z1 z2)) hP hK hD (va_recv hK hP (ci := 8) (q0 := 6) rfl rfl)) rfl rfl hl.1 rfl (lv_room (Nat.le_of_ble_eq_true rfl)) d_Ed_isShortNameTaken_24 ⟨by decide, by decide⟩) hS (fun q _ h => hFc q h) hFc (fun r_ u t H locs ht hvm hw hB hz1 hk1 hS => ?_)
        rw [hw]
        obtain ⟨hP, -, hD⟩ := hB
        rw [ht] at hP
        have hD := lx_dj hD hFc
        refine lv_if_eq (tgt := 32) hx hb d_Ed_isShortNameTaken_27 (by decide) (fun c_5 => ?_) (fun c_5 => ?_)
        · have h := lf_t h c_5
          obtain ⟨x_6, ex_6, h⟩ := lf_lX h
          refine lv_iinc (v := x_6) (lv' := [(2, .int x_6), (0, .ref M.o_Ed), (1, .int y_1)]) hx hb d_Ed_isShortNameTaken_32 hl (k := 2) rfl (by rw [ex_6]; rfl) (by decide) rfl (fun ls hl => ?_)
          refine lv_goto (tgt := 2) hx hb d_Ed_isShortNameTaken_35 (by decide) ?_
          exact hr_2 y_1 x_6 S_4 _ _ _ h hP hD hS (lv_sub hl [1, 2, 0] rfl)
        · have h := lf_f h c_5
          refine lv_iconst (v := 1) hx hb d_Ed_isShortNameTaken_30 (by decide) ?_
          rw [hQ]
          have e1 : (1 : Int32) = r := congrArg Prod.fst (Option.some.inj h)
          have e2 : S_4 = S' := congrArg Prod.snd (Option.some.inj h)
          have hP := ly_newP e2.symm hP
          have hD := ly_newD e2.symm hD
          exact W.zret (v := 1) hx hb hr rfl (fun t ht hW => ⟨⟨1, (), rfl, e1, by rw [ht]; exact hP, va_K.moved hW.alike hK, hD⟩, hS.F ht⟩) hS.2.2 d_Ed_isShortNameTaken_31
  rw [f_Ed_isShortNameTaken] at h
  refine lv_iconst (v := 0) hx hb d_Ed_isShortNameTaken_0 (by decide) ?_
  refine lv_istore_n (lv' := [(2, .int 0), (0, .ref M.o_Ed), (1, .int p0)]) hx hb d_Ed_isShortNameTaken_1 rfl hl (by decide) rfl (fun ls hl => ?_)
  exact hB_2 K p0 0 S _ _ _ h hP hD hS (lv_sub hl [1, 2, 0] rfl)
set_option maxHeartbeats 4000000 in
set_option maxRecDepth 100000 in
theorem l_Ed_squeeze (l : Launch) (dC : Nat → ClassId) (dI : Nat → Nat → Nat) {K : Nat} {M : CA} {E : (Nat → Prop) → State → Prop} (X : ly_X l dC dI K M E) (sz : Nat) {Y : CT} {G : CG} {S S' : CS} {p0 : Int32} {p1 : Int32} {p2 : Int32} {p3 : Int32} {r : Int32} (h : f_Ed_squeeze K G S p0 p1 p2 p3 = some (r, S')) : Met l y_Ed_squeeze (.code y_Ed_squeeze cb_Ed_squeeze 8 (some .int) :: V_Vq) ({ frames := 1, cells := 0, slots := 0, locals := 20 }) (va_Pc [.ref M.o_Ed, .int p0, .int p1, .int p2, .int p3] (fun U => U.heap.size = sz ∧ at_ (dC, dI) (fun _ => True) (wV M Y G S) (tV M) U ∧ E (va_A (wV M Y G S) sz) U)) (va_Qi (fun (r_ : Int32) (u : Unit) => r_ = r) (fun (u : Unit) t => at_ (dC, dI) (va_A (wV M Y G S) sz) (wV M Y G S') (tV M) t) (va_A (wV M Y G S) sz)) 0 0 (va_A (wV M Y G S) sz) := by
  refine Met.ofW (cc := cb_Ed_squeeze) (maxL := 8) (ret := (some .int)) (by decide) rfl ?_
  intro p e s m args below meth c s₁ B hml hv
  obtain ⟨rfl, hsz, ⟨hP, hK, hD0⟩, hE⟩ := hv
  have hx := B.exec
  have hb := B.bytes
  have hr := B.returns
  have hts0 := atoms_spec (ws := .code y_Ed_squeeze cb_Ed_squeeze 8 (some .int) :: V_Vq) B.pre
  have hts : ∀ w ∈ V_Vq, w.before ([.ref M.o_Ed, .int p0, .int p1, .int p2, .int p3] : List Value).toArray s = true := fun w h => hts0 w (List.mem_cons_of_mem _ h)
  have hown : s.vm.findClass R_Ed = some m.cls := findClass_of_methodNamed B.named
  subst hsz
  have hD := hD0.self (sz := s.heap.size)
  generalize hAe : va_A (wV M Y G S) s.heap.size = A at hD hE ⊢
  have hA : ∀ q : Nat, s.heap.size ≤ q → A q := fun q h => by rw [← hAe]; exact Or.inr h
  have hS : va_S A s.heap s.heap [] := va_S.rf
  have hP : va_P (dC, dI) classes (wV M Y G S) s.heap := hP
  have hK : va_K (dC, dI) classes (tV M) s := hK
  have hEw : ∀ (H : Heap) (locs : List Loc), va_S A s.heap H locs → ∀ U : State, U.heap = H → s.WarmedH U.vm → E A U := fun H locs hS U hU hW => X.kept A s U H locs hE hS hU hW
  have hl := lv_entry ([.ref M.o_Ed, .int p0, .int p1, .int p2, .int p3]) (n := 8) (Nat.le_of_ble_eq_true rfl)
  rw [lg_entry_eq]
  generalize (lg_sl ([.ref M.o_Ed, .int p0, .int p1, .int p2, .int p3]) ++ List.replicate (8 - (lg_sl ([.ref M.o_Ed, .int p0, .int p1, .int p2, .int p3])).length) Slot.unset).toArray = ls at hl ⊢
  have hl : lv_has ls 8 [(0, .ref M.o_Ed), (1, .int p0), (2, .int p1), (3, .int p2), (4, .int p3)] := hl
  refine qabs (fun Q hQ => ?_)
  have hB_72 : ∀ (rec_6 : Int32 → Int32 → Int32 → Int32 → Int32 → CS → Option (Int32 × CS)) (hr_6 : ∀ (y_2 : Int32) (y_3 : Int32) (y_4 : Int32) (y_5 : Int32) (y_6 : Int32) (S : CS) (H : Heap) (locs : List Loc) (ls : Array Slot), rec_6 y_2 y_3 y_4 y_5 y_6 S = some (r, S') → va_P (dC, dI) classes (wV M Y G S) H → va_D A (wV M Y G S) → va_S A s.heap H locs → lv_has ls 8 [(0, .ref M.o_Ed), (2, .int y_2), (3, .int y_3), (4, .int y_4), (5, .int y_5), (6, .int y_6)] → W p l e ({ frames := 1, cells := 0, slots := 0, locals := 20 }) s m ([.ref M.o_Ed, .int p0, .int p1, .int p2, .int p3] : List Value).toArray below meth c H locs 0 0 Q (F0 m 6 ls [])), ∀ (y_2 : Int32) (y_3 : Int32) (y_4 : Int32) (y_5 : Int32) (y_6 : Int32) (S : CS) (H : Heap) (locs : List Loc) (ls : Array Slot), f_Ed_squeeze_72 K G rec_6 y_2 y_3 y_4 y_5 y_6 S = some (r, S') → va_P (dC, dI) classes (wV M Y G S) H → va_D A (wV M Y G S) → va_S A s.heap H locs → lv_has ls 8 [(0, .ref M.o_Ed), (2, .int y_2), (3, .int y_3), (4, .int y_4), (5, .int y_5), (6, .int y_6)] → W p l e ({ frames := 1, cells := 0, slots := 0, locals := 20 }) s m ([.ref M.o_Ed, .int p0, .int p1, .int p2, .int p3] : List Value).toArray below meth c H locs 0 0 Q (F0 m 72 ls []) := by
    intro rec_6 hr_6 y_2 y_3 y_4 y_5 y_6 S H locs ls h hP hD hS hl
    rw [f_Ed_squeeze_72] at h
    obtain ⟨x_9, ex_9, h⟩ := lf_lX h
    refine lv_iinc (v := x_9) (lv' := [(6, .int x_9), (0, .ref M.o_Ed), (2, .int y_2), (3, .int y_3), (4, .int y_4), (5, .int y_5)]) hx hb d_Ed_squeeze_72 hl (k := 5) rfl (by rw [ex_9]; rfl) (by decide) rfl (fun ls hl => ?_)
    refine lv_goto (tgt := 6) hx hb d_Ed_squeeze_75 (by decide) ?_
    exact hr_6 y_2 y_3 y_4 y_5 x_9 S _ _ _ h hP hD hS (lv_sub hl [1, 2, 3, 4, 5, 0] rfl)
  have hB_68 : ∀ (rec_6 : Int32 → Int32 → Int32 → Int32 → Int32 → CS → Option (Int32 × CS)) (hr_6 : ∀ (y_2 : Int32) (y_3 : Int32) (y_4 : Int32) (y_5 : Int32) (y_6 : Int32) (S : CS) (H : Heap) (locs : List Loc) (ls : Array Slot), rec_6 y_2 y_3 y_4 y_5 y_6 S = some (r, S') → va_P (dC, dI) classes (wV M Y G S) H → va_D A (wV M Y G S) → va_S A s.heap H locs → lv_has ls 8 [(0, .ref M.o_Ed), (2, .int y_2), (3, .int y_3), (4, .int y_4), (5, .int y_5), (6, .int y_6)] → W p l e ({ frames := 1, cells := 0, slots := 0, locals := 20 }) s m ([.ref M.o_Ed, .int p0, .int p1, .int p2, .int p3] : List Value).toArray below meth c H locs 0 0 Q (F0 m 6 ls [])), ∀ (y_2 : Int32) (y_3 : Int32) (y_4 : Int32) (y_5 : Int32) (y_6 : Int32) (z_1 : Int32) (z_2 : Int32) (S : CS) (H : Heap) (locs : List Loc) (ls : Array Slot), f_Ed_squeeze_68 K G rec_6 y_2 y_3 y_4 y_5 y_6 z_1 z_2 S = some (r, S') → va_P (dC, dI) classes (wV M Y G S) H → va_D A (wV M Y G S) → va_S A s.heap H locs → lv_has ls 8 [(0, .ref M.o_Ed), (2, .int y_2), (3, .int y_3), (4, .int y_4), (5, .int y_5), (6, .int y_6)] → W p l e ({ frames := 1, cells := 0, slots := 0, locals := 20 }) s m ([.ref M.o_Ed, .int p0, .int p1, .int p2, .int p3] : List Value).toArray below meth c H locs 0 0 Q (F0 m 68 ls [.int z_2, .int z_1, .ref M.a_Ed_shortName]) := by
    intro rec_6 hr_6 y_2 y_3 y_4 y_5 y_6 z_1 z_2 S H locs ls h hP hD hS hl
    rw [f_Ed_squeeze_68] at h
    obtain ⟨g_10, h⟩ := lf_gE h
    refine va_iast hx hb hK hP hD hS 38 2 rfl rfl g_10 d_Ed_squeeze_68 (fun H locs hP hD hS => ?_)
    obtain ⟨S_11, eS_11, h⟩ := lf_lX h
    have hP := ly_newP eS_11 hP
    have hD := ly_newD eS_11 hD
    obtain ⟨x_12, ex_12, h⟩ := lf_lX h
    refine lv_iinc (v := x_12) (lv' := [(5, .int x_12), (0, .ref M.o_Ed), (2, .int y_2), (3, .int y_3), (4, .int y_4), (6, .int y_6)]) hx hb d_Ed_squeeze_69 hl (k := 4) rfl (by rw [ex_12]; rfl) (by decide) rfl (fun ls hl => ?_)
    exact hB_72 _ hr_6 y_2 y_3 y_4 x_12 y_6 S_11 _ _ _ h hP hD hS (lv_sub hl [1, 2, 3, 4, 0, 5] rfl)
  have hB_78 : ∀ (y_5 : Int32) (S : CS) (H : Heap) (locs : List Loc) (ls : Array Slot), f_Ed_squeeze_78 K G y_5 S = some (r, S') → va_P (dC, dI) classes (wV M Y G S) H → va_D A (wV M Y G S) → va_S A s.heap H locs → lv_has ls 8 [(5, .int y_5)] → W p l e ({ frames := 1, cells := 0, slots := 0, locals := 20 }) s m ([.ref M.o_Ed, .int p0, .int p1, .int p2, .int p3] : List Value).toArray below meth c H locs 0 0 Q (F0 m 78 ls []) := by
    intro y_5 S H locs ls h hP hD hS hl
    rw [f_Ed_squeeze_78] at h
    refine lv_iload hx hb d_Ed_squeeze_78 (lv_at hl 0 rfl) ?_
    rw [hQ]
    have e1 : y_5 = r := congrArg Prod.fst (Option.some.inj h)
    have e2 : S = S' := congrArg Prod.snd (Option.some.inj h)
    have hP := ly_newP e2.symm hP
    have hD := ly_newD e2.symm hD
    exact W.iret (v := y_5) hx hb hr (fun t ht hW => ⟨⟨y_5, (), rfl, e1, by rw [ht]; exact hP, va_K.moved hW.alike hK, hD⟩, hS.F ht⟩) hS.2.2 d_Ed_squeeze_80
  have hB_6 : ∀ (k : Nat), ∀ (y_2 : Int32) (y_3 : Int32) (y_4 : Int32) (y_5 : Int32) (y_6 : Int32) (S : CS) (H : Heap) (locs : List Loc) (ls : Array Slot), f_Ed_squeeze_6 K G k y_2 y_3 y_4 y_5 y_6 S = some (r, S') → va_P (dC, dI) classes (wV M Y G S) H → va_D A (wV M Y G S) → va_S A s.heap H locs → lv_has ls 8 [(0, .ref M.o_Ed), (2, .int y_2), (3, .int y_3), (4, .int y_4), (5, .int y_5), (6, .int y_6)] → W p l e ({ frames := 1, cells := 0, slots := 0, locals := 20 }) s m ([.ref M.o_Ed, .int p0, .int p1, .int p2, .int p3] : List Value).toArray below meth c H locs 0 0 Q (F0 m 6 ls []) := by
    intro k
    induction k with
    | zero => intro y_2 y_3 y_4 y_5 y_6 S H locs ls h; exact lf_no h
    | succ k hr_6 =>
      intro y_2 y_3 y_4 y_5 y_6 S H locs ls h hP hD hS hl
      rw [f_Ed_squeeze_6] at h
      refine lv_iload hx hb d_Ed_squeeze_6 (lv_at hl 5 rfl) ?_
      refine lv_iload_n hx hb d_Ed_squeeze_8 rfl (lv_at hl 1 rfl) ?_
      refine lv_icmp_ge (tgt := 78) hx hb d_Ed_squeeze_9 (by decide) (fun c_1 => ?_) (fun c_1 => ?_)
      · have h := lf_t h c_1
        exact hB_78 y_5 S _ _ _ h hP hD hS (lv_sub hl [4] rfl)
      · have h := lf_f h c_1
        refine lv_iload hx hb d_Ed_squeeze_12 (lv_at hl 4 rfl) ?_
        refine lv_iload hx hb d_Ed_squeeze_14 (lv_at hl 3 rfl) ?_
        refine lv_icmp_ge (tgt := 78) hx hb d_Ed_squeeze_16 (by decide) (fun c_2 => ?_) (fun c_2 => ?_)
        · have h := lf_t h c_2
          exact hB_78 y_5 S _ _ _ h hP hD hS (lv_sub hl [4] rfl)
        · have h := lf_f h c_2
          refine lv_aload_n hx hb d_Ed_squeeze_19 rfl (lv_at hl 0 rfl) ?_
          refine va_get (D := (dC, dI)) (ci := 8) (v := .ref M.a_Ed_units) (C := R_Ed) (T := F_Ed) (N := 13) hx hb hts (fun w h => u_Vq_Ed w (i_Ed w h)) hown hK hP 6 rfl rfl 5 (by decide) (hts _ (u_Vq_Ed _ k_Ed_12)) (fun _ h9 => h9) rfl d_Ed_squeeze_20 ?_
          refine lv_iload hx hb d_Ed_squeeze_23 (lv_at hl 5 rfl) ?_
          obtain ⟨g_3, h⟩ := lf_gE h
          refine va_iald hx hb hK hP 37 2 rfl rfl g_3 d_Ed_squeeze_25 ?_
          obtain ⟨r_4, hc_4, h⟩ := lf_bE h
          have hFc := lx_free0 hS hA
          refine va_calli (va_runS (As := [.int (S.w_Ed_units y_6.toNatClampNeg)]) (rest := []) ⟨hx, hb, hml, hown, hts⟩ (l_Wo_capital l dC dI  _ hc_4) (va_cwS 1 hts (gwS good_Vq (u_Vq_Ed _ k_Ed_79) (u_Vq_Wo _ k_Wo_17) (u_Vq_Wo _ k_Wo_0) (wcs (u_Vq_Wo _ k_Wo_18) (fun _ h => h))) rfl rfl rfl (by decide +kernel) ⟨Nat.le_of_ble_eq_true rfl, Nat.le_of_ble_eq_true rfl⟩) (ps_of (W := []) (tys := []) (hP.sub (ws' := []) [] rfl) (hK.sub [] rfl) (hD.sub (ws' := []) [] (by decide) rfl)) rfl rfl hl.1 rfl (lv_room (Nat.le_of_ble_eq_true rfl)) d_Ed_squeeze_26 ⟨by decide, by decide⟩) hS (fun q _ h => hFc q h) hFc (fun r_ u t H locs ht hvm hw hB hz1 hk1 hS => ?_)
          rw [hw]
          have hP := lx_stat (A := A) hP hk1
          refine lv_istore (lv' := [(7, .int r_4), (0, .ref M.o_Ed), (2, .int y_2), (3, .int y_3), (4, .int y_4), (5, .int y_5), (6, .int y_6)]) hx hb d_Ed_squeeze_29 hl (by decide) rfl (fun ls hl => ?_)
          refine lv_iload hx hb d_Ed_squeeze_31 (lv_at hl 0 rfl) ?_
          refine lv_bipush (v := 32) hx hb d_Ed_squeeze_33 (by decide) ?_
          refine lv_icmp_eq (tgt := 72) hx hb d_Ed_squeeze_35 (by decide) (fun c_5 => ?_) (fun c_5 => ?_)
          · have h := lf_t h c_5
            exact hB_72 _ hr_6 y_2 y_3 y_4 y_5 y_6 S _ _ _ h hP hD hS (lv_sub hl [1, 2, 3, 4, 5, 6] rfl)
          · have h := lf_f h c_5
            refine lv_iload hx hb d_Ed_squeeze_38 (lv_at hl 0 rfl) ?_
            refine lv_bipush (v := 46) hx hb d_Ed_squeeze_40 (by decide) ?_
            refine lv_icmp_eq (tgt := 72) hx hb d_Ed_squeeze_42 (by decide) (fun c_6 => ?_) (fun c_6 => ?_)
            · have h := lf_t h c_6
              exact hB_72 _ hr_6 y_2 y_3 y_4 y_5 y_6 S _ _ _ h hP hD hS (lv_sub hl [1, 2, 3, 4, 5, 6] rfl)
            · have h := lf_f h c_6
              refine lv_aload_n hx hb d_Ed_squeeze_45 rfl (lv_at hl 1 rfl) ?_
              refine va_get (D := (dC, dI)) (ci := 8) (v := .ref M.a_Ed_shortName) (C := R_Ed) (T := F_Ed) (N := 13) hx hb hts (fun w h => u_Vq_Ed w (i_Ed w h)) hown hK hP 6 rfl rfl 7 (by decide) (hts _ (u_Vq_Ed _ k_Ed_14)) (fun _ h9 => h9) rfl d_Ed_squeeze_46 ?_
              refine lv_iload_n hx hb d_Ed_squeeze_49 rfl (lv_at hl 3 rfl) ?_
              refine lv_iload hx hb d_Ed_squeeze_50 (lv_at hl 5 rfl) ?_
              refine lv_iadd hx hb d_Ed_squeeze_52 ?_
              refine lv_iload hx hb d_Ed_squeeze_53 (lv_at hl 0 rfl) ?_
              obtain ⟨r_7, hc_7, h⟩ := lf_bE h
              have hFc := lx_free0 hS hA
              refine va_calli (va_runS (As := [.int r_4]) (rest := [.int (y_3 + y_5), .ref M.a_Ed_shortName]) ⟨hx, hb, hml, hown, hts⟩ (l_Wo_mayBeShort l dC dI  _ hc_7) (va_cwS 1 hts (gwS good_Vq (u_Vq_Ed _ k_Ed_48) (u_Vq_Wo _ k_Wo_5) (u_Vq_Wo _ k_Wo_0) (wcs (u_Vq_Wo _ k_Wo_6) (fun _ h => h))) rfl rfl rfl (by decide +kernel) ⟨Nat.le_of_ble_eq_true rfl, Nat.le_of_ble_eq_true rfl⟩) (ps_of (W := []) (tys := []) (hP.sub (ws' := []) [] rfl) (hK.sub [] rfl) (hD.sub (ws' := []) [] (by decide) rfl)) rfl rfl hl.1 rfl (lv_room (Nat.le_of_ble_eq_true rfl)) d_Ed_squeeze_55 ⟨by decide, by decide⟩) hS (fun q _ h => hFc q h) hFc (fun r_ u t H locs ht hvm hw hB hz1 hk1 hS => ?_)
              rw [hw]
              have hP := lx_stat (A := A) hP hk1
              refine lv_if_eq (tgt := 66) hx hb d_Ed_squeeze_58 (by decide) (fun c_8 => ?_) (fun c_8 => ?_)
              · have h := lf_t h c_8
                refine lv_bipush (v := 95) hx hb d_Ed_squeeze_66 (by decide) ?_
                exact hB_68 _ hr_6 y_2 y_3 y_4 y_5 y_6 (y_3 + y_5) 95 S _ _ _ h hP hD hS (lv_sub hl [1, 2, 3, 4, 5, 6] rfl)
              · have h := lf_f h c_8
                refine lv_iload hx hb d_Ed_squeeze_61 (lv_at hl 0 rfl) ?_
                refine lv_goto (tgt := 68) hx hb d_Ed_squeeze_63 (by decide) ?_
                exact hB_68 _ hr_6 y_2 y_3 y_4 y_5 y_6 (y_3 + y_5) r_4 S _ _ _ h hP hD hS (lv_sub hl [1, 2, 3, 4, 5, 6] rfl)
  rw [f_Ed_squeeze] at h
  refine lv_iconst (v := 0) hx hb d_Ed_squeeze_0 (by decide) ?_
  refine lv_istore (lv' := [(5, .int 0), (0, .ref M.o_Ed), (1, .int p0), (2, .int p1), (3, .int p2), (4, .int p3)]) hx hb d_Ed_squeeze_1 hl (by decide) rfl (fun ls hl => ?_)
  refine lv_iload_n hx hb d_Ed_squeeze_3 rfl (lv_at hl 2 rfl) ?_
  refine lv_istore (lv' := [(6, .int p0), (5, .int 0), (0, .ref M.o_Ed), (1, .int p0), (2, .int p1), (3, .int p2), (4, .int p3)]) hx hb d_Ed_squeeze_4 hl (by decide) rfl (fun ls hl => ?_)
  exact hB_6 K p1 p2 p3 0 p0 S _ _ _ h hP hD hS (lv_sub hl [2, 4, 5, 6, 1, 0] rfl)
set_option maxHeartbeats 4000000 in
set_option maxRecDepth 100000 in
theorem l_Ed_inventShortName (l : Launch) (dC : Nat → ClassId) (dI : Nat → Nat → Nat) {K : Nat} {M : CA} {E : (Nat → Prop) → State → Prop} (X : ly_X l dC dI K M E) (sz : Nat) {Y : CT} {G : CG} {S S' : CS} {p0 : Int32} (h : f_Ed_inventShortName K G S p0 = some S') : Met l y_Ed_inventShortName (.code y_Ed_inventShortName cb_Ed_inventShortName 10 none :: V_Vq) ({ frames := 4, cells := 0, slots := 0, locals := 87 }) (va_Pc [.ref M.o_Ed, .int p0] (fun U => U.heap.size = sz ∧ at_ (dC, dI) (fun _ => True) (wV M Y G S) (tV M) U ∧ E (va_A (wV M Y G S) sz) U)) (va_Qv (fun (u : Unit) => True) (fun (u : Unit) t => at_ (dC, dI) (va_A (wV M Y G S) sz) (wV M Y G S') (tV M) t) (va_A (wV M Y G S) sz)) 0 0 (va_A (wV M Y G S) sz) := by
  refine Met.ofW (cc := cb_Ed_inventShortName) (maxL := 10) (ret := none) (by decide) rfl ?_
  intro p e s m args below meth c s₁ B hml hv
  obtain ⟨rfl, hsz, ⟨hP, hK, hD0⟩, hE⟩ := hv
  have hx := B.exec
  have hb := B.bytes
  have hr := B.returns
  have hts0 := atoms_spec (ws := .code y_Ed_inventShortName cb_Ed_inventShortName 10 none :: V_Vq) B.pre
  have hts : ∀ w ∈ V_Vq, w.before ([.ref M.o_Ed, .int p0] : List Value).toArray s = true := fun w h => hts0 w (List.mem_cons_of_mem _ h)
  have hown : s.vm.findClass R_Ed = some m.cls := findClass_of_methodNamed B.named
  subst hsz
  have hD := hD0.self (sz := s.heap.size)
  generalize hAe : va_A (wV M Y G S) s.heap.size = A at hD hE ⊢
  have hA : ∀ q : Nat, s.heap.size ≤ q → A q := fun q h => by rw [← hAe]; exact Or.inr h
  have hS : va_S A s.heap s.heap [] := va_S.rf
  have hP : va_P (dC, dI) classes (wV M Y G S) s.heap := hP
  have hK : va_K (dC, dI) classes (tV M) s := hK
  have hEw : ∀ (H : Heap) (locs : List Loc), va_S A s.heap H locs → ∀ U : State, U.heap = H → s.WarmedH U.vm → E A U := fun H locs hS U hU hW => X.kept A s U H locs hE hS hU hW
  have hl := lv_entry ([.ref M.o_Ed, .int p0]) (n := 10) (Nat.le_of_ble_eq_true rfl)
  rw [lg_entry_eq]
  generalize (lg_sl ([.ref M.o_Ed, .int p0]) ++ List.replicate (10 - (lg_sl ([.ref M.o_Ed, .int p0])).length) Slot.unset).toArray = ls at hl ⊢
  have hl : lv_has ls 10 [(0, .ref M.o_Ed), (1, .int p0)] := hl
  refine qabs (fun Q hQ => ?_)
  have hB_170 : ∀ (rec_26 : Int32 → Int32 → Int32 → Int32 → Int32 → Int32 → CS → Option (CS)) (hr_26 : ∀ (y_1 : Int32) (y_2 : Int32) (y_3 : Int32) (y_4 : Int32) (y_5 : Int32) (y_6 : Int32) (S : CS) (H : Heap) (locs : List Loc) (ls : Array Slot), rec_26 y_1 y_2 y_3 y_4 y_5 y_6 S = some S' → va_P (dC, dI) classes (wV M Y G S) H → va_D A (wV M Y G S) → va_S A s.heap H locs → lv_has ls 10 [(0, .ref M.o_Ed), (1, .int y_1), (2, .int y_2), (3, .int y_3), (4, .int y_4), (5, .int y_5), (6, .int y_6)] → W p l e ({ frames := 4, cells := 0, slots := 0, locals := 87 }) s m ([.ref M.o_Ed, .int p0] : List Value).toArray below meth c H locs 0 0 Q (F0 m 26 ls [])), ∀ (y_1 : Int32) (y_2 : Int32) (y_3 : Int32) (y_4 : Int32) (y_5 : Int32) (y_6 : Int32) (S : CS) (H : Heap) (locs : List Loc) (ls : Array Slot), f_Ed_inventShortName_170 K G rec_26 y_1 y_2 y_3 y_4 y_5 y_6 S = some S' → va_P (dC, dI) classes (wV M Y G S) H → va_D A (wV M Y G S) → va_S A s.heap H locs → lv_has ls 10 [(0, .ref M.o_Ed), (1, .int y_1), (2, .int y_2), (3, .int y_3), (4, .int y_4), (5, .int y_5), (6, .int y_6)] → W p l e ({ frames := 4, cells := 0, slots := 0, locals := 87 }) s m ([.ref M.o_Ed, .int p0] : List Value).toArray below meth c H locs 0 0 Q (F0 m 170 ls []) := by
    intro rec_26 hr_26 y_1 y_2 y_3 y_4 y_5 y_6 S H locs ls h hP hD hS hl
    rw [f_Ed_inventShortName_170] at h
    refine lv_aload_n hx hb d_Ed_inventShortName_170 rfl (lv_at hl 0 rfl) ?_
    refine lv_iload_n hx hb d_Ed_inventShortName_171 rfl (lv_at hl 1 rfl) ?_
    obtain ⟨r_22, S_22, hc_22, h⟩ := lf_cE h
    have hFc := lx_free hD hS hA
    refine va_calli (va_runV (As := [.int y_1]) (rest := []) ⟨hx, hb, hml, hown, hts⟩ (l_Ed_isShortNameTaken l dC dI X _ hc_22) (cwV 1 hts (gwV good_Vq (u_Vq_Ed _ k_Ed_80) (u_Vq_Ed _ k_Ed_81) (u_Vq_Ed _ k_Ed_133) (u_Vq_Ed _ k_Ed_0) (wcs (u_Vq_Ed _ k_Ed_82) (fun _ h => h))) rfl rfl rfl (by decide +kernel) ⟨Nat.le_of_ble_eq_true rfl, Nat.le_of_ble_eq_true rfl⟩) (pv_ofE (X.same _) (fun U z1 z2 => X.mono _ _ U hFc (hEw _ _ hS U z1 z2)) hP hK hD (va_recv hK hP (ci := 8) (q0 := 6) rfl rfl)) rfl rfl hl.1 rfl (lv_room (Nat.le_of_ble_eq_true rfl)) d_Ed_inventShortName_172 ⟨by decide, by decide⟩) hS (fun q _ h => hFc q h) hFc (fun r_ u t H locs ht hvm hw hB hz1 hk1 hS => ?_)
    rw [hw]
    obtain ⟨hP, -, hD⟩ := hB
    rw [ht] at hP
    have hD := lx_dj hD hFc
    refine lv_if_ne (tgt := 179) hx hb d_Ed_inventShortName_175 (by decide) (fun c_23 => ?_) (fun c_23 => ?_)
    · have h := lf_f h c_23
      obtain ⟨x_24, ex_24, h⟩ := lf_lX h
      refine lv_iinc (v := x_24) (lv' := [(6, .int x_24), (0, .ref M.o_Ed), (1, .int y_1), (2, .int y_2), (3, .int y_3), (4, .int y_4), (5, .int y_5)]) hx hb d_Ed_inventShortName_179 hl (k := 6) rfl (by rw [ex_24]; rfl) (by decide) rfl (fun ls hl => ?_)
      refine lv_goto (tgt := 26) hx hb d_Ed_inventShortName_182 (by decide) ?_
      exact hr_26 y_1 y_2 y_3 y_4 y_5 x_24 S_22 _ _ _ h hP hD hS (lv_sub hl [1, 2, 3, 4, 5, 6, 0] rfl)
    · have h := lf_t h c_23
      rw [hQ]
      have e2 : S_22 = S' := Option.some.inj h
      have hP := ly_newP e2.symm hP
      have hD := ly_newD e2.symm hD
      exact W.vret hx hb hr (fun t ht hW => ⟨⟨(), rfl, trivial, by rw [ht]; exact hP, va_K.moved hW.alike hK, hD⟩, hS.F ht⟩) hS.2.2 d_Ed_inventShortName_178
  have hB_128 : ∀ (rec_26 : Int32 → Int32 → Int32 → Int32 → Int32 → Int32 → CS → Option (CS)) (hr_26 : ∀ (y_1 : Int32) (y_2 : Int32) (y_3 : Int32) (y_4 : Int32) (y_5 : Int32) (y_6 : Int32) (S : CS) (H : Heap) (locs : List Loc) (ls : Array Slot), rec_26 y_1 y_2 y_3 y_4 y_5 y_6 S = some S' → va_P (dC, dI) classes (wV M Y G S) H → va_D A (wV M Y G S) → va_S A s.heap H locs → lv_has ls 10 [(0, .ref M.o_Ed), (1, .int y_1), (2, .int y_2), (3, .int y_3), (4, .int y_4), (5, .int y_5), (6, .int y_6)] → W p l e ({ frames := 4, cells := 0, slots := 0, locals := 87 }) s m ([.ref M.o_Ed, .int p0] : List Value).toArray below meth c H locs 0 0 Q (F0 m 26 ls [])) (k : Nat), ∀ (y_1 : Int32) (y_2 : Int32) (y_3 : Int32) (y_4 : Int32) (y_5 : Int32) (y_6 : Int32) (y_7 : Int32) (y_8 : Int32) (y_9 : Int32) (S : CS) (H : Heap) (locs : List Loc) (ls : Array Slot), f_Ed_inventShortName_128 K G rec_26 k y_1 y_2 y_3 y_4 y_5 y_6 y_7 y_8 y_9 S = some S' → va_P (dC, dI) classes (wV M Y G S) H → va_D A (wV M Y G S) → va_S A s.heap H locs → lv_has ls 10 [(0, .ref M.o_Ed), (1, .int y_1), (2, .int y_2), (3, .int y_3), (4, .int y_4), (5, .int y_5), (6, .int y_6), (7, .int y_7), (8, .int y_8), (9, .int y_9)] → W p l e ({ frames := 4, cells := 0, slots := 0, locals := 87 }) s m ([.ref M.o_Ed, .int p0] : List Value).toArray below meth c H locs 0 0 Q (F0 m 128 ls []) := by
    intro rec_26 hr_26 k
    induction k with
    | zero => intro y_1 y_2 y_3 y_4 y_5 y_6 y_7 y_8 y_9 S H locs ls h; exact lf_no h
    | succ k hr_128 =>
      intro y_1 y_2 y_3 y_4 y_5 y_6 y_7 y_8 y_9 S H locs ls h hP hD hS hl
      rw [f_Ed_inventShortName_128] at h
      refine lv_iload hx hb d_Ed_inventShortName_128 (lv_at hl 9 rfl) ?_
      refine lv_iload hx hb d_Ed_inventShortName_130 (lv_at hl 7 rfl) ?_
      refine lv_icmp_le (tgt := 170) hx hb d_Ed_inventShortName_132 (by decide) (fun c_16 => ?_) (fun c_16 => ?_)
      · have h := lf_t h c_16
        exact hB_170 _ hr_26 y_1 y_2 y_3 y_4 y_5 y_6 S _ _ _ h hP hD hS (lv_sub hl [0, 1, 2, 3, 4, 5, 6] rfl)
      · have h := lf_f h c_16
        refine lv_iload hx hb d_Ed_inventShortName_135 (lv_at hl 9 rfl) ?_
        refine lv_bipush (v := 8) hx hb d_Ed_inventShortName_137 (by decide) ?_
        refine lv_icmp_ge (tgt := 170) hx hb d_Ed_inventShortName_139 (by decide) (fun c_17 => ?_) (fun c_17 => ?_)
        · have h := lf_t h c_17
          exact hB_170 _ hr_26 y_1 y_2 y_3 y_4 y_5 y_6 S _ _ _ h hP hD hS (lv_sub hl [0, 1, 2, 3, 4, 5, 6] rfl)
        · have h := lf_f h c_17
          refine lv_aload_n hx hb d_Ed_inventShortName_142 rfl (lv_at hl 0 rfl) ?_
          refine va_get (D := (dC, dI)) (ci := 8) (v := .ref M.a_Ed_shortName) (C := R_Ed) (T := F_Ed) (N := 13) hx hb hts (fun w h => u_Vq_Ed w (i_Ed w h)) hown hK hP 6 rfl rfl 7 (by decide) (hts _ (u_Vq_Ed _ k_Ed_14)) (fun _ h9 => h9) rfl d_Ed_inventShortName_143 ?_
          refine lv_iload hx hb d_Ed_inventShortName_146 (lv_at hl 9 rfl) ?_
          refine lv_bipush (v := 48) hx hb d_Ed_inventShortName_148 (by decide) ?_
          refine lv_iload hx hb d_Ed_inventShortName_150 (lv_at hl 8 rfl) ?_
          refine lv_bipush (v := 10) hx hb d_Ed_inventShortName_152 (by decide) ?_
          refine lv_irem hx hb d_Ed_inventShortName_154 (by decide) ?_
          refine lv_iadd hx hb d_Ed_inventShortName_155 ?_
          obtain ⟨g_18, h⟩ := lf_gE h
          refine va_iast hx hb hK hP hD hS 38 2 rfl rfl g_18 d_Ed_inventShortName_156 (fun H locs hP hD hS => ?_)
          obtain ⟨S_19, eS_19, h⟩ := lf_lX h
          have hP := ly_newP eS_19 hP
          have hD := ly_newD eS_19 hD
          refine lv_iload hx hb d_Ed_inventShortName_157 (lv_at hl 8 rfl) ?_
          refine lv_bipush (v := 10) hx hb d_Ed_inventShortName_159 (by decide) ?_
          refine lv_idiv hx hb d_Ed_inventShortName_161 (by decide) ?_
          refine lv_topi (fun x_20 ex_20 => ?_)
          have h := lf_lE h ex_20
          refine lv_istore (lv' := [(8, .int x_20), (0, .ref M.o_Ed), (1, .int y_1), (2, .int y_2), (3, .int y_3), (4, .int y_4), (5, .int y_5), (6, .int y_6), (7, .int y_7), (9, .int y_9)]) hx hb d_Ed_inventShortName_162 hl (by decide) rfl (fun ls hl => ?_)
          obtain ⟨x_21, ex_21, h⟩ := lf_lX h
          refine lv_iinc (v := x_21) (lv' := [(9, .int x_21), (8, .int x_20), (0, .ref M.o_Ed), (1, .int y_1), (2, .int y_2), (3, .int y_3), (4, .int y_4), (5, .int y_5), (6, .int y_6), (7, .int y_7)]) hx hb d_Ed_inventShortName_164 hl (k := 9) rfl (by rw [ex_21]; rfl) (by decide) rfl (fun ls hl => ?_)
          refine lv_goto (tgt := 128) hx hb d_Ed_inventShortName_167 (by decide) ?_
          exact hr_128 y_1 y_2 y_3 y_4 y_5 y_6 y_7 x_20 x_21 S_19 _ _ _ h hP hD hS (lv_sub hl [2, 3, 4, 5, 6, 7, 8, 9, 1, 0] rfl)
  have hB_108 : ∀ (rec_26 : Int32 → Int32 → Int32 → Int32 → Int32 → Int32 → CS → Option (CS)) (hr_26 : ∀ (y_1 : Int32) (y_2 : Int32) (y_3 : Int32) (y_4 : Int32) (y_5 : Int32) (y_6 : Int32) (S : CS) (H : Heap) (locs : List Loc) (ls : Array Slot), rec_26 y_1 y_2 y_3 y_4 y_5 y_6 S = some S' → va_P (dC, dI) classes (wV M Y G S) H → va_D A (wV M Y G S) → va_S A s.heap H locs → lv_has ls 10 [(0, .ref M.o_Ed), (1, .int y_1), (2, .int y_2), (3, .int y_3), (4, .int y_4), (5, .int y_5), (6, .int y_6)] → W p l e ({ frames := 4, cells := 0, slots := 0, locals := 87 }) s m ([.ref M.o_Ed, .int p0] : List Value).toArray below meth c H locs 0 0 Q (F0 m 26 ls [])), ∀ (y_1 : Int32) (y_2 : Int32) (y_3 : Int32) (y_4 : Int32) (y_5 : Int32) (y_6 : Int32) (y_7 : Int32) (S : CS) (H : Heap) (locs : List Loc) (ls : Array Slot), f_Ed_inventShortName_108 K G rec_26 y_1 y_2 y_3 y_4 y_5 y_6 y_7 S = some S' → va_P (dC, dI) classes (wV M Y G S) H → va_D A (wV M Y G S) → va_S A s.heap H locs → lv_has ls 10 [(0, .ref M.o_Ed), (1, .int y_1), (2, .int y_2), (3, .int y_3), (4, .int y_4), (5, .int y_5), (6, .int y_6), (7, .int y_7)] → W p l e ({ frames := 4, cells := 0, slots := 0, locals := 87 }) s m ([.ref M.o_Ed, .int p0] : List Value).toArray below meth c H locs 0 0 Q (F0 m 108 ls []) := by
    intro rec_26 hr_26 y_1 y_2 y_3 y_4 y_5 y_6 y_7 S H locs ls h hP hD hS hl
    rw [f_Ed_inventShortName_108] at h
    refine lv_aload_n hx hb d_Ed_inventShortName_108 rfl (lv_at hl 0 rfl) ?_
    refine va_get (D := (dC, dI)) (ci := 8) (v := .ref M.a_Ed_shortName) (C := R_Ed) (T := F_Ed) (N := 13) hx hb hts (fun w h => u_Vq_Ed w (i_Ed w h)) hown hK hP 6 rfl rfl 7 (by decide) (hts _ (u_Vq_Ed _ k_Ed_14)) (fun _ h9 => h9) rfl d_Ed_inventShortName_109 ?_
    refine lv_iload hx hb d_Ed_inventShortName_112 (lv_at hl 7 rfl) ?_
    refine lv_bipush (v := 126) hx hb d_Ed_inventShortName_114 (by decide) ?_
    obtain ⟨g_13, h⟩ := lf_gE h
    refine va_iast hx hb hK hP hD hS 38 2 rfl rfl g_13 d_Ed_inventShortName_116 (fun H locs hP hD hS => ?_)
    obtain ⟨S_14, eS_14, h⟩ := lf_lX h
    have hP := ly_newP eS_14 hP
    have hD := ly_newD eS_14 hD
    refine lv_iload hx hb d_Ed_inventShortName_117 (lv_at hl 6 rfl) ?_
    refine lv_istore (lv' := [(8, .int y_6), (0, .ref M.o_Ed), (1, .int y_1), (2, .int y_2), (3, .int y_3), (4, .int y_4), (5, .int y_5), (6, .int y_6), (7, .int y_7)]) hx hb d_Ed_inventShortName_119 hl (by decide) rfl (fun ls hl => ?_)
    refine lv_iload hx hb d_Ed_inventShortName_121 (lv_at hl 8 rfl) ?_
    refine lv_iload hx hb d_Ed_inventShortName_123 (lv_at hl 5 rfl) ?_
    refine lv_iadd hx hb d_Ed_inventShortName_125 ?_
    refine lv_topi (fun x_15 ex_15 => ?_)
    have h := lf_lE h ex_15
    refine lv_istore (lv' := [(9, .int x_15), (8, .int y_6), (0, .ref M.o_Ed), (1, .int y_1), (2, .int y_2), (3, .int y_3), (4, .int y_4), (5, .int y_5), (6, .int y_6), (7, .int y_7)]) hx hb d_Ed_inventShortName_126 hl (by decide) rfl (fun ls hl => ?_)
    exact hB_128 _ hr_26 K y_1 y_2 y_3 y_4 y_5 y_6 y_7 y_6 x_15 S_14 _ _ _ h hP hD hS (lv_sub hl [2, 3, 4, 5, 6, 7, 8, 9, 1, 0] rfl)
  have hB_73 : ∀ (rec_26 : Int32 → Int32 → Int32 → Int32 → Int32 → Int32 → CS → Option (CS)) (hr_26 : ∀ (y_1 : Int32) (y_2 : Int32) (y_3 : Int32) (y_4 : Int32) (y_5 : Int32) (y_6 : Int32) (S : CS) (H : Heap) (locs : List Loc) (ls : Array Slot), rec_26 y_1 y_2 y_3 y_4 y_5 y_6 S = some S' → va_P (dC, dI) classes (wV M Y G S) H → va_D A (wV M Y G S) → va_S A s.heap H locs → lv_has ls 10 [(0, .ref M.o_Ed), (1, .int y_1), (2, .int y_2), (3, .int y_3), (4, .int y_4), (5, .int y_5), (6, .int y_6)] → W p l e ({ frames := 4, cells := 0, slots := 0, locals := 87 }) s m ([.ref M.o_Ed, .int p0] : List Value).toArray below meth c H locs 0 0 Q (F0 m 26 ls [])), ∀ (y_1 : Int32) (y_2 : Int32) (y_3 : Int32) (y_4 : Int32) (y_5 : Int32) (y_6 : Int32) (z_1 : Int32) (z_2 : Int32) (S : CS) (H : Heap) (locs : List Loc) (ls : Array Slot), f_Ed_inventShortName_73 K G rec_26 y_1 y_2 y_3 y_4 y_5 y_6 z_1 z_2 S = some S' → va_P (dC, dI) classes (wV M Y G S) H → va_D A (wV M Y G S) → va_S A s.heap H locs → lv_has ls 10 [(0, .ref M.o_Ed), (1, .int y_1), (2, .int y_2), (3, .int y_3), (4, .int y_4), (5, .int y_5), (6, .int y_6)] → W p l e ({ frames := 4, cells := 0, slots := 0, locals := 87 }) s m ([.ref M.o_Ed, .int p0] : List Value).toArray below meth c H locs 0 0 Q (F0 m 73 ls [.int z_2, .int z_1, .ref M.o_Ed]) := by
    intro rec_26 hr_26 y_1 y_2 y_3 y_4 y_5 y_6 z_1 z_2 S H locs ls h hP hD hS hl
    rw [f_Ed_inventShortName_73] at h
    refine lv_iconst (v := 0) hx hb d_Ed_inventShortName_73 (by decide) ?_
    refine lv_bipush (v := 7) hx hb d_Ed_inventShortName_74 (by decide) ?_
    refine lv_iload hx hb d_Ed_inventShortName_76 (lv_at hl 4 rfl) ?_
    refine lv_isub hx hb d_Ed_inventShortName_78 ?_
    refine lv_iconst (v := 0) hx hb d_Ed_inventShortName_79 (by decide) ?_
    refine va_mmax hx hb (by rw [hml]; exact hl.1.symm) hown (hts _ (u_Vq_Ed _ k_Ed_75)) (hts _ (u_Vq_J _ k_J_5)) (hts _ (u_Vq_J _ k_J_0)) (hts _ (u_Vq_J _ k_J_6)) (Nat.le_of_ble_eq_true rfl) (Nat.le_of_ble_eq_true rfl) (by decide) (by decide) d_Ed_inventShortName_80 ?_
    obtain ⟨r_10, S_10, hc_10, h⟩ := lf_cE h
    have hFc := lx_free hD hS hA
    refine va_calli (va_runV (As := [.int z_1, .int z_2, .int 0, .int (if (7 - y_4) < (0 : Int32) then (0 : Int32) else (7 - y_4))]) (rest := []) ⟨hx, hb, hml, hown, hts⟩ (l_Ed_squeeze l dC dI X _ hc_10) (cwV 4 hts (gwV good_Vq (u_Vq_Ed _ k_Ed_76) (u_Vq_Ed _ k_Ed_77) (u_Vq_Ed _ k_Ed_134) (u_Vq_Ed _ k_Ed_0) (wcs (u_Vq_Ed _ k_Ed_78) (fun _ h => h))) rfl rfl rfl (by decide +kernel) ⟨Nat.le_of_ble_eq_true rfl, Nat.le_of_ble_eq_true rfl⟩) (pv_ofE (X.same _) (fun U z1 z2 => X.mono _ _ U hFc (hEw _ _ hS U z1 z2)) hP hK hD (va_recv hK hP (ci := 8) (q0 := 6) rfl rfl)) rfl rfl hl.1 rfl (lv_room (Nat.le_of_ble_eq_true rfl)) d_Ed_inventShortName_83 ⟨by decide, by decide⟩) hS (fun q _ h => hFc q h) hFc (fun r_ u t H locs ht hvm hw hB hz1 hk1 hS => ?_)
    rw [hw]
    obtain ⟨hP, -, hD⟩ := hB
    rw [ht] at hP
    have hD := lx_dj hD hFc
    refine lv_istore (lv' := [(7, .int r_10), (0, .ref M.o_Ed), (1, .int y_1), (2, .int y_2), (3, .int y_3), (4, .int y_4), (5, .int y_5), (6, .int y_6)]) hx hb d_Ed_inventShortName_86 hl (by decide) rfl (fun ls hl => ?_)
    refine lv_iload_n hx hb d_Ed_inventShortName_88 rfl (lv_at hl 3 rfl) ?_
    refine lv_iconst (v := (-1)) hx hb d_Ed_inventShortName_89 (by decide) ?_
    refine lv_icmp_eq (tgt := 108) hx hb d_Ed_inventShortName_90 (by decide) (fun c_11 => ?_) (fun c_11 => ?_)
    · have h := lf_t h c_11
      exact hB_108 _ hr_26 y_1 y_2 y_3 y_4 y_5 y_6 r_10 S_10 _ _ _ h hP hD hS (lv_sub hl [1, 2, 3, 4, 5, 6, 7, 0] rfl)
    · have h := lf_f h c_11
      refine lv_aload_n hx hb d_Ed_inventShortName_93 rfl (lv_at hl 1 rfl) ?_
      refine lv_iload_n hx hb d_Ed_inventShortName_94 rfl (lv_at hl 3 rfl) ?_
      refine lv_iconst (v := 1) hx hb d_Ed_inventShortName_95 (by decide) ?_
      refine lv_iadd hx hb d_Ed_inventShortName_96 ?_
      refine lv_aload_n hx hb d_Ed_inventShortName_97 rfl (lv_at hl 1 rfl) ?_
      refine va_get (D := (dC, dI)) (ci := 8) (v := .int S_10.v_Ed_unitCount) (C := R_Ed) (T := F_Ed) (N := 13) hx hb hts (fun w h => u_Vq_Ed w (i_Ed w h)) hown hK hP 6 rfl rfl 6 (by decide) (hts _ (u_Vq_Ed _ k_Ed_13)) (fun _ h9 => h9) rfl d_Ed_inventShortName_98 ?_
      refine lv_bipush (v := 8) hx hb d_Ed_inventShortName_101 (by decide) ?_
      refine lv_iconst (v := 3) hx hb d_Ed_inventShortName_103 (by decide) ?_
      obtain ⟨r_12, S_12, hc_12, h⟩ := lf_cE h
      have hFc := lx_free hD hS hA
      refine va_calli (va_runV (As := [.int (y_2 + 1), .int S_10.v_Ed_unitCount, .int 8, .int 3]) (rest := []) ⟨hx, hb, hml, hown, hts⟩ (l_Ed_squeeze l dC dI X _ hc_12) (cwV 4 hts (gwV good_Vq (u_Vq_Ed _ k_Ed_76) (u_Vq_Ed _ k_Ed_77) (u_Vq_Ed _ k_Ed_134) (u_Vq_Ed _ k_Ed_0) (wcs (u_Vq_Ed _ k_Ed_78) (fun _ h => h))) rfl rfl rfl (by decide +kernel) ⟨Nat.le_of_ble_eq_true rfl, Nat.le_of_ble_eq_true rfl⟩) (pv_ofE (X.same _) (fun U z1 z2 => X.mono _ _ U hFc (hEw _ _ hS U z1 z2)) hP hK hD (va_recv hK hP (ci := 8) (q0 := 6) rfl rfl)) rfl rfl hl.1 rfl (lv_room (Nat.le_of_ble_eq_true rfl)) d_Ed_inventShortName_104 ⟨by decide, by decide⟩) hS (fun q _ h => hFc q h) hFc (fun r_ u t H locs ht hvm hw hB hz1 hk1 hS => ?_)
      rw [hw]
      obtain ⟨hP, -, hD⟩ := hB
      rw [ht] at hP
      have hD := lx_dj hD hFc
      refine lv_pop hx hb d_Ed_inventShortName_107 rfl ?_
      exact hB_108 _ hr_26 y_1 y_2 y_3 y_4 y_5 y_6 r_10 S_12 _ _ _ h hP hD hS (lv_sub hl [1, 2, 3, 4, 5, 6, 7, 0] rfl)
  have hB_49 : ∀ (rec_26 : Int32 → Int32 → Int32 → Int32 → Int32 → Int32 → CS → Option (CS)) (hr_26 : ∀ (y_1 : Int32) (y_2 : Int32) (y_3 : Int32) (y_4 : Int32) (y_5 : Int32) (y_6 : Int32) (S : CS) (H : Heap) (locs : List Loc) (ls : Array Slot), rec_26 y_1 y_2 y_3 y_4 y_5 y_6 S = some S' → va_P (dC, dI) classes (wV M Y G S) H → va_D A (wV M Y G S) → va_S A s.heap H locs → lv_has ls 10 [(0, .ref M.o_Ed), (1, .int y_1), (2, .int y_2), (3, .int y_3), (4, .int y_4), (5, .int y_5), (6, .int y_6)] → W p l e ({ frames := 4, cells := 0, slots := 0, locals := 87 }) s m ([.ref M.o_Ed, .int p0] : List Value).toArray below meth c H locs 0 0 Q (F0 m 26 ls [])), ∀ (y_1 : Int32) (y_2 : Int32) (y_3 : Int32) (y_4 : Int32) (y_5 : Int32) (y_6 : Int32) (S : CS) (H : Heap) (locs : List Loc) (ls : Array Slot), f_Ed_inventShortName_49 K G rec_26 y_1 y_2 y_3 y_4 y_5 y_6 S = some S' → va_P (dC, dI) classes (wV M Y G S) H → va_D A (wV M Y G S) → va_S A s.heap H locs → lv_has ls 10 [(0, .ref M.o_Ed), (1, .int y_1), (2, .int y_2), (3, .int y_3), (4, .int y_4), (5, .int y_5), (6, .int y_6)] → W p l e ({ frames := 4, cells := 0, slots := 0, locals := 87 }) s m ([.ref M.o_Ed, .int p0] : List Value).toArray below meth c H locs 0 0 Q (F0 m 49 ls []) := by
    intro rec_26 hr_26 y_1 y_2 y_3 y_4 y_5 y_6 S H locs ls h hP hD hS hl
    rw [f_Ed_inventShortName_49] at h
    refine lv_aload_n hx hb d_Ed_inventShortName_49 rfl (lv_at hl 0 rfl) ?_
    refine va_get (D := (dC, dI)) (ci := 8) (v := .ref M.a_Ed_shortName) (C := R_Ed) (T := F_Ed) (N := 13) hx hb hts (fun w h => u_Vq_Ed w (i_Ed w h)) hown hK hP 6 rfl rfl 7 (by decide) (hts _ (u_Vq_Ed _ k_Ed_14)) (fun _ h9 => h9) rfl d_Ed_inventShortName_50 ?_
    refine lv_bipush (v := 32) hx hb d_Ed_inventShortName_53 (by decide) ?_
    have hPc := hP.sub (ws' := [(M.a_Ed_shortName, .inl (M.kI, 11, .inl S.w_Ed_shortName))]) [38] rfl
    have hDc := hD.sub (ws' := [(M.a_Ed_shortName, .inl (M.kI, 11, .inl S.w_Ed_shortName))]) [38] (by decide) rfl
    have hKc := hK.sub (tys' := [(M.kI, .int)]) [2] rfl
    have hFc := va_free (wc := [(M.a_Ed_shortName, .inl (M.kI, 11, .inl S.w_Ed_shortName))]) hD hS hA [38] rfl
    refine va_callv (va_runS (As := [.ref M.a_Ed_shortName, .int 32]) (rest := []) ⟨hx, hb, hml, hown, hts⟩ (c_Ar_fillI l dC dI M.a_Ed_shortName _ M.kI 11 S.w_Ed_shortName (by decide) 32) (va_cwS 2 hts (gwS good_Vq (u_Vq_Ed _ k_Ed_47) (u_Vq_J _ k_J_50) (u_Vq_J _ k_J_2) (wcs (u_Vq_J _ k_J_51) u_Vq_J)) rfl rfl rfl (by decide +kernel) ⟨Nat.le_of_ble_eq_true rfl, Nat.le_of_ble_eq_true rfl⟩) (ps_of hPc hKc hDc) rfl rfl hl.1 rfl (lv_room (Nat.le_of_ble_eq_true rfl)) d_Ed_inventShortName_55 ⟨by decide, by decide⟩) hS (fun q _ h => hFc q h) hFc (fun u t H locs ht hvm hw hB hz1 hk1 hS => ?_)
    obtain ⟨hP1, -, -⟩ := hB
    rw [ht, hw] at hP1
    obtain ⟨hP, hD⟩ := lx_one hP hD (q := 38) rfl hk1 hP1
    obtain ⟨S_8, eS_8, h⟩ := lf_lX h
    have hP := ly_newP eS_8 hP
    have hD := ly_newD eS_8 hD
    refine lv_aload_n hx hb d_Ed_inventShortName_58 rfl (lv_at hl 0 rfl) ?_
    refine lv_iconst (v := 0) hx hb d_Ed_inventShortName_59 (by decide) ?_
    refine lv_iload_n hx hb d_Ed_inventShortName_60 rfl (lv_at hl 2 rfl) ?_
    refine lv_iconst (v := (-1)) hx hb d_Ed_inventShortName_61 (by decide) ?_
    refine lv_icmp_ne (tgt := 72) hx hb d_Ed_inventShortName_62 (by decide) (fun c_9 => ?_) (fun c_9 => ?_)
    · have h := lf_f h c_9
      refine lv_iload_n hx hb d_Ed_inventShortName_72 rfl (lv_at hl 2 rfl) ?_
      exact hB_73 _ hr_26 y_1 y_2 y_3 y_4 y_5 y_6 0 y_2 S_8 _ _ _ h hP hD hS (lv_sub hl [0, 1, 2, 3, 4, 5, 6] rfl)
    · have h := lf_t h c_9
      refine lv_aload_n hx hb d_Ed_inventShortName_65 rfl (lv_at hl 0 rfl) ?_
      refine va_get (D := (dC, dI)) (ci := 8) (v := .int S_8.v_Ed_unitCount) (C := R_Ed) (T := F_Ed) (N := 13) hx hb hts (fun w h => u_Vq_Ed w (i_Ed w h)) hown hK hP 6 rfl rfl 6 (by decide) (hts _ (u_Vq_Ed _ k_Ed_13)) (fun _ h9 => h9) rfl d_Ed_inventShortName_66 ?_
      refine lv_goto (tgt := 73) hx hb d_Ed_inventShortName_69 (by decide) ?_
      exact hB_73 _ hr_26 y_1 y_2 y_3 y_4 y_5 y_6 0 S_8.v_Ed_unitCount S_8 _ _ _ h hP hD hS (lv_sub hl [0, 1, 2, 3, 4, 5, 6] rfl)
  have hB_26 : ∀ (k : Nat), ∀ (y_1 : Int32) (y_2 : Int32) (y_3 : Int32) (y_4 : Int32) (y_5 : Int32) (y_6 : Int32) (S : CS) (H : Heap) (locs : List Loc) (ls : Array Slot), f_Ed_inventShortName_26 K G k y_1 y_2 y_3 y_4 y_5 y_6 S = some S' → va_P (dC, dI) classes (wV M Y G S) H → va_D A (wV M Y G S) → va_S A s.heap H locs → lv_has ls 10 [(0, .ref M.o_Ed), (1, .int y_1), (2, .int y_2), (3, .int y_3), (4, .int y_4), (5, .int y_5), (6, .int y_6)] → W p l e ({ frames := 4, cells := 0, slots := 0, locals := 87 }) s m ([.ref M.o_Ed, .int p0] : List Value).toArray below meth c H locs 0 0 Q (F0 m 26 ls []) := by
    intro k
    induction k with
    | zero => intro y_1 y_2 y_3 y_4 y_5 y_6 S H locs ls h; exact lf_no h
    | succ k hr_26 =>
      intro y_1 y_2 y_3 y_4 y_5 y_6 S H locs ls h hP hD hS hl
      rw [f_Ed_inventShortName_26] at h
      refine lv_iload hx hb d_Ed_inventShortName_26 (lv_at hl 6 rfl) ?_
      refine lv_iload_n hx hb d_Ed_inventShortName_28 rfl (lv_at hl 3 rfl) ?_
      refine lv_icmp_gt (tgt := 185) hx hb d_Ed_inventShortName_29 (by decide) (fun c_4 => ?_) (fun c_4 => ?_)
      · have h := lf_t h c_4
        rw [hQ]
        have e2 : S = S' := Option.some.inj h
        have hP := ly_newP e2.symm hP
        have hD := ly_newD e2.symm hD
        exact W.vret hx hb hr (fun t ht hW => ⟨⟨(), rfl, trivial, by rw [ht]; exact hP, va_K.moved hW.alike hK, hD⟩, hS.F ht⟩) hS.2.2 d_Ed_inventShortName_185
      · have h := lf_f h c_4
        refine lv_iload hx hb d_Ed_inventShortName_32 (lv_at hl 6 rfl) ?_
        refine lv_iload hx hb d_Ed_inventShortName_34 (lv_at hl 5 rfl) ?_
        refine lv_icmp_ne (tgt := 49) hx hb d_Ed_inventShortName_36 (by decide) (fun c_5 => ?_) (fun c_5 => ?_)
        · have h := lf_f h c_5
          exact hB_49 _ hr_26 y_1 y_2 y_3 y_4 y_5 y_6 S _ _ _ h hP hD hS (lv_sub hl [0, 1, 2, 3, 4, 5, 6] rfl)
        · have h := lf_t h c_5
          obtain ⟨x_6, ex_6, h⟩ := lf_lX h
          refine lv_iinc (v := x_6) (lv' := [(4, .int x_6), (0, .ref M.o_Ed), (1, .int y_1), (2, .int y_2), (3, .int y_3), (5, .int y_5), (6, .int y_6)]) hx hb d_Ed_inventShortName_39 hl (k := 4) rfl (by rw [ex_6]; rfl) (by decide) rfl (fun ls hl => ?_)
          refine lv_iload hx hb d_Ed_inventShortName_42 (lv_at hl 5 rfl) ?_
          refine lv_bipush (v := 10) hx hb d_Ed_inventShortName_44 (by decide) ?_
          refine lv_imul hx hb d_Ed_inventShortName_46 ?_
          refine lv_topi (fun x_7 ex_7 => ?_)
          have h := lf_lE h ex_7
          refine lv_istore (lv' := [(5, .int x_7), (4, .int x_6), (0, .ref M.o_Ed), (1, .int y_1), (2, .int y_2), (3, .int y_3), (6, .int y_6)]) hx hb d_Ed_inventShortName_47 hl (by decide) rfl (fun ls hl => ?_)
          exact hB_49 _ hr_26 y_1 y_2 y_3 x_6 x_7 y_6 S _ _ _ h hP hD hS (lv_sub hl [2, 3, 4, 5, 1, 0, 6] rfl)
  rw [f_Ed_inventShortName] at h
  refine lv_aload_n hx hb d_Ed_inventShortName_0 rfl (lv_at hl 0 rfl) ?_
  obtain ⟨r_1, S_1, hc_1, h⟩ := lf_cE h
  have hFc := lx_free hD hS hA
  refine va_calli (va_runV (As := []) (rest := []) ⟨hx, hb, hml, hown, hts⟩ (l_Ed_lastPoint l dC dI X _ hc_1) (cwV 0 hts (gwV good_Vq (u_Vq_Ed _ k_Ed_44) (u_Vq_Ed _ k_Ed_45) (u_Vq_Ed _ k_Ed_130) (u_Vq_Ed _ k_Ed_0) (wcs (u_Vq_Ed _ k_Ed_46) (fun _ h => h))) rfl rfl rfl (by decide +kernel) ⟨Nat.le_of_ble_eq_true rfl, Nat.le_of_ble_eq_true rfl⟩) (pv_ofE (X.same _) (fun U z1 z2 => X.mono _ _ U hFc (hEw _ _ hS U z1 z2)) hP hK hD (va_recv hK hP (ci := 8) (q0 := 6) rfl rfl)) rfl rfl hl.1 rfl (lv_room (Nat.le_of_ble_eq_true rfl)) d_Ed_inventShortName_1 ⟨by decide, by decide⟩) hS (fun q _ h => hFc q h) hFc (fun r_ u t H locs ht hvm hw hB hz1 hk1 hS => ?_)
  rw [hw]
  obtain ⟨hP, -, hD⟩ := hB
  rw [ht] at hP
  have hD := lx_dj hD hFc
  refine lv_istore_n (lv' := [(2, .int r_1), (0, .ref M.o_Ed), (1, .int p0)]) hx hb d_Ed_inventShortName_4 rfl hl (by decide) rfl (fun ls hl => ?_)
  refine lv_aload_n hx hb d_Ed_inventShortName_5 rfl (lv_at hl 1 rfl) ?_
  refine va_get (D := (dC, dI)) (ci := 8) (v := .ref M.o_Tr) (C := R_Ed) (T := F_Ed) (N := 13) hx hb hts (fun w h => u_Vq_Ed w (i_Ed w h)) hown hK hP 6 rfl rfl 2 (by decide) (hts _ (u_Vq_Ed _ k_Ed_9)) (fun _ h9 => h9) rfl d_Ed_inventShortName_6 ?_
  refine lv_iload_n hx hb d_Ed_inventShortName_9 rfl (lv_at hl 2 rfl) ?_
  obtain ⟨r_2, S_2, hc_2, h⟩ := lf_cE h
  have hFc := lx_free hD hS hA
  refine va_calli (va_runV (As := [.int p0]) (rest := []) ⟨hx, hb, hml, hown, hts⟩ (l_Tr_countIn l dC dI X _ hc_2) (cwV 1 hts (gwV good_Vq (u_Vq_Ed _ k_Ed_52) (u_Vq_Tr _ k_Tr_91) (u_Vq_Tr _ k_Tr_92) (u_Vq_Tr _ k_Tr_0) (wcs (u_Vq_Tr _ k_Tr_93) (fun _ h => h))) rfl rfl rfl (by decide +kernel) ⟨Nat.le_of_ble_eq_true rfl, Nat.le_of_ble_eq_true rfl⟩) (pv_ofE (X.same _) (fun U z1 z2 => X.mono _ _ U hFc (hEw _ _ hS U z1 z2)) hP hK hD (va_recv hK hP (ci := 5) (q0 := 4) rfl rfl)) rfl rfl hl.1 rfl (lv_room (Nat.le_of_ble_eq_true rfl)) d_Ed_inventShortName_10 ⟨by decide, by decide⟩) hS (fun q _ h => hFc q h) hFc (fun r_ u t H locs ht hvm hw hB hz1 hk1 hS => ?_)
  rw [hw]
  obtain ⟨hP, -, hD⟩ := hB
  rw [ht] at hP
  have hD := lx_dj hD hFc
  refine lv_iconst (v := 1) hx hb d_Ed_inventShortName_13 (by decide) ?_
  refine lv_iadd hx hb d_Ed_inventShortName_14 ?_
  refine lv_topi (fun x_3 ex_3 => ?_)
  have h := lf_lE h ex_3
  refine lv_istore_n (lv' := [(3, .int x_3), (2, .int r_1), (0, .ref M.o_Ed), (1, .int p0)]) hx hb d_Ed_inventShortName_15 rfl hl (by decide) rfl (fun ls hl => ?_)
  refine lv_iconst (v := 1) hx hb d_Ed_inventShortName_16 (by decide) ?_
  refine lv_istore (lv' := [(4, .int 1), (3, .int x_3), (2, .int r_1), (0, .ref M.o_Ed), (1, .int p0)]) hx hb d_Ed_inventShortName_17 hl (by decide) rfl (fun ls hl => ?_)
  refine lv_bipush (v := 10) hx hb d_Ed_inventShortName_19 (by decide) ?_
  refine lv_istore (lv' := [(5, .int 10), (4, .int 1), (3, .int x_3), (2, .int r_1), (0, .ref M.o_Ed), (1, .int p0)]) hx hb d_Ed_inventShortName_21 hl (by decide) rfl (fun ls hl => ?_)
  refine lv_iconst (v := 1) hx hb d_Ed_inventShortName_23 (by decide) ?_
  refine lv_istore (lv' := [(6, .int 1), (5, .int 10), (4, .int 1), (3, .int x_3), (2, .int r_1), (0, .ref M.o_Ed), (1, .int p0)]) hx hb d_Ed_inventShortName_24 hl (by decide) rfl (fun ls hl => ?_)
  exact hB_26 K p0 r_1 x_3 1 10 1 S_2 _ _ _ h hP hD hS (lv_sub hl [5, 6, 4, 3, 2, 1, 0] rfl)
set_option maxHeartbeats 4000000 in
set_option maxRecDepth 100000 in
theorem l_Tb_road_Edroad (l : Launch) (dC : Nat → ClassId) (dI : Nat → Nat → Nat) {K : Nat} {M : CA} {E : (Nat → Prop) → State → Prop} (X : ly_X l dC dI K M E) (sz : Nat) {Y : CT} {G : CG} {S S' : CS} {p0 : Int32} {r : Int32} (h : f_Tb_road_Edroad K G S p0 = some (r, S')) : Met l y_Tb_road (.code y_Tb_road b_Tb_road 5 (some .int) :: V_Vq) ({ frames := 1, cells := 0, slots := 0, locals := 21 }) (va_Pc [.ref M.o_Tb, .int p0, .ref M.a_Ed_road] (fun U => U.heap.size = sz ∧ at_ (dC, dI) (fun _ => True) (wV M Y G S) (tV M) U ∧ E (va_A (wV M Y G S) sz) U)) (va_Qi (fun (r_ : Int32) (u : Unit) => r_ = r) (fun (u : Unit) t => at_ (dC, dI) (va_A (wV M Y G S) sz) (wV M Y G S') (tV M) t) (va_A (wV M Y G S) sz)) 0 0 (va_A (wV M Y G S) sz) := by
  refine Met.ofW (cc := b_Tb_road) (maxL := 5) (ret := (some .int)) (by decide) rfl ?_
  intro p e s m args below meth c s₁ B hml hv
  obtain ⟨rfl, hsz, ⟨hP, hK, hD0⟩, hE⟩ := hv
  have hx := B.exec
  have hb := B.bytes
  have hr := B.returns
  have hts0 := atoms_spec (ws := .code y_Tb_road b_Tb_road 5 (some .int) :: V_Vq) B.pre
  have hts : ∀ w ∈ V_Vq, w.before ([.ref M.o_Tb, .int p0, .ref M.a_Ed_road] : List Value).toArray s = true := fun w h => hts0 w (List.mem_cons_of_mem _ h)
  have hown : s.vm.findClass R_Tb = some m.cls := findClass_of_methodNamed B.named
  subst hsz
  have hD := hD0.self (sz := s.heap.size)
  generalize hAe : va_A (wV M Y G S) s.heap.size = A at hD hE ⊢
  have hA : ∀ q : Nat, s.heap.size ≤ q → A q := fun q h => by rw [← hAe]; exact Or.inr h
  have hS : va_S A s.heap s.heap [] := va_S.rf
  have hP : va_P (dC, dI) classes (wV M Y G S) s.heap := hP
  have hK : va_K (dC, dI) classes (tV M) s := hK
  have hEw : ∀ (H : Heap) (locs : List Loc), va_S A s.heap H locs → ∀ U : State, U.heap = H → s.WarmedH U.vm → E A U := fun H locs hS U hU hW => X.kept A s U H locs hE hS hU hW
  have hl := lv_entry ([.ref M.o_Tb, .int p0, .ref M.a_Ed_road]) (n := 5) (Nat.le_of_ble_eq_true rfl)
  rw [lg_entry_eq]
  generalize (lg_sl ([.ref M.o_Tb, .int p0, .ref M.a_Ed_road]) ++ List.replicate (5 - (lg_sl ([.ref M.o_Tb, .int p0, .ref M.a_Ed_road])).length) Slot.unset).toArray = ls at hl ⊢
  have hl : lv_has ls 5 [(0, .ref M.o_Tb), (1, .int p0), (2, .ref M.a_Ed_road)] := hl
  refine qabs (fun Q hQ => ?_)
  have hB_38 : ∀ (y_4 : Int32) (S : CS) (H : Heap) (locs : List Loc) (ls : Array Slot), f_Tb_road_Edroad_38 K G y_4 S = some (r, S') → va_P (dC, dI) classes (wV M Y G S) H → va_D A (wV M Y G S) → va_S A s.heap H locs → lv_has ls 5 [(4, .int y_4)] → W p l e ({ frames := 1, cells := 0, slots := 0, locals := 21 }) s m ([.ref M.o_Tb, .int p0, .ref M.a_Ed_road] : List Value).toArray below meth c H locs 0 0 Q (F0 m 38 ls []) := by
    intro y_4 S H locs ls h hP hD hS hl
    rw [f_Tb_road_Edroad_38] at h
    refine lv_iload hx hb d_Tb_road_38 (lv_at hl 0 rfl) ?_
    rw [hQ]
    have e1 : y_4 = r := congrArg Prod.fst (Option.some.inj h)
    have e2 : S = S' := congrArg Prod.snd (Option.some.inj h)
    have hP := ly_newP e2.symm hP
    have hD := ly_newD e2.symm hD
    exact W.iret (v := y_4) hx hb hr (fun t ht hW => ⟨⟨y_4, (), rfl, e1, by rw [ht]; exact hP, va_K.moved hW.alike hK, hD⟩, hS.F ht⟩) hS.2.2 d_Tb_road_40
  have hB_5 : ∀ (k : Nat), ∀ (y_3 : Int32) (y_4 : Int32) (S : CS) (H : Heap) (locs : List Loc) (ls : Array Slot), f_Tb_road_Edroad_5 K G k y_3 y_4 S = some (r, S') → va_P (dC, dI) classes (wV M Y G S) H → va_D A (wV M Y G S) → va_S A s.heap H locs → lv_has ls 5 [(0, .ref M.o_Tb), (2, .ref M.a_Ed_road), (3, .int y_3), (4, .int y_4)] → W p l e ({ frames := 1, cells := 0, slots := 0, locals := 21 }) s m ([.ref M.o_Tb, .int p0, .ref M.a_Ed_road] : List Value).toArray below meth c H locs 0 0 Q (F0 m 5 ls []) := by
    intro k
    induction k with
    | zero => intro y_3 y_4 S H locs ls h; exact lf_no h
    | succ k hr_5 =>
      intro y_3 y_4 S H locs ls h hP hD hS hl
      rw [f_Tb_road_Edroad_5] at h
      refine lv_iload hx hb d_Tb_road_5 (lv_at hl 3 rfl) ?_
      refine lv_aload_n hx hb d_Tb_road_7 rfl (lv_at hl 1 rfl) ?_
      refine va_alen (v := nI (G.n / 2 + 2)) hx hb hK hP 36 2 rfl rfl rfl d_Tb_road_8 ?_
      refine lv_icmp_ge (tgt := 38) hx hb d_Tb_road_9 (by decide) (fun c_1 => ?_) (fun c_1 => ?_)
      · have h := lf_t h c_1
        exact hB_38 y_4 S _ _ _ h hP hD hS (lv_sub hl [3] rfl)
      · have h := lf_f h c_1
        refine lv_aload_n hx hb d_Tb_road_12 rfl (lv_at hl 0 rfl) ?_
        refine lv_iload_n hx hb d_Tb_road_13 rfl (lv_at hl 2 rfl) ?_
        obtain ⟨r_2, S_2, hc_2, h⟩ := lf_cE h
        have hFc := lx_free hD hS hA
        refine va_calli (va_runV (As := [.int y_3]) (rest := []) ⟨hx, hb, hml, hown, hts⟩ (l_Tb_hasCluster l dC dI X _ hc_2) (cwV 1 hts (gwV good_Vq (u_Vq_Tb _ k_Tb_99) (u_Vq_Tb _ k_Tb_73) (u_Vq_Tb _ k_Tb_74) (u_Vq_Tb _ k_Tb_0) (wcs (u_Vq_Tb _ k_Tb_75) (fun _ h => h))) rfl rfl rfl (by decide +kernel) ⟨Nat.le_of_ble_eq_true rfl, Nat.le_of_ble_eq_true rfl⟩) (pv_ofE (X.same _) (fun U z1 z2 => X.mono _ _ U hFc (hEw _ _ hS U z1 z2)) hP hK hD (va_recv hK hP (ci := 4) (q0 := 3) rfl rfl)) rfl rfl hl.1 rfl (lv_room (Nat.le_of_ble_eq_true rfl)) d_Tb_road_14 ⟨by decide, by decide⟩) hS (fun q _ h => hFc q h) hFc (fun r_ u t H locs ht hvm hw hB hz1 hk1 hS => ?_)
        rw [hw]
        obtain ⟨hP, -, hD⟩ := hB
        rw [ht] at hP
        have hD := lx_dj hD hFc
        refine lv_if_eq (tgt := 38) hx hb d_Tb_road_17 (by decide) (fun c_3 => ?_) (fun c_3 => ?_)
        · have h := lf_t h c_3
          exact hB_38 y_4 S_2 _ _ _ h hP hD hS (lv_sub hl [3] rfl)
        · have h := lf_f h c_3
          refine lv_aload_n hx hb d_Tb_road_20 rfl (lv_at hl 1 rfl) ?_
          refine lv_iload hx hb d_Tb_road_21 (lv_at hl 3 rfl) ?_
          refine lv_iload_n hx hb d_Tb_road_23 rfl (lv_at hl 2 rfl) ?_
          obtain ⟨g_4, h⟩ := lf_gE h
          refine va_iast hx hb hK hP hD hS 36 2 rfl rfl g_4 d_Tb_road_24 (fun H locs hP hD hS => ?_)
          obtain ⟨S_5, eS_5, h⟩ := lf_lX h
          have hP := ly_newP eS_5 hP
          have hD := ly_newD eS_5 hD
          obtain ⟨x_6, ex_6, h⟩ := lf_lX h
          refine lv_iinc (v := x_6) (lv' := [(4, .int x_6), (0, .ref M.o_Tb), (2, .ref M.a_Ed_road), (3, .int y_3)]) hx hb d_Tb_road_25 hl (k := 3) rfl (by rw [ex_6]; rfl) (by decide) rfl (fun ls hl => ?_)
          refine lv_aload_n hx hb d_Tb_road_28 rfl (lv_at hl 1 rfl) ?_
          refine va_get (D := (dC, dI)) (ci := 4) (v := .ref M.a_Tb_next) (C := R_Tb) (T := F_Tb) (N := 10) hx hb hts (fun w h => u_Vq_Tb w (i_Tb w h)) hown hK hP 3 rfl rfl 8 (by decide) (hts _ (u_Vq_Tb _ k_Tb_14)) (fun _ h9 => h9) rfl d_Tb_road_29 ?_
          refine lv_iload_n hx hb d_Tb_road_32 rfl (lv_at hl 3 rfl) ?_
          obtain ⟨g_7, h⟩ := lf_gE h
          refine va_iald hx hb hK hP 15 2 rfl rfl g_7 d_Tb_road_33 ?_
          refine lv_topi (fun x_8 ex_8 => ?_)
          have h := lf_lE h ex_8
          refine lv_istore_n (lv' := [(3, .int x_8), (4, .int x_6), (0, .ref M.o_Tb), (2, .ref M.a_Ed_road)]) hx hb d_Tb_road_34 rfl hl (by decide) rfl (fun ls hl => ?_)
          refine lv_goto (tgt := 5) hx hb d_Tb_road_35 (by decide) ?_
          exact hr_5 x_8 x_6 S_5 _ _ _ h hP hD hS (lv_sub hl [2, 3, 0, 1] rfl)
  rw [f_Tb_road_Edroad] at h
  refine lv_iload_n hx hb d_Tb_road_0 rfl (lv_at hl 1 rfl) ?_
  refine lv_istore_n (lv' := [(3, .int p0), (0, .ref M.o_Tb), (1, .int p0), (2, .ref M.a_Ed_road)]) hx hb d_Tb_road_1 rfl hl (by decide) rfl (fun ls hl => ?_)
  refine lv_iconst (v := 0) hx hb d_Tb_road_2 (by decide) ?_
  refine lv_istore (lv' := [(4, .int 0), (3, .int p0), (0, .ref M.o_Tb), (1, .int p0), (2, .ref M.a_Ed_road)]) hx hb d_Tb_road_3 hl (by decide) rfl (fun ls hl => ?_)
  exact hB_5 K p0 0 S _ _ _ h hP hD hS (lv_sub hl [2, 4, 1, 0] rfl)
set_option maxHeartbeats 4000000 in
set_option maxRecDepth 100000 in
theorem l_Tb_slotPlace_Edroad (l : Launch) (dC : Nat → ClassId) (dI : Nat → Nat → Nat) {K : Nat} {M : CA} {E : (Nat → Prop) → State → Prop} (X : ly_X l dC dI K M E) (sz : Nat) {Y : CT} {G : CG} {S S' : CS} {p1 : Int32} {r : Int32} (h : f_Tb_slotPlace_Edroad K G S p1 = some (r, S')) : Met l y_Tb_slotPlace (.code y_Tb_slotPlace b_Tb_slotPlace 4 (some .int) :: V_Vq) ({ frames := 1, cells := 0, slots := 0, locals := 21 }) (va_Pc [.ref M.o_Tb, .ref M.a_Ed_road, .int p1] (fun U => U.heap.size = sz ∧ at_ (dC, dI) (fun _ => True) (wV M Y G S) (tV M) U ∧ E (va_A (wV M Y G S) sz) U)) (va_Qi (fun (r_ : Int32) (u : Unit) => r_ = r) (fun (u : Unit) t => at_ (dC, dI) (va_A (wV M Y G S) sz) (wV M Y G S') (tV M) t) (va_A (wV M Y G S) sz)) 0 0 (va_A (wV M Y G S) sz) := by
  refine Met.ofW (cc := b_Tb_slotPlace) (maxL := 4) (ret := (some .int)) (by decide) rfl ?_
  intro p e s m args below meth c s₁ B hml hv
  obtain ⟨rfl, hsz, ⟨hP, hK, hD0⟩, hE⟩ := hv
  have hx := B.exec
  have hb := B.bytes
  have hr := B.returns
  have hts0 := atoms_spec (ws := .code y_Tb_slotPlace b_Tb_slotPlace 4 (some .int) :: V_Vq) B.pre
  have hts : ∀ w ∈ V_Vq, w.before ([.ref M.o_Tb, .ref M.a_Ed_road, .int p1] : List Value).toArray s = true := fun w h => hts0 w (List.mem_cons_of_mem _ h)
  have hown : s.vm.findClass R_Tb = some m.cls := findClass_of_methodNamed B.named
  subst hsz
  have hD := hD0.self (sz := s.heap.size)
  generalize hAe : va_A (wV M Y G S) s.heap.size = A at hD hE ⊢
  have hA : ∀ q : Nat, s.heap.size ≤ q → A q := fun q h => by rw [← hAe]; exact Or.inr h
  have hS : va_S A s.heap s.heap [] := va_S.rf
  have hP : va_P (dC, dI) classes (wV M Y G S) s.heap := hP
  have hK : va_K (dC, dI) classes (tV M) s := hK
  have hEw : ∀ (H : Heap) (locs : List Loc), va_S A s.heap H locs → ∀ U : State, U.heap = H → s.WarmedH U.vm → E A U := fun H locs hS U hU hW => X.kept A s U H locs hE hS hU hW
  have hl := lv_entry ([.ref M.o_Tb, .ref M.a_Ed_road, .int p1]) (n := 4) (Nat.le_of_ble_eq_true rfl)
  rw [lg_entry_eq]
  generalize (lg_sl ([.ref M.o_Tb, .ref M.a_Ed_road, .int p1]) ++ List.replicate (4 - (lg_sl ([.ref M.o_Tb, .ref M.a_Ed_road, .int p1])).length) Slot.unset).toArray = ls at hl ⊢
  have hl : lv_has ls 4 [(0, .ref M.o_Tb), (1, .ref M.a_Ed_road), (2, .int p1)] := hl
  refine qabs (fun Q hQ => ?_)
  have hB_22 : ∀ (S : CS) (H : Heap) (locs : List Loc) (ls : Array Slot), f_Tb_slotPlace_Edroad_22 K G S = some (r, S') → va_P (dC, dI) classes (wV M Y G S) H → va_D A (wV M Y G S) → va_S A s.heap H locs → lv_has ls 4 [] → W p l e ({ frames := 1, cells := 0, slots := 0, locals := 21 }) s m ([.ref M.o_Tb, .ref M.a_Ed_road, .int p1] : List Value).toArray below meth c H locs 0 0 Q (F0 m 22 ls []) := by
    intro S H locs ls h hP hD hS hl
    rw [f_Tb_slotPlace_Edroad_22] at h
    refine lv_iconst (v := (-1)) hx hb d_Tb_slotPlace_22 (by decide) ?_
    rw [hQ]
    have e1 : ((-1)) = r := congrArg Prod.fst (Option.some.inj h)
    have e2 : S = S' := congrArg Prod.snd (Option.some.inj h)
    have hP := ly_newP e2.symm hP
    have hD := ly_newD e2.symm hD
    exact W.iret (v := ((-1))) hx hb hr (fun t ht hW => ⟨⟨((-1)), (), rfl, e1, by rw [ht]; exact hP, va_K.moved hW.alike hK, hD⟩, hS.F ht⟩) hS.2.2 d_Tb_slotPlace_23
  rw [f_Tb_slotPlace_Edroad] at h
  refine lv_aload_n hx hb d_Tb_slotPlace_0 rfl (lv_at hl 0 rfl) ?_
  obtain ⟨r_1, S_1, hc_1, h⟩ := lf_cE h
  have hFc := lx_free hD hS hA
  refine va_calli (va_runV (As := []) (rest := []) ⟨hx, hb, hml, hown, hts⟩ (l_Tb_slotsOfCluster l dC dI X _ hc_1) (cwV 0 hts (gwV good_Vq (u_Vq_Tb _ k_Tb_55) (u_Vq_Tb _ k_Tb_49) (u_Vq_Tb _ k_Tb_50) (u_Vq_Tb _ k_Tb_0) (wcs (u_Vq_Tb _ k_Tb_51) (fun _ h => h))) rfl rfl rfl (by decide +kernel) ⟨Nat.le_of_ble_eq_true rfl, Nat.le_of_ble_eq_true rfl⟩) (pv_ofE (X.same _) (fun U z1 z2 => X.mono _ _ U hFc (hEw _ _ hS U z1 z2)) hP hK hD (va_recv hK hP (ci := 4) (q0 := 3) rfl rfl)) rfl rfl hl.1 rfl (lv_room (Nat.le_of_ble_eq_true rfl)) d_Tb_slotPlace_1 ⟨by decide, by decide⟩) hS (fun q _ h => hFc q h) hFc (fun r_ u t H locs ht hvm hw hB hz1 hk1 hS => ?_)
  rw [hw]
  obtain ⟨hP, -, hD⟩ := hB
  rw [ht] at hP
  have hD := lx_dj hD hFc
  refine lv_istore_n (lv' := [(3, .int r_1), (0, .ref M.o_Tb), (1, .ref M.a_Ed_road), (2, .int p1)]) hx hb d_Tb_slotPlace_4 rfl hl (by decide) rfl (fun ls hl => ?_)
  refine lv_iload_n hx hb d_Tb_slotPlace_5 rfl (lv_at hl 0 rfl) ?_
  refine lv_iconst (v := 1) hx hb d_Tb_slotPlace_6 (by decide) ?_
  refine lv_icmp_lt (tgt := 22) hx hb d_Tb_slotPlace_7 (by decide) (fun c_2 => ?_) (fun c_2 => ?_)
  · have h := lf_t h c_2
    exact hB_22 S_1 _ _ _ h hP hD hS (lv_sub hl [] rfl)
  · have h := lf_f h c_2
    refine lv_iload_n hx hb d_Tb_slotPlace_10 rfl (lv_at hl 3 rfl) ?_
    refine lv_if_lt (tgt := 22) hx hb d_Tb_slotPlace_11 (by decide) (fun c_3 => ?_) (fun c_3 => ?_)
    · have h := lf_t h c_3
      exact hB_22 S_1 _ _ _ h hP hD hS (lv_sub hl [] rfl)
    · have h := lf_f h c_3
      refine lv_iload_n hx hb d_Tb_slotPlace_14 rfl (lv_at hl 3 rfl) ?_
      refine lv_iload_n hx hb d_Tb_slotPlace_15 rfl (lv_at hl 0 rfl) ?_
      obtain ⟨g_4, h⟩ := lf_gE h
      refine lv_idiv hx hb d_Tb_slotPlace_16 g_4 ?_
      refine lv_aload_n hx hb d_Tb_slotPlace_17 rfl (lv_at hl 2 rfl) ?_
      refine va_alen (v := nI (G.n / 2 + 2)) hx hb hK hP 36 2 rfl rfl rfl d_Tb_slotPlace_18 ?_
      refine lv_icmp_lt (tgt := 24) hx hb d_Tb_slotPlace_19 (by decide) (fun c_5 => ?_) (fun c_5 => ?_)
      · have h := lf_t h c_5
        refine lv_aload_n hx hb d_Tb_slotPlace_24 rfl (lv_at hl 1 rfl) ?_
        refine lv_aload_n hx hb d_Tb_slotPlace_25 rfl (lv_at hl 2 rfl) ?_
        refine lv_iload_n hx hb d_Tb_slotPlace_26 rfl (lv_at hl 3 rfl) ?_
        refine lv_iload_n hx hb d_Tb_slotPlace_27 rfl (lv_at hl 0 rfl) ?_
        obtain ⟨g_6, h⟩ := lf_gE h
        refine lv_idiv hx hb d_Tb_slotPlace_28 g_6 ?_
        obtain ⟨g_7, h⟩ := lf_gE h
        refine va_iald hx hb hK hP 36 2 rfl rfl g_7 d_Tb_slotPlace_29 ?_
        obtain ⟨r_8, S_8, hc_8, h⟩ := lf_cE h
        have hFc := lx_free hD hS hA
        refine va_calli (va_runV (As := [.int (S_1.w_Ed_road (p1 / r_1).toNatClampNeg)]) (rest := []) ⟨hx, hb, hml, hown, hts⟩ (l_Tb_place l dC dI X _ hc_8) (cwV 1 hts (gwV good_Vq (u_Vq_Tb _ k_Tb_56) (u_Vq_Tb _ k_Tb_57) (u_Vq_Tb _ k_Tb_58) (u_Vq_Tb _ k_Tb_0) (wcs (u_Vq_Tb _ k_Tb_59) (fun _ h => h))) rfl rfl rfl (by decide +kernel) ⟨Nat.le_of_ble_eq_true rfl, Nat.le_of_ble_eq_true rfl⟩) (pv_ofE (X.same _) (fun U z1 z2 => X.mono _ _ U hFc (hEw _ _ hS U z1 z2)) hP hK hD (va_recv hK hP (ci := 4) (q0 := 3) rfl rfl)) rfl rfl hl.1 rfl (lv_room (Nat.le_of_ble_eq_true rfl)) d_Tb_slotPlace_30 ⟨by decide, by decide⟩) hS (fun q _ h => hFc q h) hFc (fun r_ u t H locs ht hvm hw hB hz1 hk1 hS => ?_)
        rw [hw]
        obtain ⟨hP, -, hD⟩ := hB
        rw [ht] at hP
        have hD := lx_dj hD hFc
        refine lv_iload_n hx hb d_Tb_slotPlace_33 rfl (lv_at hl 3 rfl) ?_
        refine lv_iload_n hx hb d_Tb_slotPlace_34 rfl (lv_at hl 0 rfl) ?_
        obtain ⟨g_9, h⟩ := lf_gE h
        refine lv_irem hx hb d_Tb_slotPlace_35 g_9 ?_
        refine lv_bipush (v := 32) hx hb d_Tb_slotPlace_36 (by decide) ?_
        refine lv_imul hx hb d_Tb_slotPlace_38 ?_
        refine lv_iadd hx hb d_Tb_slotPlace_39 ?_
        rw [hQ]
        have e1 : (r_8 + ((p1 - p1 / r_1 * r_1) * 32)) = r := congrArg Prod.fst (Option.some.inj h)
        have e2 : S_8 = S' := congrArg Prod.snd (Option.some.inj h)
        have hP := ly_newP e2.symm hP
        have hD := ly_newD e2.symm hD
        exact W.iret (v := (r_8 + ((p1 - p1 / r_1 * r_1) * 32))) hx hb hr (fun t ht hW => ⟨⟨(r_8 + ((p1 - p1 / r_1 * r_1) * 32)), (), rfl, e1, by rw [ht]; exact hP, va_K.moved hW.alike hK, hD⟩, hS.F ht⟩) hS.2.2 d_Tb_slotPlace_40
      · have h := lf_f h c_5
        exact hB_22 S_1 _ _ _ h hP hD hS (lv_sub hl [] rfl)
set_option maxHeartbeats 4000000 in
set_option maxRecDepth 100000 in
theorem l_Ed_slotPlace (l : Launch) (dC : Nat → ClassId) (dI : Nat → Nat → Nat) {K : Nat} {M : CA} {E : (Nat → Prop) → State → Prop} (X : ly_X l dC dI K M E) (sz : Nat) {Y : CT} {G : CG} {S S' : CS} {p0 : Int32} {r : Int32} (h : f_Ed_slotPlace K G S p0 = some (r, S')) : Met l y_Ed_slotPlace (.code y_Ed_slotPlace cb_Ed_slotPlace 2 (some .int) :: V_Vq) ({ frames := 2, cells := 0, slots := 0, locals := 44 }) (va_Pc [.ref M.o_Ed, .int p0] (fun U => U.heap.size = sz ∧ at_ (dC, dI) (fun _ => True) (wV M Y G S) (tV M) U ∧ E (va_A (wV M Y G S) sz) U)) (va_Qi (fun (r_ : Int32) (u : Unit) => r_ = r) (fun (u : Unit) t => at_ (dC, dI) (va_A (wV M Y G S) sz) (wV M Y G S') (tV M) t) (va_A (wV M Y G S) sz)) 0 0 (va_A (wV M Y G S) sz) := by
  refine Met.ofW (cc := cb_Ed_slotPlace) (maxL := 2) (ret := (some .int)) (by decide) rfl ?_
  intro p e s m args below meth c s₁ B hml hv
  obtain ⟨rfl, hsz, ⟨hP, hK, hD0⟩, hE⟩ := hv
  have hx := B.exec
  have hb := B.bytes
  have hr := B.returns
  have hts0 := atoms_spec (ws := .code y_Ed_slotPlace cb_Ed_slotPlace 2 (some .int) :: V_Vq) B.pre
  have hts : ∀ w ∈ V_Vq, w.before ([.ref M.o_Ed, .int p0] : List Value).toArray s = true := fun w h => hts0 w (List.mem_cons_of_mem _ h)
  have hown : s.vm.findClass R_Ed = some m.cls := findClass_of_methodNamed B.named
  subst hsz
  have hD := hD0.self (sz := s.heap.size)
  generalize hAe : va_A (wV M Y G S) s.heap.size = A at hD hE ⊢
  have hA : ∀ q : Nat, s.heap.size ≤ q → A q := fun q h => by rw [← hAe]; exact Or.inr h
  have hS : va_S A s.heap s.heap [] := va_S.rf
  have hP : va_P (dC, dI) classes (wV M Y G S) s.heap := hP
  have hK : va_K (dC, dI) classes (tV M) s := hK
  have hEw : ∀ (H : Heap) (locs : List Loc), va_S A s.heap H locs → ∀ U : State, U.heap = H → s.WarmedH U.vm → E A U := fun H locs hS U hU hW => X.kept A s U H locs hE hS hU hW
  have hl := lv_entry ([.ref M.o_Ed, .int p0]) (n := 2) (Nat.le_of_ble_eq_true rfl)
  rw [lg_entry_eq]
  generalize (lg_sl ([.ref M.o_Ed, .int p0]) ++ List.replicate (2 - (lg_sl ([.ref M.o_Ed, .int p0])).length) Slot.unset).toArray = ls at hl ⊢
  have hl : lv_has ls 2 [(0, .ref M.o_Ed), (1, .int p0)] := hl
  refine qabs (fun Q hQ => ?_)
  rw [f_Ed_slotPlace] at h
  refine lv_iload_n hx hb d_Ed_slotPlace_0 rfl (lv_at hl 1 rfl) ?_
  refine lv_aload_n hx hb d_Ed_slotPlace_1 rfl (lv_at hl 0 rfl) ?_
  refine va_get (D := (dC, dI)) (ci := 8) (v := .int S.v_Ed_roadLength) (C := R_Ed) (T := F_Ed) (N := 13) hx hb hts (fun w h => u_Vq_Ed w (i_Ed w h)) hown hK hP 6 rfl rfl 4 (by decide) (hts _ (u_Vq_Ed _ k_Ed_11)) (fun _ h9 => h9) rfl d_Ed_slotPlace_2 ?_
  refine lv_aload_n hx hb d_Ed_slotPlace_5 rfl (lv_at hl 0 rfl) ?_
  refine va_get (D := (dC, dI)) (ci := 8) (v := .ref M.o_Tb) (C := R_Ed) (T := F_Ed) (N := 13) hx hb hts (fun w h => u_Vq_Ed w (i_Ed w h)) hown hK hP 6 rfl rfl 1 (by decide) (hts _ (u_Vq_Ed _ k_Ed_8)) (fun _ h9 => h9) rfl d_Ed_slotPlace_6 ?_
  obtain ⟨r_1, S_1, hc_1, h⟩ := lf_cE h
  have hFc := lx_free hD hS hA
  refine va_calli (va_runV (As := []) (rest := [.int S.v_Ed_roadLength, .int p0]) ⟨hx, hb, hml, hown, hts⟩ (l_Tb_slotsOfCluster l dC dI X _ hc_1) (cwV 0 hts (gwV good_Vq (u_Vq_Ed _ k_Ed_63) (u_Vq_Tb _ k_Tb_49) (u_Vq_Tb _ k_Tb_50) (u_Vq_Tb _ k_Tb_0) (wcs (u_Vq_Tb _ k_Tb_51) (fun _ h => h))) rfl rfl rfl (by decide +kernel) ⟨Nat.le_of_ble_eq_true rfl, Nat.le_of_ble_eq_true rfl⟩) (pv_ofE (X.same _) (fun U z1 z2 => X.mono _ _ U hFc (hEw _ _ hS U z1 z2)) hP hK hD (va_recv hK hP (ci := 4) (q0 := 3) rfl rfl)) rfl rfl hl.1 rfl (lv_room (Nat.le_of_ble_eq_true rfl)) d_Ed_slotPlace_9 ⟨by decide, by decide⟩) hS (fun q _ h => hFc q h) hFc (fun r_ u t H locs ht hvm hw hB hz1 hk1 hS => ?_)
  rw [hw]
  obtain ⟨hP, -, hD⟩ := hB
  rw [ht] at hP
  have hD := lx_dj hD hFc
  refine lv_imul hx hb d_Ed_slotPlace_12 ?_
  refine lv_icmp_ge (tgt := 31) hx hb d_Ed_slotPlace_13 (by decide) (fun c_2 => ?_) (fun c_2 => ?_)
  · have h := lf_t h c_2
    refine lv_iconst (v := (-1)) hx hb d_Ed_slotPlace_31 (by decide) ?_
    rw [hQ]
    have e1 : ((-1)) = r := congrArg Prod.fst (Option.some.inj h)
    have e2 : S_1 = S' := congrArg Prod.snd (Option.some.inj h)
    have hP := ly_newP e2.symm hP
    have hD := ly_newD e2.symm hD
    exact W.iret (v := ((-1))) hx hb hr (fun t ht hW => ⟨⟨((-1)), (), rfl, e1, by rw [ht]; exact hP, va_K.moved hW.alike hK, hD⟩, hS.F ht⟩) hS.2.2 d_Ed_slotPlace_32
  · have h := lf_f h c_2
    refine lv_aload_n hx hb d_Ed_slotPlace_16 rfl (lv_at hl 0 rfl) ?_
    refine va_get (D := (dC, dI)) (ci := 8) (v := .ref M.o_Tb) (C := R_Ed) (T := F_Ed) (N := 13) hx hb hts (fun w h => u_Vq_Ed w (i_Ed w h)) hown hK hP 6 rfl rfl 1 (by decide) (hts _ (u_Vq_Ed _ k_Ed_8)) (fun _ h9 => h9) rfl d_Ed_slotPlace_17 ?_
    refine lv_aload_n hx hb d_Ed_slotPlace_20 rfl (lv_at hl 0 rfl) ?_
    refine va_get (D := (dC, dI)) (ci := 8) (v := .ref M.a_Ed_road) (C := R_Ed) (T := F_Ed) (N := 13) hx hb hts (fun w h => u_Vq_Ed w (i_Ed w h)) hown hK hP 6 rfl rfl 3 (by decide) (hts _ (u_Vq_Ed _ k_Ed_10)) (fun _ h9 => h9) rfl d_Ed_slotPlace_21 ?_
    refine lv_iload_n hx hb d_Ed_slotPlace_24 rfl (lv_at hl 1 rfl) ?_
    obtain ⟨r_3, S_3, hc_3, h⟩ := lf_cE h
    have hFc := lx_free hD hS hA
    refine va_calli (va_runV (As := [.ref M.a_Ed_road, .int p0]) (rest := []) ⟨hx, hb, hml, hown, hts⟩ (l_Tb_slotPlace_Edroad l dC dI X _ hc_3) (cwV 2 hts (gwV good_Vq (u_Vq_Ed _ k_Ed_67) (u_Vq_Tb _ k_Tb_52) (u_Vq_Tb _ k_Tb_53) (u_Vq_Tb _ k_Tb_0) (wcs (u_Vq_Tb _ k_Tb_54) (fun _ h => h))) rfl rfl rfl (by decide +kernel) ⟨Nat.le_of_ble_eq_true rfl, Nat.le_of_ble_eq_true rfl⟩) (pv_ofE (X.same _) (fun U z1 z2 => X.mono _ _ U hFc (hEw _ _ hS U z1 z2)) hP hK hD (va_recv hK hP (ci := 4) (q0 := 3) rfl rfl)) rfl rfl hl.1 rfl (lv_room (Nat.le_of_ble_eq_true rfl)) d_Ed_slotPlace_25 ⟨by decide, by decide⟩) hS (fun q _ h => hFc q h) hFc (fun r_ u t H locs ht hvm hw hB hz1 hk1 hS => ?_)
    rw [hw]
    obtain ⟨hP, -, hD⟩ := hB
    rw [ht] at hP
    have hD := lx_dj hD hFc
    refine lv_goto (tgt := 32) hx hb d_Ed_slotPlace_28 (by decide) ?_
    rw [hQ]
    have e1 : r_3 = r := congrArg Prod.fst (Option.some.inj h)
    have e2 : S_3 = S' := congrArg Prod.snd (Option.some.inj h)
    have hP := ly_newP e2.symm hP
    have hD := ly_newD e2.symm hD
    exact W.iret (v := r_3) hx hb hr (fun t ht hW => ⟨⟨r_3, (), rfl, e1, by rw [ht]; exact hP, va_K.moved hW.alike hK, hD⟩, hS.F ht⟩) hS.2.2 d_Ed_slotPlace_32
set_option maxHeartbeats 4000000 in
set_option maxRecDepth 100000 in
theorem l_Ed_findSlots (l : Launch) (dC : Nat → ClassId) (dI : Nat → Nat → Nat) {K : Nat} {M : CA} {E : (Nat → Prop) → State → Prop} (X : ly_X l dC dI K M E) (sz : Nat) {Y : CT} {G : CG} {S S' : CS} {p0 : Int32} {p1 : Int32} {r : Int32} (h : f_Ed_findSlots K G S p0 p1 = some (r, S')) : Met l y_Ed_findSlots (.code y_Ed_findSlots cb_Ed_findSlots 8 (some .boolean) :: V_Vq) ({ frames := 3, cells := 0, slots := 0, locals := 65 }) (va_Pc [.ref M.o_Ed, .int p0, .int p1] (fun U => U.heap.size = sz ∧ at_ (dC, dI) (fun _ => True) (wV M Y G S) (tV M) U ∧ E (va_A (wV M Y G S) sz) U)) (va_Qi (fun (r_ : Int32) (u : Unit) => r_ = r) (fun (u : Unit) t => at_ (dC, dI) (va_A (wV M Y G S) sz) (wV M Y G S') (tV M) t) (va_A (wV M Y G S) sz)) 0 0 (va_A (wV M Y G S) sz) := by
  refine Met.ofW (cc := cb_Ed_findSlots) (maxL := 8) (ret := (some .boolean)) (by decide) rfl ?_
  intro p e s m args below meth c s₁ B hml hv
  obtain ⟨rfl, hsz, ⟨hP, hK, hD0⟩, hE⟩ := hv
  have hx := B.exec
  have hb := B.bytes
  have hr := B.returns
  have hts0 := atoms_spec (ws := .code y_Ed_findSlots cb_Ed_findSlots 8 (some .boolean) :: V_Vq) B.pre
  have hts : ∀ w ∈ V_Vq, w.before ([.ref M.o_Ed, .int p0, .int p1] : List Value).toArray s = true := fun w h => hts0 w (List.mem_cons_of_mem _ h)
  have hown : s.vm.findClass R_Ed = some m.cls := findClass_of_methodNamed B.named
  subst hsz
  have hD := hD0.self (sz := s.heap.size)
  generalize hAe : va_A (wV M Y G S) s.heap.size = A at hD hE ⊢
  have hA : ∀ q : Nat, s.heap.size ≤ q → A q := fun q h => by rw [← hAe]; exact Or.inr h
  have hS : va_S A s.heap s.heap [] := va_S.rf
  have hP : va_P (dC, dI) classes (wV M Y G S) s.heap := hP
  have hK : va_K (dC, dI) classes (tV M) s := hK
  have hEw : ∀ (H : Heap) (locs : List Loc), va_S A s.heap H locs → ∀ U : State, U.heap = H → s.WarmedH U.vm → E A U := fun H locs hS U hU hW => X.kept A s U H locs hE hS hU hW
  have hl := lv_entry ([.ref M.o_Ed, .int p0, .int p1]) (n := 8) (Nat.le_of_ble_eq_true rfl)
  rw [lg_entry_eq]
  generalize (lg_sl ([.ref M.o_Ed, .int p0, .int p1]) ++ List.replicate (8 - (lg_sl ([.ref M.o_Ed, .int p0, .int p1])).length) Slot.unset).toArray = ls at hl ⊢
  have hl : lv_has ls 8 [(0, .ref M.o_Ed), (1, .int p0), (2, .int p1)] := hl
  refine qabs (fun Q hQ => ?_)
  have hB_231 : ∀ (z_0 : Int32) (z_1 : Int32) (S : CS) (H : Heap) (locs : List Loc) (ls : Array Slot), f_Ed_findSlots_231 K G z_0 z_1 S = some (r, S') → va_P (dC, dI) classes (wV M Y G S) H → va_D A (wV M Y G S) → va_S A s.heap H locs → lv_has ls 8 [(0, .ref M.o_Ed)] → W p l e ({ frames := 3, cells := 0, slots := 0, locals := 65 }) s m ([.ref M.o_Ed, .int p0, .int p1] : List Value).toArray below meth c H locs 0 0 Q (F0 m 231 ls [.int z_1, .int z_0]) := by
    intro z_0 z_1 S H locs ls h hP hD hS hl
    rw [f_Ed_findSlots_231] at h
    refine lv_iadd hx hb d_Ed_findSlots_231 ?_
    refine lv_aload_n hx hb d_Ed_findSlots_232 rfl (lv_at hl 0 rfl) ?_
    refine va_get (D := (dC, dI)) (ci := 8) (v := .ref M.o_Tb) (C := R_Ed) (T := F_Ed) (N := 13) hx hb hts (fun w h => u_Vq_Ed w (i_Ed w h)) hown hK hP 6 rfl rfl 1 (by decide) (hts _ (u_Vq_Ed _ k_Ed_8)) (fun _ h9 => h9) rfl d_Ed_findSlots_233 ?_
    obtain ⟨r_26, S_26, hc_26, h⟩ := lf_cE h
    have hFc := lx_free hD hS hA
    refine va_calli (va_runV (As := []) (rest := [.int (z_0 + z_1)]) ⟨hx, hb, hml, hown, hts⟩ (l_Tb_countFree l dC dI X _ hc_26) (cwV 0 hts (gwV good_Vq (u_Vq_Ed _ k_Ed_68) (u_Vq_Tb _ k_Tb_100) (u_Vq_Tb _ k_Tb_101) (u_Vq_Tb _ k_Tb_0) (wcs (u_Vq_Tb _ k_Tb_102) (fun _ h => h))) rfl rfl rfl (by decide +kernel) ⟨Nat.le_of_ble_eq_true rfl, Nat.le_of_ble_eq_true rfl⟩) (pv_ofE (X.same _) (fun U z1 z2 => X.mono _ _ U hFc (hEw _ _ hS U z1 z2)) hP hK hD (va_recv hK hP (ci := 4) (q0 := 3) rfl rfl)) rfl rfl hl.1 rfl (lv_room (Nat.le_of_ble_eq_true rfl)) d_Ed_findSlots_236 ⟨by decide, by decide⟩) hS (fun q _ h => hFc q h) hFc (fun r_ u t H locs ht hvm hw hB hz1 hk1 hS => ?_)
    rw [hw]
    obtain ⟨hP, -, hD⟩ := hB
    rw [ht] at hP
    have hD := lx_dj hD hFc
    refine lv_icmp_gt (tgt := 246) hx hb d_Ed_findSlots_239 (by decide) (fun c_27 => ?_) (fun c_27 => ?_)
    · have h := lf_t h c_27
      refine lv_iconst (v := 0) hx hb d_Ed_findSlots_246 (by decide) ?_
      rw [hQ]
      have e1 : (0 : Int32) = r := congrArg Prod.fst (Option.some.inj h)
      have e2 : S_26 = S' := congrArg Prod.snd (Option.some.inj h)
      have hP := ly_newP e2.symm hP
      have hD := ly_newD e2.symm hD
      exact W.zret (v := 0) hx hb hr rfl (fun t ht hW => ⟨⟨0, (), rfl, e1, by rw [ht]; exact hP, va_K.moved hW.alike hK, hD⟩, hS.F ht⟩) hS.2.2 d_Ed_findSlots_247
    · have h := lf_f h c_27
      refine lv_iconst (v := 1) hx hb d_Ed_findSlots_242 (by decide) ?_
      refine lv_goto (tgt := 247) hx hb d_Ed_findSlots_243 (by decide) ?_
      rw [hQ]
      have e1 : (1 : Int32) = r := congrArg Prod.fst (Option.some.inj h)
      have e2 : S_26 = S' := congrArg Prod.snd (Option.some.inj h)
      have hP := ly_newP e2.symm hP
      have hD := ly_newD e2.symm hD
      exact W.zret (v := 1) hx hb hr rfl (fun t ht hW => ⟨⟨1, (), rfl, e1, by rw [ht]; exact hP, va_K.moved hW.alike hK, hD⟩, hS.F ht⟩) hS.2.2 d_Ed_findSlots_247
  have hB_218 : ∀ (y_2 : Int32) (S : CS) (H : Heap) (locs : List Loc) (ls : Array Slot), f_Ed_findSlots_218 K G y_2 S = some (r, S') → va_P (dC, dI) classes (wV M Y G S) H → va_D A (wV M Y G S) → va_S A s.heap H locs → lv_has ls 8 [(0, .ref M.o_Ed), (2, .int y_2)] → W p l e ({ frames := 3, cells := 0, slots := 0, locals := 65 }) s m ([.ref M.o_Ed, .int p0, .int p1] : List Value).toArray below meth c H locs 0 0 Q (F0 m 218 ls []) := by
    intro y_2 S H locs ls h hP hD hS hl
    rw [f_Ed_findSlots_218] at h
    refine lv_aload_n hx hb d_Ed_findSlots_218 rfl (lv_at hl 0 rfl) ?_
    refine va_get (D := (dC, dI)) (ci := 8) (v := .int S.v_Ed_wanted) (C := R_Ed) (T := F_Ed) (N := 13) hx hb hts (fun w h => u_Vq_Ed w (i_Ed w h)) hown hK hP 6 rfl rfl 12 (by decide) (hts _ (u_Vq_Ed _ k_Ed_19)) (fun _ h9 => h9) rfl d_Ed_findSlots_219 ?_
    refine lv_iload_n hx hb d_Ed_findSlots_222 rfl (lv_at hl 1 rfl) ?_
    refine lv_if_eq (tgt := 230) hx hb d_Ed_findSlots_223 (by decide) (fun c_21 => ?_) (fun c_21 => ?_)
    · have h := lf_t h c_21
      refine lv_iconst (v := 0) hx hb d_Ed_findSlots_230 (by decide) ?_
      exact hB_231 S.v_Ed_wanted 0 S _ _ _ h hP hD hS (lv_sub hl [0] rfl)
    · have h := lf_f h c_21
      refine lv_iconst (v := 1) hx hb d_Ed_findSlots_226 (by decide) ?_
      refine lv_goto (tgt := 231) hx hb d_Ed_findSlots_227 (by decide) ?_
      exact hB_231 S.v_Ed_wanted 1 S _ _ _ h hP hD hS (lv_sub hl [0] rfl)
  have hB_215 : ∀ (y_2 : Int32) (z_1 : Int32) (S : CS) (H : Heap) (locs : List Loc) (ls : Array Slot), f_Ed_findSlots_215 K G y_2 z_1 S = some (r, S') → va_P (dC, dI) classes (wV M Y G S) H → va_D A (wV M Y G S) → va_S A s.heap H locs → lv_has ls 8 [(0, .ref M.o_Ed), (2, .int y_2)] → W p l e ({ frames := 3, cells := 0, slots := 0, locals := 65 }) s m ([.ref M.o_Ed, .int p0, .int p1] : List Value).toArray below meth c H locs 0 0 Q (F0 m 215 ls [.int z_1, .ref M.o_Ed]) := by
    intro y_2 z_1 S H locs ls h hP hD hS hl
    rw [f_Ed_findSlots_215] at h
    refine va_put (D := (dC, dI)) (ci := 8) (v := .int z_1) (ty := .int) (C := R_Ed) (T := F_Ed) (N := 13) hx hb hts (fun w h => u_Vq_Ed w (i_Ed w h)) t_Ed t_Ed_ok n_Ed hown hK hP hD hS 6 rfl rfl 12 (by decide) (hts _ (u_Vq_Ed _ k_Ed_19)) (fun _ h9 => h9) rfl (by decide +kernel) rfl rfl (Nat.le_of_ble_eq_true rfl) d_Ed_findSlots_215 (fun H locs hP hD hS => ?_)
    obtain ⟨S_22, eS_22, h⟩ := lf_lX h
    have hP := ly_newP eS_22 hP
    have hD := ly_newD eS_22 hD
    exact hB_218 y_2 S_22 _ _ _ h hP hD hS (lv_sub hl [0, 1] rfl)
  have hB_183 : ∀ (y_2 : Int32) (y_3 : Int32) (y_5 : Int32) (S : CS) (H : Heap) (locs : List Loc) (ls : Array Slot), f_Ed_findSlots_183 K G y_2 y_3 y_5 S = some (r, S') → va_P (dC, dI) classes (wV M Y G S) H → va_D A (wV M Y G S) → va_S A s.heap H locs → lv_has ls 8 [(0, .ref M.o_Ed), (2, .int y_2), (3, .int y_3), (5, .int y_5)] → W p l e ({ frames := 3, cells := 0, slots := 0, locals := 65 }) s m ([.ref M.o_Ed, .int p0, .int p1] : List Value).toArray below meth c H locs 0 0 Q (F0 m 183 ls []) := by
    intro y_2 y_3 y_5 S H locs ls h hP hD hS hl
    rw [f_Ed_findSlots_183] at h
    refine lv_iload hx hb d_Ed_findSlots_183 (lv_at hl 3 rfl) ?_
    refine lv_aload_n hx hb d_Ed_findSlots_185 rfl (lv_at hl 0 rfl) ?_
    refine va_get (D := (dC, dI)) (ci := 8) (v := .int S.v_Ed_slots) (C := R_Ed) (T := F_Ed) (N := 13) hx hb hts (fun w h => u_Vq_Ed w (i_Ed w h)) hown hK hP 6 rfl rfl 10 (by decide) (hts _ (u_Vq_Ed _ k_Ed_17)) (fun _ h9 => h9) rfl d_Ed_findSlots_186 ?_
    refine lv_icmp_ge (tgt := 218) hx hb d_Ed_findSlots_189 (by decide) (fun c_16 => ?_) (fun c_16 => ?_)
    · have h := lf_t h c_16
      exact hB_218 y_2 S _ _ _ h hP hD hS (lv_sub hl [0, 1] rfl)
    · have h := lf_f h c_16
      refine lv_aload_n hx hb d_Ed_findSlots_192 rfl (lv_at hl 0 rfl) ?_
      refine lv_iload_n hx hb d_Ed_findSlots_193 rfl (lv_at hl 2 rfl) ?_
      refine lv_iconst (v := 1) hx hb d_Ed_findSlots_194 (by decide) ?_
      refine lv_icmp_ge (tgt := 202) hx hb d_Ed_findSlots_195 (by decide) (fun c_17 => ?_) (fun c_17 => ?_)
      · have h := lf_t h c_17
        refine lv_aload_n hx hb d_Ed_findSlots_202 rfl (lv_at hl 0 rfl) ?_
        refine va_get (D := (dC, dI)) (ci := 8) (v := .int S.v_Ed_slots) (C := R_Ed) (T := F_Ed) (N := 13) hx hb hts (fun w h => u_Vq_Ed w (i_Ed w h)) hown hK hP 6 rfl rfl 10 (by decide) (hts _ (u_Vq_Ed _ k_Ed_17)) (fun _ h9 => h9) rfl d_Ed_findSlots_203 ?_
        refine lv_iload hx hb d_Ed_findSlots_206 (lv_at hl 3 rfl) ?_
        refine lv_isub hx hb d_Ed_findSlots_208 ?_
        refine lv_iload_n hx hb d_Ed_findSlots_209 rfl (lv_at hl 2 rfl) ?_
        refine lv_iadd hx hb d_Ed_findSlots_210 ?_
        refine lv_iconst (v := 1) hx hb d_Ed_findSlots_211 (by decide) ?_
        refine lv_isub hx hb d_Ed_findSlots_212 ?_
        refine lv_iload_n hx hb d_Ed_findSlots_213 rfl (lv_at hl 2 rfl) ?_
        obtain ⟨g_18, h⟩ := lf_gE h
        refine lv_idiv hx hb d_Ed_findSlots_214 g_18 ?_
        exact hB_215 y_2 ((((S.v_Ed_slots - y_5) + y_3) - 1) / y_3) S _ _ _ h hP hD hS (lv_sub hl [0, 1] rfl)
      · have h := lf_f h c_17
        refine lv_iconst (v := 0) hx hb d_Ed_findSlots_198 (by decide) ?_
        refine lv_goto (tgt := 215) hx hb d_Ed_findSlots_199 (by decide) ?_
        exact hB_215 y_2 0 S _ _ _ h hP hD hS (lv_sub hl [0, 1] rfl)
  have hB_152 : ∀ (rec_85 : Int32 → Int32 → Int32 → Int32 → Int32 → CS → Option (Int32 × CS)) (hr_85 : ∀ (y_2 : Int32) (y_3 : Int32) (y_4 : Int32) (y_5 : Int32) (y_6 : Int32) (S : CS) (H : Heap) (locs : List Loc) (ls : Array Slot), rec_85 y_2 y_3 y_4 y_5 y_6 S = some (r, S') → va_P (dC, dI) classes (wV M Y G S) H → va_D A (wV M Y G S) → va_S A s.heap H locs → lv_has ls 8 [(0, .ref M.o_Ed), (2, .int y_2), (3, .int y_3), (4, .int y_4), (5, .int y_5), (6, .int y_6)] → W p l e ({ frames := 3, cells := 0, slots := 0, locals := 65 }) s m ([.ref M.o_Ed, .int p0, .int p1] : List Value).toArray below meth c H locs 0 0 Q (F0 m 85 ls [])), ∀ (y_2 : Int32) (y_3 : Int32) (y_4 : Int32) (y_6 : Int32) (z_0 : Int32) (S : CS) (H : Heap) (locs : List Loc) (ls : Array Slot), f_Ed_findSlots_152 K G rec_85 y_2 y_3 y_4 y_6 z_0 S = some (r, S') → va_P (dC, dI) classes (wV M Y G S) H → va_D A (wV M Y G S) → va_S A s.heap H locs → lv_has ls 8 [(0, .ref M.o_Ed), (2, .int y_2), (3, .int y_3), (4, .int y_4), (6, .int y_6)] → W p l e ({ frames := 3, cells := 0, slots := 0, locals := 65 }) s m ([.ref M.o_Ed, .int p0, .int p1] : List Value).toArray below meth c H locs 0 0 Q (F0 m 152 ls [.int z_0]) := by
    intro rec_85 hr_85 y_2 y_3 y_4 y_6 z_0 S H locs ls h hP hD hS hl
    rw [f_Ed_findSlots_152] at h
    refine lv_istore (lv' := [(5, .int z_0), (0, .ref M.o_Ed), (2, .int y_2), (3, .int y_3), (4, .int y_4), (6, .int y_6)]) hx hb d_Ed_findSlots_152 hl (by decide) rfl (fun ls hl => ?_)
    refine lv_aload_n hx hb d_Ed_findSlots_154 rfl (lv_at hl 1 rfl) ?_
    refine lv_iload hx hb d_Ed_findSlots_155 (lv_at hl 5 rfl) ?_
    refine lv_iconst (v := 1) hx hb d_Ed_findSlots_157 (by decide) ?_
    refine lv_iadd hx hb d_Ed_findSlots_158 ?_
    refine lv_iload hx hb d_Ed_findSlots_159 (lv_at hl 0 rfl) ?_
    refine lv_isub hx hb d_Ed_findSlots_161 ?_
    refine va_put (D := (dC, dI)) (ci := 8) (v := .int ((y_6 + 1) - z_0)) (ty := .int) (C := R_Ed) (T := F_Ed) (N := 13) hx hb hts (fun w h => u_Vq_Ed w (i_Ed w h)) t_Ed t_Ed_ok n_Ed hown hK hP hD hS 6 rfl rfl 9 (by decide) (hts _ (u_Vq_Ed _ k_Ed_16)) (fun _ h9 => h9) rfl (by decide +kernel) rfl rfl (Nat.le_of_ble_eq_true rfl) d_Ed_findSlots_162 (fun H locs hP hD hS => ?_)
    obtain ⟨S_23, eS_23, h⟩ := lf_lX h
    have hP := ly_newP eS_23 hP
    have hD := ly_newD eS_23 hD
    refine lv_iload hx hb d_Ed_findSlots_165 (lv_at hl 0 rfl) ?_
    refine lv_aload_n hx hb d_Ed_findSlots_167 rfl (lv_at hl 1 rfl) ?_
    refine va_get (D := (dC, dI)) (ci := 8) (v := .int S_23.v_Ed_slots) (C := R_Ed) (T := F_Ed) (N := 13) hx hb hts (fun w h => u_Vq_Ed w (i_Ed w h)) hown hK hP 6 rfl rfl 10 (by decide) (hts _ (u_Vq_Ed _ k_Ed_17)) (fun _ h9 => h9) rfl d_Ed_findSlots_168 ?_
    refine lv_icmp_ne (tgt := 177) hx hb d_Ed_findSlots_171 (by decide) (fun c_24 => ?_) (fun c_24 => ?_)
    · have h := lf_f h c_24
      obtain ⟨x_25, ex_25, h⟩ := lf_lX h
      refine lv_iinc (v := x_25) (lv' := [(6, .int x_25), (5, .int z_0), (0, .ref M.o_Ed), (2, .int y_2), (3, .int y_3), (4, .int y_4)]) hx hb d_Ed_findSlots_177 hl (k := 5) rfl (by rw [ex_25]; rfl) (by decide) rfl (fun ls hl => ?_)
      refine lv_goto (tgt := 85) hx hb d_Ed_findSlots_180 (by decide) ?_
      exact hr_85 y_2 y_3 y_4 z_0 x_25 S_23 _ _ _ h hP hD hS (lv_sub hl [2, 3, 4, 5, 1, 0] rfl)
    · have h := lf_t h c_24
      refine lv_goto (tgt := 183) hx hb d_Ed_findSlots_174 (by decide) ?_
      exact hB_183 y_2 y_3 z_0 S_23 _ _ _ h hP hD hS (lv_sub hl [1, 2, 3, 0] rfl)
  have hB_144 : ∀ (rec_85 : Int32 → Int32 → Int32 → Int32 → Int32 → CS → Option (Int32 × CS)) (hr_85 : ∀ (y_2 : Int32) (y_3 : Int32) (y_4 : Int32) (y_5 : Int32) (y_6 : Int32) (S : CS) (H : Heap) (locs : List Loc) (ls : Array Slot), rec_85 y_2 y_3 y_4 y_5 y_6 S = some (r, S') → va_P (dC, dI) classes (wV M Y G S) H → va_D A (wV M Y G S) → va_S A s.heap H locs → lv_has ls 8 [(0, .ref M.o_Ed), (2, .int y_2), (3, .int y_3), (4, .int y_4), (5, .int y_5), (6, .int y_6)] → W p l e ({ frames := 3, cells := 0, slots := 0, locals := 65 }) s m ([.ref M.o_Ed, .int p0, .int p1] : List Value).toArray below meth c H locs 0 0 Q (F0 m 85 ls [])), ∀ (y_2 : Int32) (y_3 : Int32) (y_4 : Int32) (y_5 : Int32) (y_6 : Int32) (S : CS) (H : Heap) (locs : List Loc) (ls : Array Slot), f_Ed_findSlots_144 K G rec_85 y_2 y_3 y_4 y_5 y_6 S = some (r, S') → va_P (dC, dI) classes (wV M Y G S) H → va_D A (wV M Y G S) → va_S A s.heap H locs → lv_has ls 8 [(0, .ref M.o_Ed), (2, .int y_2), (3, .int y_3), (4, .int y_4), (5, .int y_5), (6, .int y_6)] → W p l e ({ frames := 3, cells := 0, slots := 0, locals := 65 }) s m ([.ref M.o_Ed, .int p0, .int p1] : List Value).toArray below meth c H locs 0 0 Q (F0 m 144 ls []) := by
    intro rec_85 hr_85 y_2 y_3 y_4 y_5 y_6 S H locs ls h hP hD hS hl
    rw [f_Ed_findSlots_144] at h
    refine lv_iload hx hb d_Ed_findSlots_144 (lv_at hl 4 rfl) ?_
    refine lv_iconst (v := 1) hx hb d_Ed_findSlots_146 (by decide) ?_
    refine lv_iadd hx hb d_Ed_findSlots_147 ?_
    refine lv_goto (tgt := 152) hx hb d_Ed_findSlots_148 (by decide) ?_
    exact hB_152 _ hr_85 y_2 y_3 y_4 y_6 (y_5 + 1) S _ _ _ h hP hD hS (lv_sub hl [0, 1, 2, 3, 5] rfl)
  have hB_127 : ∀ (rec_85 : Int32 → Int32 → Int32 → Int32 → Int32 → CS → Option (Int32 × CS)) (hr_85 : ∀ (y_2 : Int32) (y_3 : Int32) (y_4 : Int32) (y_5 : Int32) (y_6 : Int32) (S : CS) (H : Heap) (locs : List Loc) (ls : Array Slot), rec_85 y_2 y_3 y_4 y_5 y_6 S = some (r, S') → va_P (dC, dI) classes (wV M Y G S) H → va_D A (wV M Y G S) → va_S A s.heap H locs → lv_has ls 8 [(0, .ref M.o_Ed), (2, .int y_2), (3, .int y_3), (4, .int y_4), (5, .int y_5), (6, .int y_6)] → W p l e ({ frames := 3, cells := 0, slots := 0, locals := 65 }) s m ([.ref M.o_Ed, .int p0, .int p1] : List Value).toArray below meth c H locs 0 0 Q (F0 m 85 ls [])), ∀ (y_2 : Int32) (y_3 : Int32) (y_4 : Int32) (y_5 : Int32) (y_6 : Int32) (y_7 : Int32) (S : CS) (H : Heap) (locs : List Loc) (ls : Array Slot), f_Ed_findSlots_127 K G rec_85 y_2 y_3 y_4 y_5 y_6 y_7 S = some (r, S') → va_P (dC, dI) classes (wV M Y G S) H → va_D A (wV M Y G S) → va_S A s.heap H locs → lv_has ls 8 [(0, .ref M.o_Ed), (2, .int y_2), (3, .int y_3), (4, .int y_4), (5, .int y_5), (6, .int y_6), (7, .int y_7)] → W p l e ({ frames := 3, cells := 0, slots := 0, locals := 65 }) s m ([.ref M.o_Ed, .int p0, .int p1] : List Value).toArray below meth c H locs 0 0 Q (F0 m 127 ls []) := by
    intro rec_85 hr_85 y_2 y_3 y_4 y_5 y_6 y_7 S H locs ls h hP hD hS hl
    rw [f_Ed_findSlots_127] at h
    refine lv_iload hx hb d_Ed_findSlots_127 (lv_at hl 6 rfl) ?_
    refine lv_sipush (v := 229) hx hb d_Ed_findSlots_129 (by decide) ?_
    refine lv_icmp_eq (tgt := 144) hx hb d_Ed_findSlots_132 (by decide) (fun c_19 => ?_) (fun c_19 => ?_)
    · have h := lf_t h c_19
      exact hB_144 _ hr_85 y_2 y_3 y_4 y_5 y_6 S _ _ _ h hP hD hS (lv_sub hl [0, 1, 2, 3, 4, 5] rfl)
    · have h := lf_f h c_19
      refine lv_iload hx hb d_Ed_findSlots_135 (lv_at hl 5 rfl) ?_
      refine lv_aload_n hx hb d_Ed_findSlots_137 rfl (lv_at hl 0 rfl) ?_
      refine va_get (D := (dC, dI)) (ci := 8) (v := .int S.v_Ed_unseen) (C := R_Ed) (T := F_Ed) (N := 13) hx hb hts (fun w h => u_Vq_Ed w (i_Ed w h)) hown hK hP 6 rfl rfl 11 (by decide) (hts _ (u_Vq_Ed _ k_Ed_18)) (fun _ h9 => h9) rfl d_Ed_findSlots_138 ?_
      refine lv_icmp_lt (tgt := 151) hx hb d_Ed_findSlots_141 (by decide) (fun c_20 => ?_) (fun c_20 => ?_)
      · have h := lf_t h c_20
        refine lv_iconst (v := 0) hx hb d_Ed_findSlots_151 (by decide) ?_
        exact hB_152 _ hr_85 y_2 y_3 y_4 y_6 0 S _ _ _ h hP hD hS (lv_sub hl [0, 1, 2, 3, 5] rfl)
      · have h := lf_f h c_20
        exact hB_144 _ hr_85 y_2 y_3 y_4 y_5 y_6 S _ _ _ h hP hD hS (lv_sub hl [0, 1, 2, 3, 4, 5] rfl)
  have hB_85 : ∀ (k : Nat), ∀ (y_2 : Int32) (y_3 : Int32) (y_4 : Int32) (y_5 : Int32) (y_6 : Int32) (S : CS) (H : Heap) (locs : List Loc) (ls : Array Slot), f_Ed_findSlots_85 K G k y_2 y_3 y_4 y_5 y_6 S = some (r, S') → va_P (dC, dI) classes (wV M Y G S) H → va_D A (wV M Y G S) → va_S A s.heap H locs → lv_has ls 8 [(0, .ref M.o_Ed), (2, .int y_2), (3, .int y_3), (4, .int y_4), (5, .int y_5), (6, .int y_6)] → W p l e ({ frames := 3, cells := 0, slots := 0, locals := 65 }) s m ([.ref M.o_Ed, .int p0, .int p1] : List Value).toArray below meth c H locs 0 0 Q (F0 m 85 ls []) := by
    intro k
    induction k with
    | zero => intro y_2 y_3 y_4 y_5 y_6 S H locs ls h; exact lf_no h
    | succ k hr_85 =>
      intro y_2 y_3 y_4 y_5 y_6 S H locs ls h hP hD hS hl
      rw [f_Ed_findSlots_85] at h
      refine lv_iload hx hb d_Ed_findSlots_85 (lv_at hl 5 rfl) ?_
      refine lv_iload hx hb d_Ed_findSlots_87 (lv_at hl 3 rfl) ?_
      refine lv_icmp_ge (tgt := 183) hx hb d_Ed_findSlots_89 (by decide) (fun c_10 => ?_) (fun c_10 => ?_)
      · have h := lf_t h c_10
        exact hB_183 y_2 y_3 y_5 S _ _ _ h hP hD hS (lv_sub hl [0, 1, 2, 4] rfl)
      · have h := lf_f h c_10
        refine lv_aload_n hx hb d_Ed_findSlots_92 rfl (lv_at hl 0 rfl) ?_
        refine va_get (D := (dC, dI)) (ci := 8) (v := .ref M.o_Dk) (C := R_Ed) (T := F_Ed) (N := 13) hx hb hts (fun w h => u_Vq_Ed w (i_Ed w h)) hown hK hP 6 rfl rfl 0 (by decide) (hts _ (u_Vq_Ed _ k_Ed_7)) (fun _ h9 => h9) rfl d_Ed_findSlots_93 ?_
        refine lv_aload_n hx hb d_Ed_findSlots_96 rfl (lv_at hl 0 rfl) ?_
        refine lv_iload hx hb d_Ed_findSlots_97 (lv_at hl 5 rfl) ?_
        obtain ⟨r_11, S_11, hc_11, h⟩ := lf_cE h
        have hFc := lx_free hD hS hA
        refine va_calli (va_runV (As := [.int y_6]) (rest := [.ref M.o_Dk]) ⟨hx, hb, hml, hown, hts⟩ (l_Ed_slotPlace l dC dI X _ hc_11) (cwV 1 hts (gwV good_Vq (u_Vq_Ed _ k_Ed_64) (u_Vq_Ed _ k_Ed_65) (u_Vq_Ed _ k_Ed_136) (u_Vq_Ed _ k_Ed_0) (wcs (u_Vq_Ed _ k_Ed_66) (fun _ h => h))) rfl rfl rfl (by decide +kernel) ⟨Nat.le_of_ble_eq_true rfl, Nat.le_of_ble_eq_true rfl⟩) (pv_ofE (X.same _) (fun U z1 z2 => X.mono _ _ U hFc (hEw _ _ hS U z1 z2)) hP hK hD (va_recv hK hP (ci := 8) (q0 := 6) rfl rfl)) rfl rfl hl.1 rfl (lv_room (Nat.le_of_ble_eq_true rfl)) d_Ed_findSlots_99 ⟨by decide, by decide⟩) hS (fun q _ h => hFc q h) hFc (fun r_ u t H locs ht hvm hw hB hz1 hk1 hS => ?_)
        rw [hw]
        obtain ⟨hP, -, hD⟩ := hB
        rw [ht] at hP
        have hD := lx_dj hD hFc
        obtain ⟨r_12, S_12, hc_12, h⟩ := lf_cE h
        have hFc := lx_free hD hS hA
        refine va_calli (va_runV (As := [.int r_11]) (rest := []) ⟨hx, hb, hml, hown, hts⟩ (l_Dk_one l dC dI X _ hc_12) (cwV 1 hts (gwV good_Vq (u_Vq_Ed _ k_Ed_59) (u_Vq_Dk _ k_Dk_20) (u_Vq_Dk _ k_Dk_21) (u_Vq_Dk _ k_Dk_0) (wcs (u_Vq_Dk _ k_Dk_22) (fun _ h => h))) rfl rfl rfl (by decide +kernel) ⟨Nat.le_of_ble_eq_true rfl, Nat.le_of_ble_eq_true rfl⟩) (pv_ofE (X.same _) (fun U z1 z2 => X.mono _ _ U hFc (hEw _ _ hS U z1 z2)) hP hK hD (va_recv hK hP (ci := 0) (q0 := 1) rfl rfl)) rfl rfl hl.1 rfl (lv_room (Nat.le_of_ble_eq_true rfl)) d_Ed_findSlots_102 ⟨by decide, by decide⟩) hS (fun q _ h => hFc q h) hFc (fun r_ u t H locs ht hvm hw hB hz1 hk1 hS => ?_)
        rw [hw]
        obtain ⟨hP, -, hD⟩ := hB
        rw [ht] at hP
        have hD := lx_dj hD hFc
        refine lv_istore (lv' := [(7, .int r_12), (0, .ref M.o_Ed), (2, .int y_2), (3, .int y_3), (4, .int y_4), (5, .int y_5), (6, .int y_6)]) hx hb d_Ed_findSlots_105 hl (by decide) rfl (fun ls hl => ?_)
        refine lv_iload hx hb d_Ed_findSlots_107 (lv_at hl 0 rfl) ?_
        refine lv_if_ne (tgt := 127) hx hb d_Ed_findSlots_109 (by decide) (fun c_13 => ?_) (fun c_13 => ?_)
        · have h := lf_f h c_13
          exact hB_127 _ hr_85 y_2 y_3 y_4 y_5 y_6 r_12 S_12 _ _ _ h hP hD hS (lv_sub hl [1, 2, 3, 4, 5, 6, 0] rfl)
        · have h := lf_t h c_13
          refine lv_aload_n hx hb d_Ed_findSlots_112 rfl (lv_at hl 1 rfl) ?_
          refine va_get (D := (dC, dI)) (ci := 8) (v := .int S_12.v_Ed_unseen) (C := R_Ed) (T := F_Ed) (N := 13) hx hb hts (fun w h => u_Vq_Ed w (i_Ed w h)) hown hK hP 6 rfl rfl 11 (by decide) (hts _ (u_Vq_Ed _ k_Ed_18)) (fun _ h9 => h9) rfl d_Ed_findSlots_113 ?_
          refine lv_iload hx hb d_Ed_findSlots_116 (lv_at hl 4 rfl) ?_
          refine lv_icmp_ne (tgt := 127) hx hb d_Ed_findSlots_118 (by decide) (fun c_14 => ?_) (fun c_14 => ?_)
          · have h := lf_f h c_14
            exact hB_127 _ hr_85 y_2 y_3 y_4 y_5 y_6 r_12 S_12 _ _ _ h hP hD hS (lv_sub hl [1, 2, 3, 4, 5, 6, 0] rfl)
          · have h := lf_t h c_14
            refine lv_aload_n hx hb d_Ed_findSlots_121 rfl (lv_at hl 1 rfl) ?_
            refine lv_iload hx hb d_Ed_findSlots_122 (lv_at hl 6 rfl) ?_
            refine va_put (D := (dC, dI)) (ci := 8) (v := .int y_6) (ty := .int) (C := R_Ed) (T := F_Ed) (N := 13) hx hb hts (fun w h => u_Vq_Ed w (i_Ed w h)) t_Ed t_Ed_ok n_Ed hown hK hP hD hS 6 rfl rfl 11 (by decide) (hts _ (u_Vq_Ed _ k_Ed_18)) (fun _ h9 => h9) rfl (by decide +kernel) rfl rfl (Nat.le_of_ble_eq_true rfl) d_Ed_findSlots_124 (fun H locs hP hD hS => ?_)
            obtain ⟨S_15, eS_15, h⟩ := lf_lX h
            have hP := ly_newP eS_15 hP
            have hD := ly_newD eS_15 hD
            exact hB_127 _ hr_85 y_2 y_3 y_4 y_5 y_6 r_12 S_15 _ _ _ h hP hD hS (lv_sub hl [1, 2, 3, 4, 5, 6, 0] rfl)
  have hB_26 : ∀ (y_1 : Int32) (y_2 : Int32) (z_1 : Int32) (S : CS) (H : Heap) (locs : List Loc) (ls : Array Slot), f_Ed_findSlots_26 K G y_1 y_2 z_1 S = some (r, S') → va_P (dC, dI) classes (wV M Y G S) H → va_D A (wV M Y G S) → va_S A s.heap H locs → lv_has ls 8 [(0, .ref M.o_Ed), (1, .int y_1), (2, .int y_2)] → W p l e ({ frames := 3, cells := 0, slots := 0, locals := 65 }) s m ([.ref M.o_Ed, .int p0, .int p1] : List Value).toArray below meth c H locs 0 0 Q (F0 m 26 ls [.int z_1, .ref M.o_Ed]) := by
    intro y_1 y_2 z_1 S H locs ls h hP hD hS hl
    rw [f_Ed_findSlots_26] at h
    refine va_put (D := (dC, dI)) (ci := 8) (v := .int z_1) (ty := .int) (C := R_Ed) (T := F_Ed) (N := 13) hx hb hts (fun w h => u_Vq_Ed w (i_Ed w h)) t_Ed t_Ed_ok n_Ed hown hK hP hD hS 6 rfl rfl 10 (by decide) (hts _ (u_Vq_Ed _ k_Ed_17)) (fun _ h9 => h9) rfl (by decide +kernel) rfl rfl (Nat.le_of_ble_eq_true rfl) d_Ed_findSlots_26 (fun H locs hP hD hS => ?_)
    obtain ⟨S_2, eS_2, h⟩ := lf_lX h
    have hP := ly_newP eS_2 hP
    have hD := ly_newD eS_2 hD
    refine lv_aload_n hx hb d_Ed_findSlots_29 rfl (lv_at hl 0 rfl) ?_
    refine lv_aload_n hx hb d_Ed_findSlots_30 rfl (lv_at hl 0 rfl) ?_
    refine va_get (D := (dC, dI)) (ci := 8) (v := .ref M.o_Tb) (C := R_Ed) (T := F_Ed) (N := 13) hx hb hts (fun w h => u_Vq_Ed w (i_Ed w h)) hown hK hP 6 rfl rfl 1 (by decide) (hts _ (u_Vq_Ed _ k_Ed_8)) (fun _ h9 => h9) rfl d_Ed_findSlots_31 ?_
    refine lv_aload_n hx hb d_Ed_findSlots_34 rfl (lv_at hl 0 rfl) ?_
    refine va_get (D := (dC, dI)) (ci := 8) (v := .ref M.o_Tr) (C := R_Ed) (T := F_Ed) (N := 13) hx hb hts (fun w h => u_Vq_Ed w (i_Ed w h)) hown hK hP 6 rfl rfl 2 (by decide) (hts _ (u_Vq_Ed _ k_Ed_9)) (fun _ h9 => h9) rfl d_Ed_findSlots_35 ?_
    refine lv_iload_n hx hb d_Ed_findSlots_38 rfl (lv_at hl 1 rfl) ?_
    obtain ⟨r_3, S_3, hc_3, h⟩ := lf_cE h
    have hFc := lx_free hD hS hA
    refine va_calli (va_runV (As := [.int y_1]) (rest := [.ref M.o_Tb, .ref M.o_Ed]) ⟨hx, hb, hml, hown, hts⟩ (l_Tr_firstOf l dC dI X _ hc_3) (cwV 1 hts (gwV good_Vq (u_Vq_Ed _ k_Ed_30) (u_Vq_Tr _ k_Tr_45) (u_Vq_Tr _ k_Tr_46) (u_Vq_Tr _ k_Tr_0) (wcs (u_Vq_Tr _ k_Tr_47) (fun _ h => h))) rfl rfl rfl (by decide +kernel) ⟨Nat.le_of_ble_eq_true rfl, Nat.le_of_ble_eq_true rfl⟩) (pv_ofE (X.same _) (fun U z1 z2 => X.mono _ _ U hFc (hEw _ _ hS U z1 z2)) hP hK hD (va_recv hK hP (ci := 5) (q0 := 4) rfl rfl)) rfl rfl hl.1 rfl (lv_room (Nat.le_of_ble_eq_true rfl)) d_Ed_findSlots_39 ⟨by decide, by decide⟩) hS (fun q _ h => hFc q h) hFc (fun r_ u t H locs ht hvm hw hB hz1 hk1 hS => ?_)
    rw [hw]
    obtain ⟨hP, -, hD⟩ := hB
    rw [ht] at hP
    have hD := lx_dj hD hFc
    refine lv_aload_n hx hb d_Ed_findSlots_42 rfl (lv_at hl 0 rfl) ?_
    refine va_get (D := (dC, dI)) (ci := 8) (v := .ref M.a_Ed_road) (C := R_Ed) (T := F_Ed) (N := 13) hx hb hts (fun w h => u_Vq_Ed w (i_Ed w h)) hown hK hP 6 rfl rfl 3 (by decide) (hts _ (u_Vq_Ed _ k_Ed_10)) (fun _ h9 => h9) rfl d_Ed_findSlots_43 ?_
    obtain ⟨r_4, S_4, hc_4, h⟩ := lf_cE h
    have hFc := lx_free hD hS hA
    refine va_calli (va_runV (As := [.int r_3, .ref M.a_Ed_road]) (rest := [.ref M.o_Ed]) ⟨hx, hb, hml, hown, hts⟩ (l_Tb_road_Edroad l dC dI X _ hc_4) (cwV 2 hts (gwV good_Vq (u_Vq_Ed _ k_Ed_31) (u_Vq_Tb _ k_Tb_96) (u_Vq_Tb _ k_Tb_97) (u_Vq_Tb _ k_Tb_0) (wcs (u_Vq_Tb _ k_Tb_98) (fun _ h => h))) rfl rfl rfl (by decide +kernel) ⟨Nat.le_of_ble_eq_true rfl, Nat.le_of_ble_eq_true rfl⟩) (pv_ofE (X.same _) (fun U z1 z2 => X.mono _ _ U hFc (hEw _ _ hS U z1 z2)) hP hK hD (va_recv hK hP (ci := 4) (q0 := 3) rfl rfl)) rfl rfl hl.1 rfl (lv_room (Nat.le_of_ble_eq_true rfl)) d_Ed_findSlots_46 ⟨by decide, by decide⟩) hS (fun q _ h => hFc q h) hFc (fun r_ u t H locs ht hvm hw hB hz1 hk1 hS => ?_)
    rw [hw]
    obtain ⟨hP, -, hD⟩ := hB
    rw [ht] at hP
    have hD := lx_dj hD hFc
    refine va_put (D := (dC, dI)) (ci := 8) (v := .int r_4) (ty := .int) (C := R_Ed) (T := F_Ed) (N := 13) hx hb hts (fun w h => u_Vq_Ed w (i_Ed w h)) t_Ed t_Ed_ok n_Ed hown hK hP hD hS 6 rfl rfl 4 (by decide) (hts _ (u_Vq_Ed _ k_Ed_11)) (fun _ h9 => h9) rfl (by decide +kernel) rfl rfl (Nat.le_of_ble_eq_true rfl) d_Ed_findSlots_49 (fun H locs hP hD hS => ?_)
    obtain ⟨S_5, eS_5, h⟩ := lf_lX h
    have hP := ly_newP eS_5 hP
    have hD := ly_newD eS_5 hD
    refine lv_aload_n hx hb d_Ed_findSlots_52 rfl (lv_at hl 0 rfl) ?_
    refine va_get (D := (dC, dI)) (ci := 8) (v := .ref M.o_Tb) (C := R_Ed) (T := F_Ed) (N := 13) hx hb hts (fun w h => u_Vq_Ed w (i_Ed w h)) hown hK hP 6 rfl rfl 1 (by decide) (hts _ (u_Vq_Ed _ k_Ed_8)) (fun _ h9 => h9) rfl d_Ed_findSlots_53 ?_
    obtain ⟨r_6, S_6, hc_6, h⟩ := lf_cE h
    have hFc := lx_free hD hS hA
    refine va_calli (va_runV (As := []) (rest := []) ⟨hx, hb, hml, hown, hts⟩ (l_Tb_slotsOfCluster l dC dI X _ hc_6) (cwV 0 hts (gwV good_Vq (u_Vq_Ed _ k_Ed_63) (u_Vq_Tb _ k_Tb_49) (u_Vq_Tb _ k_Tb_50) (u_Vq_Tb _ k_Tb_0) (wcs (u_Vq_Tb _ k_Tb_51) (fun _ h => h))) rfl rfl rfl (by decide +kernel) ⟨Nat.le_of_ble_eq_true rfl, Nat.le_of_ble_eq_true rfl⟩) (pv_ofE (X.same _) (fun U z1 z2 => X.mono _ _ U hFc (hEw _ _ hS U z1 z2)) hP hK hD (va_recv hK hP (ci := 4) (q0 := 3) rfl rfl)) rfl rfl hl.1 rfl (lv_room (Nat.le_of_ble_eq_true rfl)) d_Ed_findSlots_56 ⟨by decide, by decide⟩) hS (fun q _ h => hFc q h) hFc (fun r_ u t H locs ht hvm hw hB hz1 hk1 hS => ?_)
    rw [hw]
    obtain ⟨hP, -, hD⟩ := hB
    rw [ht] at hP
    have hD := lx_dj hD hFc
    refine lv_istore_n (lv' := [(3, .int r_6), (0, .ref M.o_Ed), (1, .int y_1), (2, .int y_2)]) hx hb d_Ed_findSlots_59 rfl hl (by decide) rfl (fun ls hl => ?_)
    refine lv_aload_n hx hb d_Ed_findSlots_60 rfl (lv_at hl 1 rfl) ?_
    refine va_get (D := (dC, dI)) (ci := 8) (v := .int S_6.v_Ed_roadLength) (C := R_Ed) (T := F_Ed) (N := 13) hx hb hts (fun w h => u_Vq_Ed w (i_Ed w h)) hown hK hP 6 rfl rfl 4 (by decide) (hts _ (u_Vq_Ed _ k_Ed_11)) (fun _ h9 => h9) rfl d_Ed_findSlots_61 ?_
    refine lv_iload_n hx hb d_Ed_findSlots_64 rfl (lv_at hl 0 rfl) ?_
    refine lv_imul hx hb d_Ed_findSlots_65 ?_
    refine lv_topi (fun x_7 ex_7 => ?_)
    have h := lf_lE h ex_7
    refine lv_istore (lv' := [(4, .int x_7), (3, .int r_6), (0, .ref M.o_Ed), (1, .int y_1), (2, .int y_2)]) hx hb d_Ed_findSlots_66 hl (by decide) rfl (fun ls hl => ?_)
    refine lv_aload_n hx hb d_Ed_findSlots_68 rfl (lv_at hl 2 rfl) ?_
    refine lv_iload hx hb d_Ed_findSlots_69 (lv_at hl 0 rfl) ?_
    refine va_put (D := (dC, dI)) (ci := 8) (v := .int x_7) (ty := .int) (C := R_Ed) (T := F_Ed) (N := 13) hx hb hts (fun w h => u_Vq_Ed w (i_Ed w h)) t_Ed t_Ed_ok n_Ed hown hK hP hD hS 6 rfl rfl 11 (by decide) (hts _ (u_Vq_Ed _ k_Ed_18)) (fun _ h9 => h9) rfl (by decide +kernel) rfl rfl (Nat.le_of_ble_eq_true rfl) d_Ed_findSlots_71 (fun H locs hP hD hS => ?_)
    obtain ⟨S_8, eS_8, h⟩ := lf_lX h
    have hP := ly_newP eS_8 hP
    have hD := ly_newD eS_8 hD
    refine lv_aload_n hx hb d_Ed_findSlots_74 rfl (lv_at hl 2 rfl) ?_
    refine lv_iconst (v := 0) hx hb d_Ed_findSlots_75 (by decide) ?_
    refine va_put (D := (dC, dI)) (ci := 8) (v := .int 0) (ty := .int) (C := R_Ed) (T := F_Ed) (N := 13) hx hb hts (fun w h => u_Vq_Ed w (i_Ed w h)) t_Ed t_Ed_ok n_Ed hown hK hP hD hS 6 rfl rfl 12 (by decide) (hts _ (u_Vq_Ed _ k_Ed_19)) (fun _ h9 => h9) rfl (by decide +kernel) rfl rfl (Nat.le_of_ble_eq_true rfl) d_Ed_findSlots_76 (fun H locs hP hD hS => ?_)
    obtain ⟨S_9, eS_9, h⟩ := lf_lX h
    have hP := ly_newP eS_9 hP
    have hD := ly_newD eS_9 hD
    refine lv_iconst (v := 0) hx hb d_Ed_findSlots_79 (by decide) ?_
    refine lv_istore (lv' := [(5, .int 0), (4, .int x_7), (3, .int r_6), (0, .ref M.o_Ed), (1, .int y_1), (2, .int y_2)]) hx hb d_Ed_findSlots_80 hl (by decide) rfl (fun ls hl => ?_)
    refine lv_iconst (v := 0) hx hb d_Ed_findSlots_82 (by decide) ?_
    refine lv_istore (lv' := [(6, .int 0), (5, .int 0), (4, .int x_7), (3, .int r_6), (0, .ref M.o_Ed), (1, .int y_1), (2, .int y_2)]) hx hb d_Ed_findSlots_83 hl (by decide) rfl (fun ls hl => ?_)
    exact hB_85 K y_2 r_6 x_7 0 0 S_9 _ _ _ h hP hD hS (lv_sub hl [4, 6, 3, 2, 1, 0] rfl)
  rw [f_Ed_findSlots] at h
  refine lv_aload_n hx hb d_Ed_findSlots_0 rfl (lv_at hl 0 rfl) ?_
  refine lv_aload_n hx hb d_Ed_findSlots_1 rfl (lv_at hl 0 rfl) ?_
  refine va_get (D := (dC, dI)) (ci := 8) (v := .int S.v_Ed_plain) (C := R_Ed) (T := F_Ed) (N := 13) hx hb hts (fun w h => u_Vq_Ed w (i_Ed w h)) hown hK hP 6 rfl rfl 8 (by decide) (hts _ (u_Vq_Ed _ k_Ed_15)) (fun _ h9 => h9) rfl d_Ed_findSlots_2 ?_
  refine lv_if_eq (tgt := 12) hx hb d_Ed_findSlots_5 (by decide) (fun c_1 => ?_) (fun c_1 => ?_)
  · have h := lf_t h c_1
    refine lv_aload_n hx hb d_Ed_findSlots_12 rfl (lv_at hl 0 rfl) ?_
    refine va_get (D := (dC, dI)) (ci := 8) (v := .int S.v_Ed_unitCount) (C := R_Ed) (T := F_Ed) (N := 13) hx hb hts (fun w h => u_Vq_Ed w (i_Ed w h)) hown hK hP 6 rfl rfl 6 (by decide) (hts _ (u_Vq_Ed _ k_Ed_13)) (fun _ h9 => h9) rfl d_Ed_findSlots_13 ?_
    refine lv_bipush (v := 13) hx hb d_Ed_findSlots_16 (by decide) ?_
    refine lv_iadd hx hb d_Ed_findSlots_18 ?_
    refine lv_iconst (v := 1) hx hb d_Ed_findSlots_19 (by decide) ?_
    refine lv_isub hx hb d_Ed_findSlots_20 ?_
    refine lv_bipush (v := 13) hx hb d_Ed_findSlots_21 (by decide) ?_
    refine lv_idiv hx hb d_Ed_findSlots_23 (by decide) ?_
    refine lv_iconst (v := 1) hx hb d_Ed_findSlots_24 (by decide) ?_
    refine lv_iadd hx hb d_Ed_findSlots_25 ?_
    exact hB_26 p0 p1 ((((S.v_Ed_unitCount + 13) - 1) / 13) + 1) S _ _ _ h hP hD hS (lv_sub hl [0, 1, 2] rfl)
  · have h := lf_f h c_1
    refine lv_iconst (v := 1) hx hb d_Ed_findSlots_8 (by decide) ?_
    refine lv_goto (tgt := 26) hx hb d_Ed_findSlots_9 (by decide) ?_
    exact hB_26 p0 p1 1 S _ _ _ h hP hD hS (lv_sub hl [0, 1, 2] rfl)
