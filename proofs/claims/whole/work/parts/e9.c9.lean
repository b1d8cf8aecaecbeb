set_option maxHeartbeats 4000000 in
set_option maxRecDepth 100000 in
theorem l_Tu_copySector (l : Launch) (dC : Nat → ClassId) (dI : Nat → Nat → Nat) {K : Nat} {M : CA} {E : (Nat → Prop) → State → Prop} (X : ly_X l dC dI K M E) (sz : Nat) {Y : CT} {G : CG} {S S' : CS} {p0 : Int32} {p1 : Int32} (h : f_Tu_copySector K G S p0 p1 = some S') : Met l y_Tu_copySector (.code y_Tu_copySector b_Tu_copySector 3 none :: V_Vt) ({ frames := 2, cells := 0, slots := 0, locals := 83 }) (va_Pc [.ref M.o_Tu, .int p0, .int p1] (fun U => U.heap.size = sz ∧ at_ (dC, dI) (fun _ => True) (wV M Y G S) (tV M) U ∧ E (va_A (wV M Y G S) sz) U)) (va_Qv (fun (u : Unit) => True) (fun (u : Unit) t => at_ (dC, dI) (va_A (wV M Y G S) sz) (wV M Y G S') (tV M) t) (va_A (wV M Y G S) sz)) 0 0 (va_A (wV M Y G S) sz) := by
  refine Met.ofW (cc := b_Tu_copySector) (maxL := 3) (ret := none) (by decide) rfl ?_
  intro p e s m args below meth c s₁ B hml hv
  obtain ⟨rfl, hsz, ⟨hP, hK, hD0⟩, hE⟩ := hv
  have hx := B.exec
  have hb := B.bytes
  have hr := B.returns
  have hts0 := atoms_spec (ws := .code y_Tu_copySector b_Tu_copySector 3 none :: V_Vt) B.pre
  have hts : ∀ w ∈ V_Vt, w.before ([.ref M.o_Tu, .int p0, .int p1] : List Value).toArray s = true := fun w h => hts0 w (List.mem_cons_of_mem _ h)
  have hown : s.vm.findClass R_Tu = some m.cls := findClass_of_methodNamed B.named
  subst hsz
  have hD := hD0.self (sz := s.heap.size)
  generalize hAe : va_A (wV M Y G S) s.heap.size = A at hD hE ⊢
  have hA : ∀ q : Nat, s.heap.size ≤ q → A q := fun q h => by rw [← hAe]; exact Or.inr h
  have hS : va_S A s.heap s.heap [] := va_S.rf
  have hP : va_P (dC, dI) classes (wV M Y G S) s.heap := hP
  have hK : va_K (dC, dI) classes (tV M) s := hK
  have hEw : ∀ (H : Heap) (locs : List Loc), va_S A s.heap H locs → ∀ U : State, U.heap = H → s.WarmedH U.vm → E A U := fun H locs hS U hU hW => X.kept A s U H locs hE hS hU hW
  have hl := lv_entry ([.ref M.o_Tu, .int p0, .int p1]) (n := 3) (Nat.le_of_ble_eq_true rfl)
  rw [lg_entry_eq]
  generalize (lg_sl ([.ref M.o_Tu, .int p0, .int p1]) ++ List.replicate (3 - (lg_sl ([.ref M.o_Tu, .int p0, .int p1])).length) Slot.unset).toArray = ls at hl ⊢
  have hl : lv_has ls 3 [(0, .ref M.o_Tu), (1, .int p0), (2, .int p1)] := hl
  refine qabs (fun Q hQ => ?_)
  rw [f_Tu_copySector] at h
  refine lv_aload_n hx hb d_Tu_copySector_0 rfl (lv_at hl 0 rfl) ?_
  refine va_get (D := (dC, dI)) (ci := 10) (v := .ref M.o_Dk) (C := R_Tu) (T := F_Tu) (N := 7) hx hb hts (fun w h => u_Vt_Tu w (i_Tu w h)) hown hK hP 8 rfl rfl 0 (by decide) (hts _ (u_Vt_Tu _ k_Tu_17)) (fun _ h9 => h9) rfl d_Tu_copySector_1 ?_
  refine lv_iload_n hx hb d_Tu_copySector_4 rfl (lv_at hl 1 rfl) ?_
  refine lv_aload_n hx hb d_Tu_copySector_5 rfl (lv_at hl 0 rfl) ?_
  refine va_get (D := (dC, dI)) (ci := 10) (v := .ref M.a_Tu_block) (C := R_Tu) (T := F_Tu) (N := 7) hx hb hts (fun w h => u_Vt_Tu w (i_Tu w h)) hown hK hP 8 rfl rfl 6 (by decide) (hts _ (u_Vt_Tu _ k_Tu_23)) (fun _ h9 => h9) rfl d_Tu_copySector_6 ?_
  refine lv_iconst (v := 0) hx hb d_Tu_copySector_9 (by decide) ?_
  obtain ⟨S_1, hc_1, h⟩ := lf_bE h
  have hFc := lx_free hD hS hA
  refine va_callv (va_runV (As := [.int p0, .ref M.a_Tu_block, .int 0]) (rest := []) ⟨hx, hb, hml, hown, hts⟩ (l_Dk_load_Tublock l dC dI X _ hc_1) (cwV 3 hts (gwV good_Vt (u_Vt_Tu _ k_Tu_41) (u_Vt_Dk _ k_Dk_36) (u_Vt_Dk _ k_Dk_37) (u_Vt_Dk _ k_Dk_0) (wcs (u_Vt_Dk _ k_Dk_38) (fun _ h => h))) rfl rfl rfl (by decide +kernel) ⟨Nat.le_of_ble_eq_true rfl, Nat.le_of_ble_eq_true rfl⟩) (pv_ofE (X.same _) (fun U z1 z2 => X.mono _ _ U hFc (hEw _ _ hS U z1 z2)) hP hK hD (va_recv hK hP (ci := 0) (q0 := 1) rfl rfl)) rfl rfl hl.1 rfl (lv_room (Nat.le_of_ble_eq_true rfl)) d_Tu_copySector_10 ⟨by decide, by decide⟩) hS (fun q _ h => hFc q h) hFc (fun u t H locs ht hvm hw hB hz1 hk1 hS => ?_)
  obtain ⟨hP, -, hD⟩ := hB
  rw [ht] at hP
  have hD := lx_dj hD hFc
  refine lv_aload_n hx hb d_Tu_copySector_13 rfl (lv_at hl 0 rfl) ?_
  refine va_get (D := (dC, dI)) (ci := 10) (v := .ref M.o_Dk) (C := R_Tu) (T := F_Tu) (N := 7) hx hb hts (fun w h => u_Vt_Tu w (i_Tu w h)) hown hK hP 8 rfl rfl 0 (by decide) (hts _ (u_Vt_Tu _ k_Tu_17)) (fun _ h9 => h9) rfl d_Tu_copySector_14 ?_
  refine lv_iload_n hx hb d_Tu_copySector_17 rfl (lv_at hl 2 rfl) ?_
  refine lv_aload_n hx hb d_Tu_copySector_18 rfl (lv_at hl 0 rfl) ?_
  refine va_get (D := (dC, dI)) (ci := 10) (v := .ref M.a_Tu_block) (C := R_Tu) (T := F_Tu) (N := 7) hx hb hts (fun w h => u_Vt_Tu w (i_Tu w h)) hown hK hP 8 rfl rfl 6 (by decide) (hts _ (u_Vt_Tu _ k_Tu_23)) (fun _ h9 => h9) rfl d_Tu_copySector_19 ?_
  refine lv_iconst (v := 0) hx hb d_Tu_copySector_22 (by decide) ?_
  obtain ⟨S_2, hc_2, h⟩ := lf_bE h
  have hFc := lx_free hD hS hA
  refine va_callv (va_runV (As := [.int p1, .ref M.a_Tu_block, .int 0]) (rest := []) ⟨hx, hb, hml, hown, hts⟩ (l_Dk_store_Tublock l dC dI X _ hc_2) (cwV 3 hts (gwV good_Vt (u_Vt_Tu _ k_Tu_42) (u_Vt_Dk _ k_Dk_41) (u_Vt_Dk _ k_Dk_42) (u_Vt_Dk _ k_Dk_0) (wcs (u_Vt_Dk _ k_Dk_43) (fun _ h => h))) rfl rfl rfl (by decide +kernel) ⟨Nat.le_of_ble_eq_true rfl, Nat.le_of_ble_eq_true rfl⟩) (pv_ofE (X.same _) (fun U z1 z2 => X.mono _ _ U hFc (hEw _ _ hS U z1 z2)) hP hK hD (va_recv hK hP (ci := 0) (q0 := 1) rfl rfl)) rfl rfl hl.1 rfl (lv_room (Nat.le_of_ble_eq_true rfl)) d_Tu_copySector_23 ⟨by decide, by decide⟩) hS (fun q _ h => hFc q h) hFc (fun u t H locs ht hvm hw hB hz1 hk1 hS => ?_)
  obtain ⟨hP, -, hD⟩ := hB
  rw [ht] at hP
  have hD := lx_dj hD hFc
  rw [hQ]
  have e2 : S_2 = S' := Option.some.inj h
  have hP := ly_newP e2.symm hP
  have hD := ly_newD e2.symm hD
  exact W.vret hx hb hr (fun t ht hW => ⟨⟨(), rfl, trivial, by rw [ht]; exact hP, va_K.moved hW.alike hK, hD⟩, hS.F ht⟩) hS.2.2 d_Tu_copySector_26
set_option maxHeartbeats 4000000 in
set_option maxRecDepth 100000 in
theorem l_Tu_copyCluster (l : Launch) (dC : Nat → ClassId) (dI : Nat → Nat → Nat) {K : Nat} {M : CA} {E : (Nat → Prop) → State → Prop} (X : ly_X l dC dI K M E) (sz : Nat) {Y : CT} {G : CG} {S S' : CS} {p0 : Int32} {p1 : Int32} (h : f_Tu_copyCluster K G S p0 p1 = some S') : Met l y_Tu_copyCluster (.code y_Tu_copyCluster b_Tu_copyCluster 4 none :: V_Vt) ({ frames := 3, cells := 0, slots := 0, locals := 105 }) (va_Pc [.ref M.o_Tu, .int p0, .int p1] (fun U => U.heap.size = sz ∧ at_ (dC, dI) (fun _ => True) (wV M Y G S) (tV M) U ∧ E (va_A (wV M Y G S) sz) U)) (va_Qv (fun (u : Unit) => True) (fun (u : Unit) t => at_ (dC, dI) (va_A (wV M Y G S) sz) (wV M Y G S') (tV M) t) (va_A (wV M Y G S) sz)) 0 0 (va_A (wV M Y G S) sz) := by
  refine Met.ofW (cc := b_Tu_copyCluster) (maxL := 4) (ret := none) (by decide) rfl ?_
  intro p e s m args below meth c s₁ B hml hv
  obtain ⟨rfl, hsz, ⟨hP, hK, hD0⟩, hE⟩ := hv
  have hx := B.exec
  have hb := B.bytes
  have hr := B.returns
  have hts0 := atoms_spec (ws := .code y_Tu_copyCluster b_Tu_copyCluster 4 none :: V_Vt) B.pre
  have hts : ∀ w ∈ V_Vt, w.before ([.ref M.o_Tu, .int p0, .int p1] : List Value).toArray s = true := fun w h => hts0 w (List.mem_cons_of_mem _ h)
  have hown : s.vm.findClass R_Tu = some m.cls := findClass_of_methodNamed B.named
  subst hsz
  have hD := hD0.self (sz := s.heap.size)
  generalize hAe : va_A (wV M Y G S) s.heap.size = A at hD hE ⊢
  have hA : ∀ q : Nat, s.heap.size ≤ q → A q := fun q h => by rw [← hAe]; exact Or.inr h
  have hS : va_S A s.heap s.heap [] := va_S.rf
  have hP : va_P (dC, dI) classes (wV M Y G S) s.heap := hP
  have hK : va_K (dC, dI) classes (tV M) s := hK
  have hEw : ∀ (H : Heap) (locs : List Loc), va_S A s.heap H locs → ∀ U : State, U.heap = H → s.WarmedH U.vm → E A U := fun H locs hS U hU hW => X.kept A s U H locs hE hS hU hW
  have hl := lv_entry ([.ref M.o_Tu, .int p0, .int p1]) (n := 4) (Nat.le_of_ble_eq_true rfl)
  rw [lg_entry_eq]
  generalize (lg_sl ([.ref M.o_Tu, .int p0, .int p1]) ++ List.replicate (4 - (lg_sl ([.ref M.o_Tu, .int p0, .int p1])).length) Slot.unset).toArray = ls at hl ⊢
  have hl : lv_has ls 4 [(0, .ref M.o_Tu), (1, .int p0), (2, .int p1)] := hl
  refine qabs (fun Q hQ => ?_)
  have hB_2 : ∀ (k : Nat), ∀ (y_1 : Int32) (y_2 : Int32) (y_3 : Int32) (S : CS) (H : Heap) (locs : List Loc) (ls : Array Slot), f_Tu_copyCluster_2 K G k y_1 y_2 y_3 S = some S' → va_P (dC, dI) classes (wV M Y G S) H → va_D A (wV M Y G S) → va_S A s.heap H locs → lv_has ls 4 [(0, .ref M.o_Tu), (1, .int y_1), (2, .int y_2), (3, .int y_3)] → W p l e ({ frames := 3, cells := 0, slots := 0, locals := 105 }) s m ([.ref M.o_Tu, .int p0, .int p1] : List Value).toArray below meth c H locs 0 0 Q (F0 m 2 ls []) := by
    intro k
    induction k with
    | zero => intro y_1 y_2 y_3 S H locs ls h; exact lf_no h
    | succ k hr_2 =>
      intro y_1 y_2 y_3 S H locs ls h hP hD hS hl
      rw [f_Tu_copyCluster_2] at h
      refine lv_iload_n hx hb d_Tu_copyCluster_2 rfl (lv_at hl 3 rfl) ?_
      refine lv_aload_n hx hb d_Tu_copyCluster_3 rfl (lv_at hl 0 rfl) ?_
      refine va_get (D := (dC, dI)) (ci := 10) (v := .ref M.o_Tb) (C := R_Tu) (T := F_Tu) (N := 7) hx hb hts (fun w h => u_Vt_Tu w (i_Tu w h)) hown hK hP 8 rfl rfl 1 (by decide) (hts _ (u_Vt_Tu _ k_Tu_18)) (fun _ h9 => h9) rfl d_Tu_copyCluster_4 ?_
      refine va_get (D := (dC, dI)) (ci := 4) (v := .int S.v_Tb_cluster) (C := R_Tb) (T := F_Tb) (N := 10) hx hb hts (fun w h => u_Vt_Tb w (i_Tb w h)) hown hK hP 3 rfl rfl 1 (by decide) (hts _ (u_Vt_Tu _ k_Tu_1)) (fun _ h9 => h9) rfl d_Tu_copyCluster_7 ?_
      refine lv_icmp_ge (tgt := 65) hx hb d_Tu_copyCluster_10 (by decide) (fun c_1 => ?_) (fun c_1 => ?_)
      · have h := lf_t h c_1
        rw [hQ]
        have e2 : S = S' := Option.some.inj h
        have hP := ly_newP e2.symm hP
        have hD := ly_newD e2.symm hD
        exact W.vret hx hb hr (fun t ht hW => ⟨⟨(), rfl, trivial, by rw [ht]; exact hP, va_K.moved hW.alike hK, hD⟩, hS.F ht⟩) hS.2.2 d_Tu_copyCluster_65
      · have h := lf_f h c_1
        refine lv_aload_n hx hb d_Tu_copyCluster_13 rfl (lv_at hl 0 rfl) ?_
        refine lv_aload_n hx hb d_Tu_copyCluster_14 rfl (lv_at hl 0 rfl) ?_
        refine va_get (D := (dC, dI)) (ci := 10) (v := .ref M.o_Tb) (C := R_Tu) (T := F_Tu) (N := 7) hx hb hts (fun w h => u_Vt_Tu w (i_Tu w h)) hown hK hP 8 rfl rfl 1 (by decide) (hts _ (u_Vt_Tu _ k_Tu_18)) (fun _ h9 => h9) rfl d_Tu_copyCluster_15 ?_
        refine va_get (D := (dC, dI)) (ci := 4) (v := .int S.v_Tb_start) (C := R_Tb) (T := F_Tb) (N := 10) hx hb hts (fun w h => u_Vt_Tb w (i_Tb w h)) hown hK hP 3 rfl rfl 6 (by decide) (hts _ (u_Vt_Tu _ k_Tu_2)) (fun _ h9 => h9) rfl d_Tu_copyCluster_18 ?_
        refine lv_iload_n hx hb d_Tu_copyCluster_21 rfl (lv_at hl 1 rfl) ?_
        refine lv_iconst (v := 2) hx hb d_Tu_copyCluster_22 (by decide) ?_
        refine lv_isub hx hb d_Tu_copyCluster_23 ?_
        refine lv_aload_n hx hb d_Tu_copyCluster_24 rfl (lv_at hl 0 rfl) ?_
        refine va_get (D := (dC, dI)) (ci := 10) (v := .ref M.o_Tb) (C := R_Tu) (T := F_Tu) (N := 7) hx hb hts (fun w h => u_Vt_Tu w (i_Tu w h)) hown hK hP 8 rfl rfl 1 (by decide) (hts _ (u_Vt_Tu _ k_Tu_18)) (fun _ h9 => h9) rfl d_Tu_copyCluster_25 ?_
        refine va_get (D := (dC, dI)) (ci := 4) (v := .int S.v_Tb_cluster) (C := R_Tb) (T := F_Tb) (N := 10) hx hb hts (fun w h => u_Vt_Tb w (i_Tb w h)) hown hK hP 3 rfl rfl 1 (by decide) (hts _ (u_Vt_Tu _ k_Tu_1)) (fun _ h9 => h9) rfl d_Tu_copyCluster_28 ?_
        refine lv_imul hx hb d_Tu_copyCluster_31 ?_
        refine lv_iadd hx hb d_Tu_copyCluster_32 ?_
        refine lv_iload_n hx hb d_Tu_copyCluster_33 rfl (lv_at hl 3 rfl) ?_
        refine lv_iadd hx hb d_Tu_copyCluster_34 ?_
        refine lv_aload_n hx hb d_Tu_copyCluster_35 rfl (lv_at hl 0 rfl) ?_
        refine va_get (D := (dC, dI)) (ci := 10) (v := .ref M.o_Tb) (C := R_Tu) (T := F_Tu) (N := 7) hx hb hts (fun w h => u_Vt_Tu w (i_Tu w h)) hown hK hP 8 rfl rfl 1 (by decide) (hts _ (u_Vt_Tu _ k_Tu_18)) (fun _ h9 => h9) rfl d_Tu_copyCluster_36 ?_
        refine va_get (D := (dC, dI)) (ci := 4) (v := .int S.v_Tb_start) (C := R_Tb) (T := F_Tb) (N := 10) hx hb hts (fun w h => u_Vt_Tb w (i_Tb w h)) hown hK hP 3 rfl rfl 6 (by decide) (hts _ (u_Vt_Tu _ k_Tu_2)) (fun _ h9 => h9) rfl d_Tu_copyCluster_39 ?_
        refine lv_iload_n hx hb d_Tu_copyCluster_42 rfl (lv_at hl 2 rfl) ?_
        refine lv_iconst (v := 2) hx hb d_Tu_copyCluster_43 (by decide) ?_
        refine lv_isub hx hb d_Tu_copyCluster_44 ?_
        refine lv_aload_n hx hb d_Tu_copyCluster_45 rfl (lv_at hl 0 rfl) ?_
        refine va_get (D := (dC, dI)) (ci := 10) (v := .ref M.o_Tb) (C := R_Tu) (T := F_Tu) (N := 7) hx hb hts (fun w h => u_Vt_Tu w (i_Tu w h)) hown hK hP 8 rfl rfl 1 (by decide) (hts _ (u_Vt_Tu _ k_Tu_18)) (fun _ h9 => h9) rfl d_Tu_copyCluster_46 ?_
        refine va_get (D := (dC, dI)) (ci := 4) (v := .int S.v_Tb_cluster) (C := R_Tb) (T := F_Tb) (N := 10) hx hb hts (fun w h => u_Vt_Tb w (i_Tb w h)) hown hK hP 3 rfl rfl 1 (by decide) (hts _ (u_Vt_Tu _ k_Tu_1)) (fun _ h9 => h9) rfl d_Tu_copyCluster_49 ?_
        refine lv_imul hx hb d_Tu_copyCluster_52 ?_
        refine lv_iadd hx hb d_Tu_copyCluster_53 ?_
        refine lv_iload_n hx hb d_Tu_copyCluster_54 rfl (lv_at hl 3 rfl) ?_
        refine lv_iadd hx hb d_Tu_copyCluster_55 ?_
        obtain ⟨S_2, hc_2, h⟩ := lf_bE h
        have hFc := lx_free hD hS hA
        refine va_callv (va_runV (As := [.int ((S.v_Tb_start + ((y_1 - 2) * S.v_Tb_cluster)) + y_3), .int ((S.v_Tb_start + ((y_2 - 2) * S.v_Tb_cluster)) + y_3)]) (rest := []) ⟨hx, hb, hml, hown, hts⟩ (l_Tu_copySector l dC dI X _ hc_2) (cwV 2 hts (gwV good_Vt (u_Vt_Tu _ k_Tu_38) (u_Vt_Tu _ k_Tu_39) (u_Vt_Tu _ k_Tu_160) (u_Vt_Tu _ k_Tu_0) (wcs (u_Vt_Tu _ k_Tu_40) (fun _ h => h))) rfl rfl rfl (by decide +kernel) ⟨Nat.le_of_ble_eq_true rfl, Nat.le_of_ble_eq_true rfl⟩) (pv_ofE (X.same _) (fun U z1 z2 => X.mono _ _ U hFc (hEw _ _ hS U z1 z2)) hP hK hD (va_recv hK hP (ci := 10) (q0 := 8) rfl rfl)) rfl rfl hl.1 rfl (lv_room (Nat.le_of_ble_eq_true rfl)) d_Tu_copyCluster_56 ⟨by decide, by decide⟩) hS (fun q _ h => hFc q h) hFc (fun u t H locs ht hvm hw hB hz1 hk1 hS => ?_)
        obtain ⟨hP, -, hD⟩ := hB
        rw [ht] at hP
        have hD := lx_dj hD hFc
        obtain ⟨x_3, ex_3, h⟩ := lf_lX h
        refine lv_iinc (v := x_3) (lv' := [(3, .int x_3), (0, .ref M.o_Tu), (1, .int y_1), (2, .int y_2)]) hx hb d_Tu_copyCluster_59 hl (k := 3) rfl (by rw [ex_3]; rfl) (by decide) rfl (fun ls hl => ?_)
        refine lv_goto (tgt := 2) hx hb d_Tu_copyCluster_62 (by decide) ?_
        exact hr_2 y_1 y_2 x_3 S_2 _ _ _ h hP hD hS (lv_sub hl [1, 2, 3, 0] rfl)
  rw [f_Tu_copyCluster] at h
  refine lv_iconst (v := 0) hx hb d_Tu_copyCluster_0 (by decide) ?_
  refine lv_istore_n (lv' := [(3, .int 0), (0, .ref M.o_Tu), (1, .int p0), (2, .int p1)]) hx hb d_Tu_copyCluster_1 rfl hl (by decide) rfl (fun ls hl => ?_)
  exact hB_2 K p0 p1 0 S _ _ _ h hP hD hS (lv_sub hl [1, 2, 3, 0] rfl)
set_option maxHeartbeats 4000000 in
set_option maxRecDepth 100000 in
theorem l_Tu_goBack (l : Launch) (dC : Nat → ClassId) (dI : Nat → Nat → Nat) {K : Nat} {M : CA} {E : (Nat → Prop) → State → Prop} (X : ly_X l dC dI K M E) (sz : Nat) {Y : CT} {G : CG} {S S' : CS} (h : f_Tu_goBack K G S = some S') : Met l y_Tu_goBack (.code y_Tu_goBack b_Tu_goBack 3 none :: V_Vt) ({ frames := 5, cells := 0, slots := 0, locals := 128 }) (va_Pc [.ref M.o_Tu] (fun U => U.heap.size = sz ∧ at_ (dC, dI) (fun _ => True) (wV M Y G S) (tV M) U ∧ E (va_A (wV M Y G S) sz) U)) (va_Qv (fun (u : Unit) => True) (fun (u : Unit) t => at_ (dC, dI) (va_A (wV M Y G S) sz) (wV M Y G S') (tV M) t) (va_A (wV M Y G S) sz)) 0 0 (va_A (wV M Y G S) sz) := by
  refine Met.ofW (cc := b_Tu_goBack) (maxL := 3) (ret := none) (by decide) rfl ?_
  intro p e s m args below meth c s₁ B hml hv
  obtain ⟨rfl, hsz, ⟨hP, hK, hD0⟩, hE⟩ := hv
  have hx := B.exec
  have hb := B.bytes
  have hr := B.returns
  have hts0 := atoms_spec (ws := .code y_Tu_goBack b_Tu_goBack 3 none :: V_Vt) B.pre
  have hts : ∀ w ∈ V_Vt, w.before ([.ref M.o_Tu] : List Value).toArray s = true := fun w h => hts0 w (List.mem_cons_of_mem _ h)
  have hown : s.vm.findClass R_Tu = some m.cls := findClass_of_methodNamed B.named
  subst hsz
  have hD := hD0.self (sz := s.heap.size)
  generalize hAe : va_A (wV M Y G S) s.heap.size = A at hD hE ⊢
  have hA : ∀ q : Nat, s.heap.size ≤ q → A q := fun q h => by rw [← hAe]; exact Or.inr h
  have hS : va_S A s.heap s.heap [] := va_S.rf
  have hP : va_P (dC, dI) classes (wV M Y G S) s.heap := hP
  have hK : va_K (dC, dI) classes (tV M) s := hK
  have hEw : ∀ (H : Heap) (locs : List Loc), va_S A s.heap H locs → ∀ U : State, U.heap = H → s.WarmedH U.vm → E A U := fun H locs hS U hU hW => X.kept A s U H locs hE hS hU hW
  have hl := lv_entry ([.ref M.o_Tu]) (n := 3) (Nat.le_of_ble_eq_true rfl)
  rw [lg_entry_eq]
  generalize (lg_sl ([.ref M.o_Tu]) ++ List.replicate (3 - (lg_sl ([.ref M.o_Tu])).length) Slot.unset).toArray = ls at hl ⊢
  have hl : lv_has ls 3 [(0, .ref M.o_Tu)] := hl
  refine qabs (fun Q hQ => ?_)
  have hB_74 : ∀ (rec_27 : Int32 → Int32 → CS → Option (CS)) (hr_27 : ∀ (y_1 : Int32) (y_2 : Int32) (S : CS) (H : Heap) (locs : List Loc) (ls : Array Slot), rec_27 y_1 y_2 S = some S' → va_P (dC, dI) classes (wV M Y G S) H → va_D A (wV M Y G S) → va_S A s.heap H locs → lv_has ls 3 [(0, .ref M.o_Tu), (1, .int y_1), (2, .int y_2)] → W p l e ({ frames := 5, cells := 0, slots := 0, locals := 128 }) s m ([.ref M.o_Tu] : List Value).toArray below meth c H locs 0 0 Q (F0 m 27 ls [])), ∀ (y_1 : Int32) (y_2 : Int32) (S : CS) (H : Heap) (locs : List Loc) (ls : Array Slot), f_Tu_goBack_74 K G rec_27 y_1 y_2 S = some S' → va_P (dC, dI) classes (wV M Y G S) H → va_D A (wV M Y G S) → va_S A s.heap H locs → lv_has ls 3 [(0, .ref M.o_Tu), (1, .int y_1), (2, .int y_2)] → W p l e ({ frames := 5, cells := 0, slots := 0, locals := 128 }) s m ([.ref M.o_Tu] : List Value).toArray below meth c H locs 0 0 Q (F0 m 74 ls []) := by
    intro rec_27 hr_27 y_1 y_2 S H locs ls h hP hD hS hl
    rw [f_Tu_goBack_74] at h
    obtain ⟨x_20, ex_20, h⟩ := lf_lX h
    refine lv_iinc (v := x_20) (lv' := [(2, .int x_20), (0, .ref M.o_Tu), (1, .int y_1)]) hx hb d_Tu_goBack_74 hl (k := 2) rfl (by rw [ex_20]; rfl) (by decide) rfl (fun ls hl => ?_)
    refine lv_goto (tgt := 27) hx hb d_Tu_goBack_77 (by decide) ?_
    exact hr_27 y_1 x_20 S _ _ _ h hP hD hS (lv_sub hl [1, 2, 0] rfl)
  have hB_80 : ∀ (y_1 : Int32) (S : CS) (H : Heap) (locs : List Loc) (ls : Array Slot), f_Tu_goBack_80 K G y_1 S = some S' → va_P (dC, dI) classes (wV M Y G S) H → va_D A (wV M Y G S) → va_S A s.heap H locs → lv_has ls 3 [(0, .ref M.o_Tu), (1, .int y_1)] → W p l e ({ frames := 5, cells := 0, slots := 0, locals := 128 }) s m ([.ref M.o_Tu] : List Value).toArray below meth c H locs 0 0 Q (F0 m 80 ls []) := by
    intro y_1 S H locs ls h hP hD hS hl
    rw [f_Tu_goBack_80] at h
    refine lv_aload_n hx hb d_Tu_goBack_80 rfl (lv_at hl 0 rfl) ?_
    refine lv_iload_n hx hb d_Tu_goBack_81 rfl (lv_at hl 1 rfl) ?_
    refine lv_iconst (v := 1) hx hb d_Tu_goBack_82 (by decide) ?_
    refine lv_iadd hx hb d_Tu_goBack_83 ?_
    refine lv_iconst (v := 3) hx hb d_Tu_goBack_84 (by decide) ?_
    obtain ⟨S_13, hc_13, h⟩ := lf_bE h
    have hFc := lx_free hD hS hA
    refine va_callv (va_runV (As := [.int (y_1 + 1), .int 3]) (rest := []) ⟨hx, hb, hml, hown, hts⟩ (l_Tu_copySector l dC dI X _ hc_13) (cwV 2 hts (gwV good_Vt (u_Vt_Tu _ k_Tu_38) (u_Vt_Tu _ k_Tu_39) (u_Vt_Tu _ k_Tu_160) (u_Vt_Tu _ k_Tu_0) (wcs (u_Vt_Tu _ k_Tu_40) (fun _ h => h))) rfl rfl rfl (by decide +kernel) ⟨Nat.le_of_ble_eq_true rfl, Nat.le_of_ble_eq_true rfl⟩) (pv_ofE (X.same _) (fun U z1 z2 => X.mono _ _ U hFc (hEw _ _ hS U z1 z2)) hP hK hD (va_recv hK hP (ci := 10) (q0 := 8) rfl rfl)) rfl rfl hl.1 rfl (lv_room (Nat.le_of_ble_eq_true rfl)) d_Tu_goBack_85 ⟨by decide, by decide⟩) hS (fun q _ h => hFc q h) hFc (fun u t H locs ht hvm hw hB hz1 hk1 hS => ?_)
    obtain ⟨hP, -, hD⟩ := hB
    rw [ht] at hP
    have hD := lx_dj hD hFc
    refine lv_aload_n hx hb d_Tu_goBack_88 rfl (lv_at hl 0 rfl) ?_
    refine lv_iconst (v := 2) hx hb d_Tu_goBack_89 (by decide) ?_
    refine lv_aload_n hx hb d_Tu_goBack_90 rfl (lv_at hl 0 rfl) ?_
    refine va_get (D := (dC, dI)) (ci := 10) (v := .ref M.o_Pl) (C := R_Tu) (T := F_Tu) (N := 7) hx hb hts (fun w h => u_Vt_Tu w (i_Tu w h)) hown hK hP 8 rfl rfl 4 (by decide) (hts _ (u_Vt_Tu _ k_Tu_21)) (fun _ h9 => h9) rfl d_Tu_goBack_91 ?_
    refine lv_iconst (v := 1) hx hb d_Tu_goBack_94 (by decide) ?_
    obtain ⟨r_14, S_14, hc_14, h⟩ := lf_cE h
    have hFc := lx_free hD hS hA
    refine va_calli (va_runV (As := [.int 1]) (rest := [.int 2, .ref M.o_Tu]) ⟨hx, hb, hml, hown, hts⟩ (l_Pl_room l dC dI X _ hc_14) (cwV 1 hts (gwV good_Vt (u_Vt_Tu _ k_Tu_37) (u_Vt_Pl _ k_Pl_96) (u_Vt_Pl _ k_Pl_97) (u_Vt_Pl _ k_Pl_0) (wcs (u_Vt_Pl _ k_Pl_98) (fun _ h => h))) rfl rfl rfl (by decide +kernel) ⟨Nat.le_of_ble_eq_true rfl, Nat.le_of_ble_eq_true rfl⟩) (pv_ofE (X.same _) (fun U z1 z2 => X.mono _ _ U hFc (hEw _ _ hS U z1 z2)) hP hK hD (va_recv hK hP (ci := 9) (q0 := 7) rfl rfl)) rfl rfl hl.1 rfl (lv_room (Nat.le_of_ble_eq_true rfl)) d_Tu_goBack_95 ⟨by decide, by decide⟩) hS (fun q _ h => hFc q h) hFc (fun r_ u t H locs ht hvm hw hB hz1 hk1 hS => ?_)
    rw [hw]
    obtain ⟨hP, -, hD⟩ := hB
    rw [ht] at hP
    have hD := lx_dj hD hFc
    refine lv_imul hx hb d_Tu_goBack_98 ?_
    refine lv_iconst (v := 4) hx hb d_Tu_goBack_99 (by decide) ?_
    obtain ⟨S_15, hc_15, h⟩ := lf_bE h
    have hFc := lx_free hD hS hA
    refine va_callv (va_runV (As := [.int (2 * r_14), .int 4]) (rest := []) ⟨hx, hb, hml, hown, hts⟩ (l_Tu_copySector l dC dI X _ hc_15) (cwV 2 hts (gwV good_Vt (u_Vt_Tu _ k_Tu_38) (u_Vt_Tu _ k_Tu_39) (u_Vt_Tu _ k_Tu_160) (u_Vt_Tu _ k_Tu_0) (wcs (u_Vt_Tu _ k_Tu_40) (fun _ h => h))) rfl rfl rfl (by decide +kernel) ⟨Nat.le_of_ble_eq_true rfl, Nat.le_of_ble_eq_true rfl⟩) (pv_ofE (X.same _) (fun U z1 z2 => X.mono _ _ U hFc (hEw _ _ hS U z1 z2)) hP hK hD (va_recv hK hP (ci := 10) (q0 := 8) rfl rfl)) rfl rfl hl.1 rfl (lv_room (Nat.le_of_ble_eq_true rfl)) d_Tu_goBack_100 ⟨by decide, by decide⟩) hS (fun q _ h => hFc q h) hFc (fun u t H locs ht hvm hw hB hz1 hk1 hS => ?_)
    obtain ⟨hP, -, hD⟩ := hB
    rw [ht] at hP
    have hD := lx_dj hD hFc
    refine lv_aload_n hx hb d_Tu_goBack_103 rfl (lv_at hl 0 rfl) ?_
    refine lv_iconst (v := 2) hx hb d_Tu_goBack_104 (by decide) ?_
    refine lv_aload_n hx hb d_Tu_goBack_105 rfl (lv_at hl 0 rfl) ?_
    refine va_get (D := (dC, dI)) (ci := 10) (v := .ref M.o_Pl) (C := R_Tu) (T := F_Tu) (N := 7) hx hb hts (fun w h => u_Vt_Tu w (i_Tu w h)) hown hK hP 8 rfl rfl 4 (by decide) (hts _ (u_Vt_Tu _ k_Tu_21)) (fun _ h9 => h9) rfl d_Tu_goBack_106 ?_
    refine lv_iconst (v := 1) hx hb d_Tu_goBack_109 (by decide) ?_
    obtain ⟨r_16, S_16, hc_16, h⟩ := lf_cE h
    have hFc := lx_free hD hS hA
    refine va_calli (va_runV (As := [.int 1]) (rest := [.int 2, .ref M.o_Tu]) ⟨hx, hb, hml, hown, hts⟩ (l_Pl_room l dC dI X _ hc_16) (cwV 1 hts (gwV good_Vt (u_Vt_Tu _ k_Tu_37) (u_Vt_Pl _ k_Pl_96) (u_Vt_Pl _ k_Pl_97) (u_Vt_Pl _ k_Pl_0) (wcs (u_Vt_Pl _ k_Pl_98) (fun _ h => h))) rfl rfl rfl (by decide +kernel) ⟨Nat.le_of_ble_eq_true rfl, Nat.le_of_ble_eq_true rfl⟩) (pv_ofE (X.same _) (fun U z1 z2 => X.mono _ _ U hFc (hEw _ _ hS U z1 z2)) hP hK hD (va_recv hK hP (ci := 9) (q0 := 7) rfl rfl)) rfl rfl hl.1 rfl (lv_room (Nat.le_of_ble_eq_true rfl)) d_Tu_goBack_110 ⟨by decide, by decide⟩) hS (fun q _ h => hFc q h) hFc (fun r_ u t H locs ht hvm hw hB hz1 hk1 hS => ?_)
    rw [hw]
    obtain ⟨hP, -, hD⟩ := hB
    rw [ht] at hP
    have hD := lx_dj hD hFc
    refine lv_imul hx hb d_Tu_goBack_113 ?_
    refine lv_iconst (v := 1) hx hb d_Tu_goBack_114 (by decide) ?_
    refine lv_iadd hx hb d_Tu_goBack_115 ?_
    refine lv_iconst (v := 5) hx hb d_Tu_goBack_116 (by decide) ?_
    obtain ⟨S_17, hc_17, h⟩ := lf_bE h
    have hFc := lx_free hD hS hA
    refine va_callv (va_runV (As := [.int ((2 * r_16) + 1), .int 5]) (rest := []) ⟨hx, hb, hml, hown, hts⟩ (l_Tu_copySector l dC dI X _ hc_17) (cwV 2 hts (gwV good_Vt (u_Vt_Tu _ k_Tu_38) (u_Vt_Tu _ k_Tu_39) (u_Vt_Tu _ k_Tu_160) (u_Vt_Tu _ k_Tu_0) (wcs (u_Vt_Tu _ k_Tu_40) (fun _ h => h))) rfl rfl rfl (by decide +kernel) ⟨Nat.le_of_ble_eq_true rfl, Nat.le_of_ble_eq_true rfl⟩) (pv_ofE (X.same _) (fun U z1 z2 => X.mono _ _ U hFc (hEw _ _ hS U z1 z2)) hP hK hD (va_recv hK hP (ci := 10) (q0 := 8) rfl rfl)) rfl rfl hl.1 rfl (lv_room (Nat.le_of_ble_eq_true rfl)) d_Tu_goBack_117 ⟨by decide, by decide⟩) hS (fun q _ h => hFc q h) hFc (fun u t H locs ht hvm hw hB hz1 hk1 hS => ?_)
    obtain ⟨hP, -, hD⟩ := hB
    rw [ht] at hP
    have hD := lx_dj hD hFc
    refine lv_aload_n hx hb d_Tu_goBack_120 rfl (lv_at hl 0 rfl) ?_
    refine lv_iconst (v := 2) hx hb d_Tu_goBack_121 (by decide) ?_
    refine lv_aload_n hx hb d_Tu_goBack_122 rfl (lv_at hl 0 rfl) ?_
    refine va_get (D := (dC, dI)) (ci := 10) (v := .ref M.o_Pl) (C := R_Tu) (T := F_Tu) (N := 7) hx hb hts (fun w h => u_Vt_Tu w (i_Tu w h)) hown hK hP 8 rfl rfl 4 (by decide) (hts _ (u_Vt_Tu _ k_Tu_21)) (fun _ h9 => h9) rfl d_Tu_goBack_123 ?_
    refine lv_iconst (v := 2) hx hb d_Tu_goBack_126 (by decide) ?_
    obtain ⟨r_18, S_18, hc_18, h⟩ := lf_cE h
    have hFc := lx_free hD hS hA
    refine va_calli (va_runV (As := [.int 2]) (rest := [.int 2, .ref M.o_Tu]) ⟨hx, hb, hml, hown, hts⟩ (l_Pl_room l dC dI X _ hc_18) (cwV 1 hts (gwV good_Vt (u_Vt_Tu _ k_Tu_37) (u_Vt_Pl _ k_Pl_96) (u_Vt_Pl _ k_Pl_97) (u_Vt_Pl _ k_Pl_0) (wcs (u_Vt_Pl _ k_Pl_98) (fun _ h => h))) rfl rfl rfl (by decide +kernel) ⟨Nat.le_of_ble_eq_true rfl, Nat.le_of_ble_eq_true rfl⟩) (pv_ofE (X.same _) (fun U z1 z2 => X.mono _ _ U hFc (hEw _ _ hS U z1 z2)) hP hK hD (va_recv hK hP (ci := 9) (q0 := 7) rfl rfl)) rfl rfl hl.1 rfl (lv_room (Nat.le_of_ble_eq_true rfl)) d_Tu_goBack_127 ⟨by decide, by decide⟩) hS (fun q _ h => hFc q h) hFc (fun r_ u t H locs ht hvm hw hB hz1 hk1 hS => ?_)
    rw [hw]
    obtain ⟨hP, -, hD⟩ := hB
    rw [ht] at hP
    have hD := lx_dj hD hFc
    refine lv_imul hx hb d_Tu_goBack_130 ?_
    refine lv_bipush (v := 7) hx hb d_Tu_goBack_131 (by decide) ?_
    obtain ⟨S_19, hc_19, h⟩ := lf_bE h
    have hFc := lx_free hD hS hA
    refine va_callv (va_runV (As := [.int (2 * r_18), .int 7]) (rest := []) ⟨hx, hb, hml, hown, hts⟩ (l_Tu_copySector l dC dI X _ hc_19) (cwV 2 hts (gwV good_Vt (u_Vt_Tu _ k_Tu_38) (u_Vt_Tu _ k_Tu_39) (u_Vt_Tu _ k_Tu_160) (u_Vt_Tu _ k_Tu_0) (wcs (u_Vt_Tu _ k_Tu_40) (fun _ h => h))) rfl rfl rfl (by decide +kernel) ⟨Nat.le_of_ble_eq_true rfl, Nat.le_of_ble_eq_true rfl⟩) (pv_ofE (X.same _) (fun U z1 z2 => X.mono _ _ U hFc (hEw _ _ hS U z1 z2)) hP hK hD (va_recv hK hP (ci := 10) (q0 := 8) rfl rfl)) rfl rfl hl.1 rfl (lv_room (Nat.le_of_ble_eq_true rfl)) d_Tu_goBack_133 ⟨by decide, by decide⟩) hS (fun q _ h => hFc q h) hFc (fun u t H locs ht hvm hw hB hz1 hk1 hS => ?_)
    obtain ⟨hP, -, hD⟩ := hB
    rw [ht] at hP
    have hD := lx_dj hD hFc
    rw [hQ]
    have e2 : S_19 = S' := Option.some.inj h
    have hP := ly_newP e2.symm hP
    have hD := ly_newD e2.symm hD
    exact W.vret hx hb hr (fun t ht hW => ⟨⟨(), rfl, trivial, by rw [ht]; exact hP, va_K.moved hW.alike hK, hD⟩, hS.F ht⟩) hS.2.2 d_Tu_goBack_136
  have hB_27 : ∀ (k : Nat), ∀ (y_1 : Int32) (y_2 : Int32) (S : CS) (H : Heap) (locs : List Loc) (ls : Array Slot), f_Tu_goBack_27 K G k y_1 y_2 S = some S' → va_P (dC, dI) classes (wV M Y G S) H → va_D A (wV M Y G S) → va_S A s.heap H locs → lv_has ls 3 [(0, .ref M.o_Tu), (1, .int y_1), (2, .int y_2)] → W p l e ({ frames := 5, cells := 0, slots := 0, locals := 128 }) s m ([.ref M.o_Tu] : List Value).toArray below meth c H locs 0 0 Q (F0 m 27 ls []) := by
    intro k
    induction k with
    | zero => intro y_1 y_2 S H locs ls h; exact lf_no h
    | succ k hr_27 =>
      intro y_1 y_2 S H locs ls h hP hD hS hl
      rw [f_Tu_goBack_27] at h
      refine lv_iload_n hx hb d_Tu_goBack_27 rfl (lv_at hl 2 rfl) ?_
      refine lv_aload_n hx hb d_Tu_goBack_28 rfl (lv_at hl 0 rfl) ?_
      refine va_get (D := (dC, dI)) (ci := 10) (v := .ref M.o_Tb) (C := R_Tu) (T := F_Tu) (N := 7) hx hb hts (fun w h => u_Vt_Tu w (i_Tu w h)) hown hK hP 8 rfl rfl 1 (by decide) (hts _ (u_Vt_Tu _ k_Tu_18)) (fun _ h9 => h9) rfl d_Tu_goBack_29 ?_
      refine va_get (D := (dC, dI)) (ci := 4) (v := .int S.v_Tb_clusters) (C := R_Tb) (T := F_Tb) (N := 10) hx hb hts (fun w h => u_Vt_Tb w (i_Tb w h)) hown hK hP 3 rfl rfl 7 (by decide) (hts _ (u_Vt_Tu _ k_Tu_3)) (fun _ h9 => h9) rfl d_Tu_goBack_32 ?_
      refine lv_iconst (v := 2) hx hb d_Tu_goBack_35 (by decide) ?_
      refine lv_iadd hx hb d_Tu_goBack_36 ?_
      refine lv_icmp_ge (tgt := 80) hx hb d_Tu_goBack_37 (by decide) (fun c_6 => ?_) (fun c_6 => ?_)
      · have h := lf_t h c_6
        exact hB_80 y_1 S _ _ _ h hP hD hS (lv_sub hl [0, 1] rfl)
      · have h := lf_f h c_6
        refine lv_aload_n hx hb d_Tu_goBack_40 rfl (lv_at hl 0 rfl) ?_
        refine va_get (D := (dC, dI)) (ci := 10) (v := .ref M.o_Dk) (C := R_Tu) (T := F_Tu) (N := 7) hx hb hts (fun w h => u_Vt_Tu w (i_Tu w h)) hown hK hP 8 rfl rfl 0 (by decide) (hts _ (u_Vt_Tu _ k_Tu_17)) (fun _ h9 => h9) rfl d_Tu_goBack_41 ?_
        obtain ⟨r_7, S_7, hc_7, h⟩ := lf_cE h
        have hFc := lx_free hD hS hA
        refine va_calli (va_runV (As := []) (rest := []) ⟨hx, hb, hml, hown, hts⟩ (l_Dk_isOn l dC dI X _ hc_7) (cwV 0 hts (gwV good_Vt (u_Vt_Tu _ k_Tu_43) (u_Vt_Dk _ k_Dk_44) (u_Vt_Dk _ k_Dk_45) (u_Vt_Dk _ k_Dk_0) (wcs (u_Vt_Dk _ k_Dk_46) (fun _ h => h))) rfl rfl rfl (by decide +kernel) ⟨Nat.le_of_ble_eq_true rfl, Nat.le_of_ble_eq_true rfl⟩) (pv_ofE (X.same _) (fun U z1 z2 => X.mono _ _ U hFc (hEw _ _ hS U z1 z2)) hP hK hD (va_recv hK hP (ci := 0) (q0 := 1) rfl rfl)) rfl rfl hl.1 rfl (lv_room (Nat.le_of_ble_eq_true rfl)) d_Tu_goBack_44 ⟨by decide, by decide⟩) hS (fun q _ h => hFc q h) hFc (fun r_ u t H locs ht hvm hw hB hz1 hk1 hS => ?_)
        rw [hw]
        obtain ⟨hP, -, hD⟩ := hB
        rw [ht] at hP
        have hD := lx_dj hD hFc
        refine lv_if_eq (tgt := 80) hx hb d_Tu_goBack_47 (by decide) (fun c_8 => ?_) (fun c_8 => ?_)
        · have h := lf_t h c_8
          exact hB_80 y_1 S_7 _ _ _ h hP hD hS (lv_sub hl [0, 1] rfl)
        · have h := lf_f h c_8
          refine lv_aload_n hx hb d_Tu_goBack_50 rfl (lv_at hl 0 rfl) ?_
          refine va_get (D := (dC, dI)) (ci := 10) (v := .ref M.o_Tb) (C := R_Tu) (T := F_Tu) (N := 7) hx hb hts (fun w h => u_Vt_Tu w (i_Tu w h)) hown hK hP 8 rfl rfl 1 (by decide) (hts _ (u_Vt_Tu _ k_Tu_18)) (fun _ h9 => h9) rfl d_Tu_goBack_51 ?_
          refine lv_iload_n hx hb d_Tu_goBack_54 rfl (lv_at hl 2 rfl) ?_
          obtain ⟨r_9, S_9, hc_9, h⟩ := lf_cE h
          have hFc := lx_free hD hS hA
          refine va_calli (va_runV (As := [.int y_2]) (rest := []) ⟨hx, hb, hml, hown, hts⟩ (l_Tb_goalOf l dC dI X _ hc_9) (cwV 1 hts (gwV good_Vt (u_Vt_Tu _ k_Tu_44) (u_Vt_Tb _ k_Tb_46) (u_Vt_Tb _ k_Tb_47) (u_Vt_Tb _ k_Tb_0) (wcs (u_Vt_Tb _ k_Tb_48) (fun _ h => h))) rfl rfl rfl (by decide +kernel) ⟨Nat.le_of_ble_eq_true rfl, Nat.le_of_ble_eq_true rfl⟩) (pv_ofE (X.same _) (fun U z1 z2 => X.mono _ _ U hFc (hEw _ _ hS U z1 z2)) hP hK hD (va_recv hK hP (ci := 4) (q0 := 3) rfl rfl)) rfl rfl hl.1 rfl (lv_room (Nat.le_of_ble_eq_true rfl)) d_Tu_goBack_55 ⟨by decide, by decide⟩) hS (fun q _ h => hFc q h) hFc (fun r_ u t H locs ht hvm hw hB hz1 hk1 hS => ?_)
          rw [hw]
          obtain ⟨hP, -, hD⟩ := hB
          rw [ht] at hP
          have hD := lx_dj hD hFc
          refine lv_if_eq (tgt := 74) hx hb d_Tu_goBack_58 (by decide) (fun c_10 => ?_) (fun c_10 => ?_)
          · have h := lf_t h c_10
            exact hB_74 _ hr_27 y_1 y_2 S_9 _ _ _ h hP hD hS (lv_sub hl [0, 1, 2] rfl)
          · have h := lf_f h c_10
            refine lv_aload_n hx hb d_Tu_goBack_61 rfl (lv_at hl 0 rfl) ?_
            refine lv_aload_n hx hb d_Tu_goBack_62 rfl (lv_at hl 0 rfl) ?_
            refine va_get (D := (dC, dI)) (ci := 10) (v := .ref M.o_Tb) (C := R_Tu) (T := F_Tu) (N := 7) hx hb hts (fun w h => u_Vt_Tu w (i_Tu w h)) hown hK hP 8 rfl rfl 1 (by decide) (hts _ (u_Vt_Tu _ k_Tu_18)) (fun _ h9 => h9) rfl d_Tu_goBack_63 ?_
            refine lv_iload_n hx hb d_Tu_goBack_66 rfl (lv_at hl 2 rfl) ?_
            obtain ⟨r_11, S_11, hc_11, h⟩ := lf_cE h
            have hFc := lx_free hD hS hA
            refine va_calli (va_runV (As := [.int y_2]) (rest := [.ref M.o_Tu]) ⟨hx, hb, hml, hown, hts⟩ (l_Tb_goalOf l dC dI X _ hc_11) (cwV 1 hts (gwV good_Vt (u_Vt_Tu _ k_Tu_44) (u_Vt_Tb _ k_Tb_46) (u_Vt_Tb _ k_Tb_47) (u_Vt_Tb _ k_Tb_0) (wcs (u_Vt_Tb _ k_Tb_48) (fun _ h => h))) rfl rfl rfl (by decide +kernel) ⟨Nat.le_of_ble_eq_true rfl, Nat.le_of_ble_eq_true rfl⟩) (pv_ofE (X.same _) (fun U z1 z2 => X.mono _ _ U hFc (hEw _ _ hS U z1 z2)) hP hK hD (va_recv hK hP (ci := 4) (q0 := 3) rfl rfl)) rfl rfl hl.1 rfl (lv_room (Nat.le_of_ble_eq_true rfl)) d_Tu_goBack_67 ⟨by decide, by decide⟩) hS (fun q _ h => hFc q h) hFc (fun r_ u t H locs ht hvm hw hB hz1 hk1 hS => ?_)
            rw [hw]
            obtain ⟨hP, -, hD⟩ := hB
            rw [ht] at hP
            have hD := lx_dj hD hFc
            refine lv_iload_n hx hb d_Tu_goBack_70 rfl (lv_at hl 2 rfl) ?_
            obtain ⟨S_12, hc_12, h⟩ := lf_bE h
            have hFc := lx_free hD hS hA
            refine va_callv (va_runV (As := [.int r_11, .int y_2]) (rest := []) ⟨hx, hb, hml, hown, hts⟩ (l_Tu_copyCluster l dC dI X _ hc_12) (cwV 2 hts (gwV good_Vt (u_Vt_Tu _ k_Tu_45) (u_Vt_Tu _ k_Tu_46) (u_Vt_Tu _ k_Tu_161) (u_Vt_Tu _ k_Tu_0) (wcs (u_Vt_Tu _ k_Tu_47) (fun _ h => h))) rfl rfl rfl (by decide +kernel) ⟨Nat.le_of_ble_eq_true rfl, Nat.le_of_ble_eq_true rfl⟩) (pv_ofE (X.same _) (fun U z1 z2 => X.mono _ _ U hFc (hEw _ _ hS U z1 z2)) hP hK hD (va_recv hK hP (ci := 10) (q0 := 8) rfl rfl)) rfl rfl hl.1 rfl (lv_room (Nat.le_of_ble_eq_true rfl)) d_Tu_goBack_71 ⟨by decide, by decide⟩) hS (fun q _ h => hFc q h) hFc (fun u t H locs ht hvm hw hB hz1 hk1 hS => ?_)
            obtain ⟨hP, -, hD⟩ := hB
            rw [ht] at hP
            have hD := lx_dj hD hFc
            exact hB_74 _ hr_27 y_1 y_2 S_12 _ _ _ h hP hD hS (lv_sub hl [0, 1, 2] rfl)
  rw [f_Tu_goBack] at h
  refine lv_aload_n hx hb d_Tu_goBack_0 rfl (lv_at hl 0 rfl) ?_
  obtain ⟨r_1, S_1, hc_1, h⟩ := lf_cE h
  have hFc := lx_free hD hS hA
  refine va_calli (va_runV (As := []) (rest := []) ⟨hx, hb, hml, hown, hts⟩ (l_Tu_recall l dC dI X _ hc_1) (cwV 0 hts (gwV good_Vt (u_Vt_Tu _ k_Tu_30) (u_Vt_Tu _ k_Tu_31) (u_Vt_Tu _ k_Tu_158) (u_Vt_Tu _ k_Tu_0) (wcs (u_Vt_Tu _ k_Tu_32) (fun _ h => h))) rfl rfl rfl (by decide +kernel) ⟨Nat.le_of_ble_eq_true rfl, Nat.le_of_ble_eq_true rfl⟩) (pv_ofE (X.same _) (fun U z1 z2 => X.mono _ _ U hFc (hEw _ _ hS U z1 z2)) hP hK hD (va_recv hK hP (ci := 10) (q0 := 8) rfl rfl)) rfl rfl hl.1 rfl (lv_room (Nat.le_of_ble_eq_true rfl)) d_Tu_goBack_1 ⟨by decide, by decide⟩) hS (fun q _ h => hFc q h) hFc (fun r_ u t H locs ht hvm hw hB hz1 hk1 hS => ?_)
  rw [hw]
  obtain ⟨hP, -, hD⟩ := hB
  rw [ht] at hP
  have hD := lx_dj hD hFc
  refine lv_if_ne (tgt := 8) hx hb d_Tu_goBack_4 (by decide) (fun c_2 => ?_) (fun c_2 => ?_)
  · have h := lf_f h c_2
    refine lv_iconst (v := 2) hx hb d_Tu_goBack_8 (by decide) ?_
    refine lv_aload_n hx hb d_Tu_goBack_9 rfl (lv_at hl 0 rfl) ?_
    refine va_get (D := (dC, dI)) (ci := 10) (v := .ref M.o_Pl) (C := R_Tu) (T := F_Tu) (N := 7) hx hb hts (fun w h => u_Vt_Tu w (i_Tu w h)) hown hK hP 8 rfl rfl 4 (by decide) (hts _ (u_Vt_Tu _ k_Tu_21)) (fun _ h9 => h9) rfl d_Tu_goBack_10 ?_
    refine lv_iconst (v := 0) hx hb d_Tu_goBack_13 (by decide) ?_
    obtain ⟨r_3, S_3, hc_3, h⟩ := lf_cE h
    have hFc := lx_free hD hS hA
    refine va_calli (va_runV (As := [.int 0]) (rest := [.int 2]) ⟨hx, hb, hml, hown, hts⟩ (l_Pl_room l dC dI X _ hc_3) (cwV 1 hts (gwV good_Vt (u_Vt_Tu _ k_Tu_37) (u_Vt_Pl _ k_Pl_96) (u_Vt_Pl _ k_Pl_97) (u_Vt_Pl _ k_Pl_0) (wcs (u_Vt_Pl _ k_Pl_98) (fun _ h => h))) rfl rfl rfl (by decide +kernel) ⟨Nat.le_of_ble_eq_true rfl, Nat.le_of_ble_eq_true rfl⟩) (pv_ofE (X.same _) (fun U z1 z2 => X.mono _ _ U hFc (hEw _ _ hS U z1 z2)) hP hK hD (va_recv hK hP (ci := 9) (q0 := 7) rfl rfl)) rfl rfl hl.1 rfl (lv_room (Nat.le_of_ble_eq_true rfl)) d_Tu_goBack_14 ⟨by decide, by decide⟩) hS (fun q _ h => hFc q h) hFc (fun r_ u t H locs ht hvm hw hB hz1 hk1 hS => ?_)
    rw [hw]
    obtain ⟨hP, -, hD⟩ := hB
    rw [ht] at hP
    have hD := lx_dj hD hFc
    refine lv_imul hx hb d_Tu_goBack_17 ?_
    refine lv_topi (fun x_4 ex_4 => ?_)
    have h := lf_lE h ex_4
    refine lv_istore_n (lv' := [(1, .int x_4), (0, .ref M.o_Tu)]) hx hb d_Tu_goBack_18 rfl hl (by decide) rfl (fun ls hl => ?_)
    refine lv_aload_n hx hb d_Tu_goBack_19 rfl (lv_at hl 1 rfl) ?_
    refine lv_iload_n hx hb d_Tu_goBack_20 rfl (lv_at hl 0 rfl) ?_
    refine lv_iconst (v := 2) hx hb d_Tu_goBack_21 (by decide) ?_
    obtain ⟨S_5, hc_5, h⟩ := lf_bE h
    have hFc := lx_free hD hS hA
    refine va_callv (va_runV (As := [.int x_4, .int 2]) (rest := []) ⟨hx, hb, hml, hown, hts⟩ (l_Tu_copySector l dC dI X _ hc_5) (cwV 2 hts (gwV good_Vt (u_Vt_Tu _ k_Tu_38) (u_Vt_Tu _ k_Tu_39) (u_Vt_Tu _ k_Tu_160) (u_Vt_Tu _ k_Tu_0) (wcs (u_Vt_Tu _ k_Tu_40) (fun _ h => h))) rfl rfl rfl (by decide +kernel) ⟨Nat.le_of_ble_eq_true rfl, Nat.le_of_ble_eq_true rfl⟩) (pv_ofE (X.same _) (fun U z1 z2 => X.mono _ _ U hFc (hEw _ _ hS U z1 z2)) hP hK hD (va_recv hK hP (ci := 10) (q0 := 8) rfl rfl)) rfl rfl hl.1 rfl (lv_room (Nat.le_of_ble_eq_true rfl)) d_Tu_goBack_22 ⟨by decide, by decide⟩) hS (fun q _ h => hFc q h) hFc (fun u t H locs ht hvm hw hB hz1 hk1 hS => ?_)
    obtain ⟨hP, -, hD⟩ := hB
    rw [ht] at hP
    have hD := lx_dj hD hFc
    refine lv_iconst (v := 2) hx hb d_Tu_goBack_25 (by decide) ?_
    refine lv_istore_n (lv' := [(2, .int 2), (1, .int x_4), (0, .ref M.o_Tu)]) hx hb d_Tu_goBack_26 rfl hl (by decide) rfl (fun ls hl => ?_)
    exact hB_27 K x_4 2 S_5 _ _ _ h hP hD hS (lv_sub hl [2, 1, 0] rfl)
  · have h := lf_t h c_2
    rw [hQ]
    have e2 : S_1 = S' := Option.some.inj h
    have hP := ly_newP e2.symm hP
    have hD := ly_newD e2.symm hD
    exact W.vret hx hb hr (fun t ht hW => ⟨⟨(), rfl, trivial, by rw [ht]; exact hP, va_K.moved hW.alike hK, hD⟩, hS.F ht⟩) hS.2.2 d_Tu_goBack_7
set_option maxHeartbeats 4000000 in
set_option maxRecDepth 100000 in
theorem l_Tu_empty (l : Launch) (dC : Nat → ClassId) (dI : Nat → Nat → Nat) {K : Nat} {M : CA} {E : (Nat → Prop) → State → Prop} (X : ly_X l dC dI K M E) (sz : Nat) {Y : CT} {G : CG} {S S' : CS} (h : f_Tu_empty K G S = some S') : Met l y_Tu_empty (.code y_Tu_empty b_Tu_empty 1 none :: V_Vt) ({ frames := 1, cells := 0, slots := 0, locals := 23 }) (va_Pc [.ref M.o_Tu] (fun U => U.heap.size = sz ∧ at_ (dC, dI) (fun _ => True) (wV M Y G S) (tV M) U ∧ E (va_A (wV M Y G S) sz) U)) (va_Qv (fun (u : Unit) => True) (fun (u : Unit) t => at_ (dC, dI) (va_A (wV M Y G S) sz) (wV M Y G S') (tV M) t) (va_A (wV M Y G S) sz)) 0 0 (va_A (wV M Y G S) sz) := by
  refine Met.ofW (cc := b_Tu_empty) (maxL := 1) (ret := none) (by decide) rfl ?_
  intro p e s m args below meth c s₁ B hml hv
  obtain ⟨rfl, hsz, ⟨hP, hK, hD0⟩, hE⟩ := hv
  have hx := B.exec
  have hb := B.bytes
  have hr := B.returns
  have hts0 := atoms_spec (ws := .code y_Tu_empty b_Tu_empty 1 none :: V_Vt) B.pre
  have hts : ∀ w ∈ V_Vt, w.before ([.ref M.o_Tu] : List Value).toArray s = true := fun w h => hts0 w (List.mem_cons_of_mem _ h)
  have hown : s.vm.findClass R_Tu = some m.cls := findClass_of_methodNamed B.named
  subst hsz
  have hD := hD0.self (sz := s.heap.size)
  generalize hAe : va_A (wV M Y G S) s.heap.size = A at hD hE ⊢
  have hA : ∀ q : Nat, s.heap.size ≤ q → A q := fun q h => by rw [← hAe]; exact Or.inr h
  have hS : va_S A s.heap s.heap [] := va_S.rf
  have hP : va_P (dC, dI) classes (wV M Y G S) s.heap := hP
  have hK : va_K (dC, dI) classes (tV M) s := hK
  have hEw : ∀ (H : Heap) (locs : List Loc), va_S A s.heap H locs → ∀ U : State, U.heap = H → s.WarmedH U.vm → E A U := fun H locs hS U hU hW => X.kept A s U H locs hE hS hU hW
  have hl := lv_entry ([.ref M.o_Tu]) (n := 1) (Nat.le_of_ble_eq_true rfl)
  rw [lg_entry_eq]
  generalize (lg_sl ([.ref M.o_Tu]) ++ List.replicate (1 - (lg_sl ([.ref M.o_Tu])).length) Slot.unset).toArray = ls at hl ⊢
  have hl : lv_has ls 1 [(0, .ref M.o_Tu)] := hl
  refine qabs (fun Q hQ => ?_)
  rw [f_Tu_empty] at h
  refine lv_aload_n hx hb d_Tu_empty_0 rfl (lv_at hl 0 rfl) ?_
  refine va_get (D := (dC, dI)) (ci := 10) (v := .ref M.a_Tu_block) (C := R_Tu) (T := F_Tu) (N := 7) hx hb hts (fun w h => u_Vt_Tu w (i_Tu w h)) hown hK hP 8 rfl rfl 6 (by decide) (hts _ (u_Vt_Tu _ k_Tu_23)) (fun _ h9 => h9) rfl d_Tu_empty_1 ?_
  refine lv_iconst (v := 0) hx hb d_Tu_empty_4 (by decide) ?_
  have hPc := hP.sub (ws' := [(M.a_Tu_block, .inl (M.kB, 1024, .inl S.w_Tu_block))]) [44] rfl
  have hDc := hD.sub (ws' := [(M.a_Tu_block, .inl (M.kB, 1024, .inl S.w_Tu_block))]) [44] (by decide) rfl
  have hKc := hK.sub (tys' := [(M.kB, .byte)]) [0] rfl
  have hFc := va_free (wc := [(M.a_Tu_block, .inl (M.kB, 1024, .inl S.w_Tu_block))]) hD hS hA [44] rfl
  refine va_callv (va_runS (As := [.ref M.a_Tu_block, .int 0]) (rest := []) ⟨hx, hb, hml, hown, hts⟩ (c_Ar_fillB l dC dI M.a_Tu_block _ M.kB 1024 S.w_Tu_block (by decide) 0) (va_cwS 2 hts (gwS good_Vt (u_Vt_Tu _ k_Tu_60) (u_Vt_J _ k_J_14) (u_Vt_J _ k_J_2) (wcs (u_Vt_J _ k_J_15) u_Vt_J)) rfl rfl rfl (by decide +kernel) ⟨Nat.le_of_ble_eq_true rfl, Nat.le_of_ble_eq_true rfl⟩) (ps_of hPc hKc hDc) rfl rfl hl.1 rfl (lv_room (Nat.le_of_ble_eq_true rfl)) d_Tu_empty_5 ⟨by decide, by decide⟩) hS (fun q _ h => hFc q h) hFc (fun u t H locs ht hvm hw hB hz1 hk1 hS => ?_)
  obtain ⟨hP1, -, -⟩ := hB
  rw [ht, hw] at hP1
  obtain ⟨hP, hD⟩ := lx_one hP hD (q := 44) rfl hk1 hP1
  obtain ⟨S_1, eS_1, h⟩ := lf_lX h
  have hP := ly_newP eS_1 hP
  have hD := ly_newD eS_1 hD
  rw [hQ]
  have e2 : S_1 = S' := Option.some.inj h
  have hP := ly_newP e2.symm hP
  have hD := ly_newD e2.symm hD
  exact W.vret hx hb hr (fun t ht hW => ⟨⟨(), rfl, trivial, by rw [ht]; exact hP, va_K.moved hW.alike hK, hD⟩, hS.F ht⟩) hS.2.2 d_Tu_empty_8
set_option maxHeartbeats 4000000 in
set_option maxRecDepth 100000 in
theorem l_Tu_keepSectors (l : Launch) (dC : Nat → ClassId) (dI : Nat → Nat → Nat) {K : Nat} {M : CA} {E : (Nat → Prop) → State → Prop} (X : ly_X l dC dI K M E) (sz : Nat) {Y : CT} {G : CG} {S S' : CS} (h : f_Tu_keepSectors K G S = some S') : Met l y_Tu_keepSectors (.code y_Tu_keepSectors b_Tu_keepSectors 1 none :: V_Vt) ({ frames := 3, cells := 0, slots := 0, locals := 105 }) (va_Pc [.ref M.o_Tu] (fun U => U.heap.size = sz ∧ at_ (dC, dI) (fun _ => True) (wV M Y G S) (tV M) U ∧ E (va_A (wV M Y G S) sz) U)) (va_Qv (fun (u : Unit) => True) (fun (u : Unit) t => at_ (dC, dI) (va_A (wV M Y G S) sz) (wV M Y G S') (tV M) t) (va_A (wV M Y G S) sz)) 0 0 (va_A (wV M Y G S) sz) := by
  refine Met.ofW (cc := b_Tu_keepSectors) (maxL := 1) (ret := none) (by decide) rfl ?_
  intro p e s m args below meth c s₁ B hml hv
  obtain ⟨rfl, hsz, ⟨hP, hK, hD0⟩, hE⟩ := hv
  have hx := B.exec
  have hb := B.bytes
  have hr := B.returns
  have hts0 := atoms_spec (ws := .code y_Tu_keepSectors b_Tu_keepSectors 1 none :: V_Vt) B.pre
  have hts : ∀ w ∈ V_Vt, w.before ([.ref M.o_Tu] : List Value).toArray s = true := fun w h => hts0 w (List.mem_cons_of_mem _ h)
  have hown : s.vm.findClass R_Tu = some m.cls := findClass_of_methodNamed B.named
  subst hsz
  have hD := hD0.self (sz := s.heap.size)
  generalize hAe : va_A (wV M Y G S) s.heap.size = A at hD hE ⊢
  have hA : ∀ q : Nat, s.heap.size ≤ q → A q := fun q h => by rw [← hAe]; exact Or.inr h
  have hS : va_S A s.heap s.heap [] := va_S.rf
  have hP : va_P (dC, dI) classes (wV M Y G S) s.heap := hP
  have hK : va_K (dC, dI) classes (tV M) s := hK
  have hEw : ∀ (H : Heap) (locs : List Loc), va_S A s.heap H locs → ∀ U : State, U.heap = H → s.WarmedH U.vm → E A U := fun H locs hS U hU hW => X.kept A s U H locs hE hS hU hW
  have hl := lv_entry ([.ref M.o_Tu]) (n := 1) (Nat.le_of_ble_eq_true rfl)
  rw [lg_entry_eq]
  generalize (lg_sl ([.ref M.o_Tu]) ++ List.replicate (1 - (lg_sl ([.ref M.o_Tu])).length) Slot.unset).toArray = ls at hl ⊢
  have hl : lv_has ls 1 [(0, .ref M.o_Tu)] := hl
  refine qabs (fun Q hQ => ?_)
  rw [f_Tu_keepSectors] at h
  refine lv_aload_n hx hb d_Tu_keepSectors_0 rfl (lv_at hl 0 rfl) ?_
  refine lv_iconst (v := 2) hx hb d_Tu_keepSectors_1 (by decide) ?_
  refine lv_iconst (v := 2) hx hb d_Tu_keepSectors_2 (by decide) ?_
  refine lv_aload_n hx hb d_Tu_keepSectors_3 rfl (lv_at hl 0 rfl) ?_
  refine va_get (D := (dC, dI)) (ci := 10) (v := .ref M.o_Pl) (C := R_Tu) (T := F_Tu) (N := 7) hx hb hts (fun w h => u_Vt_Tu w (i_Tu w h)) hown hK hP 8 rfl rfl 4 (by decide) (hts _ (u_Vt_Tu _ k_Tu_21)) (fun _ h9 => h9) rfl d_Tu_keepSectors_4 ?_
  refine lv_iconst (v := 0) hx hb d_Tu_keepSectors_7 (by decide) ?_
  obtain ⟨r_1, S_1, hc_1, h⟩ := lf_cE h
  have hFc := lx_free hD hS hA
  refine va_calli (va_runV (As := [.int 0]) (rest := [.int 2, .int 2, .ref M.o_Tu]) ⟨hx, hb, hml, hown, hts⟩ (l_Pl_room l dC dI X _ hc_1) (cwV 1 hts (gwV good_Vt (u_Vt_Tu _ k_Tu_37) (u_Vt_Pl _ k_Pl_96) (u_Vt_Pl _ k_Pl_97) (u_Vt_Pl _ k_Pl_0) (wcs (u_Vt_Pl _ k_Pl_98) (fun _ h => h))) rfl rfl rfl (by decide +kernel) ⟨Nat.le_of_ble_eq_true rfl, Nat.le_of_ble_eq_true rfl⟩) (pv_ofE (X.same _) (fun U z1 z2 => X.mono _ _ U hFc (hEw _ _ hS U z1 z2)) hP hK hD (va_recv hK hP (ci := 9) (q0 := 7) rfl rfl)) rfl rfl hl.1 rfl (lv_room (Nat.le_of_ble_eq_true rfl)) d_Tu_keepSectors_8 ⟨by decide, by decide⟩) hS (fun q _ h => hFc q h) hFc (fun r_ u t H locs ht hvm hw hB hz1 hk1 hS => ?_)
  rw [hw]
  obtain ⟨hP, -, hD⟩ := hB
  rw [ht] at hP
  have hD := lx_dj hD hFc
  refine lv_imul hx hb d_Tu_keepSectors_11 ?_
  obtain ⟨S_2, hc_2, h⟩ := lf_bE h
  have hFc := lx_free hD hS hA
  refine va_callv (va_runV (As := [.int 2, .int (2 * r_1)]) (rest := []) ⟨hx, hb, hml, hown, hts⟩ (l_Tu_copySector l dC dI X _ hc_2) (cwV 2 hts (gwV good_Vt (u_Vt_Tu _ k_Tu_38) (u_Vt_Tu _ k_Tu_39) (u_Vt_Tu _ k_Tu_160) (u_Vt_Tu _ k_Tu_0) (wcs (u_Vt_Tu _ k_Tu_40) (fun _ h => h))) rfl rfl rfl (by decide +kernel) ⟨Nat.le_of_ble_eq_true rfl, Nat.le_of_ble_eq_true rfl⟩) (pv_ofE (X.same _) (fun U z1 z2 => X.mono _ _ U hFc (hEw _ _ hS U z1 z2)) hP hK hD (va_recv hK hP (ci := 10) (q0 := 8) rfl rfl)) rfl rfl hl.1 rfl (lv_room (Nat.le_of_ble_eq_true rfl)) d_Tu_keepSectors_12 ⟨by decide, by decide⟩) hS (fun q _ h => hFc q h) hFc (fun u t H locs ht hvm hw hB hz1 hk1 hS => ?_)
  obtain ⟨hP, -, hD⟩ := hB
  rw [ht] at hP
  have hD := lx_dj hD hFc
  refine lv_aload_n hx hb d_Tu_keepSectors_15 rfl (lv_at hl 0 rfl) ?_
  refine lv_iconst (v := 3) hx hb d_Tu_keepSectors_16 (by decide) ?_
  refine lv_iconst (v := 2) hx hb d_Tu_keepSectors_17 (by decide) ?_
  refine lv_aload_n hx hb d_Tu_keepSectors_18 rfl (lv_at hl 0 rfl) ?_
  refine va_get (D := (dC, dI)) (ci := 10) (v := .ref M.o_Pl) (C := R_Tu) (T := F_Tu) (N := 7) hx hb hts (fun w h => u_Vt_Tu w (i_Tu w h)) hown hK hP 8 rfl rfl 4 (by decide) (hts _ (u_Vt_Tu _ k_Tu_21)) (fun _ h9 => h9) rfl d_Tu_keepSectors_19 ?_
  refine lv_iconst (v := 0) hx hb d_Tu_keepSectors_22 (by decide) ?_
  obtain ⟨r_3, S_3, hc_3, h⟩ := lf_cE h
  have hFc := lx_free hD hS hA
  refine va_calli (va_runV (As := [.int 0]) (rest := [.int 2, .int 3, .ref M.o_Tu]) ⟨hx, hb, hml, hown, hts⟩ (l_Pl_room l dC dI X _ hc_3) (cwV 1 hts (gwV good_Vt (u_Vt_Tu _ k_Tu_37) (u_Vt_Pl _ k_Pl_96) (u_Vt_Pl _ k_Pl_97) (u_Vt_Pl _ k_Pl_0) (wcs (u_Vt_Pl _ k_Pl_98) (fun _ h => h))) rfl rfl rfl (by decide +kernel) ⟨Nat.le_of_ble_eq_true rfl, Nat.le_of_ble_eq_true rfl⟩) (pv_ofE (X.same _) (fun U z1 z2 => X.mono _ _ U hFc (hEw _ _ hS U z1 z2)) hP hK hD (va_recv hK hP (ci := 9) (q0 := 7) rfl rfl)) rfl rfl hl.1 rfl (lv_room (Nat.le_of_ble_eq_true rfl)) d_Tu_keepSectors_23 ⟨by decide, by decide⟩) hS (fun q _ h => hFc q h) hFc (fun r_ u t H locs ht hvm hw hB hz1 hk1 hS => ?_)
  rw [hw]
  obtain ⟨hP, -, hD⟩ := hB
  rw [ht] at hP
  have hD := lx_dj hD hFc
  refine lv_imul hx hb d_Tu_keepSectors_26 ?_
  refine lv_iconst (v := 1) hx hb d_Tu_keepSectors_27 (by decide) ?_
  refine lv_iadd hx hb d_Tu_keepSectors_28 ?_
  obtain ⟨S_4, hc_4, h⟩ := lf_bE h
  have hFc := lx_free hD hS hA
  refine va_callv (va_runV (As := [.int 3, .int ((2 * r_3) + 1)]) (rest := []) ⟨hx, hb, hml, hown, hts⟩ (l_Tu_copySector l dC dI X _ hc_4) (cwV 2 hts (gwV good_Vt (u_Vt_Tu _ k_Tu_38) (u_Vt_Tu _ k_Tu_39) (u_Vt_Tu _ k_Tu_160) (u_Vt_Tu _ k_Tu_0) (wcs (u_Vt_Tu _ k_Tu_40) (fun _ h => h))) rfl rfl rfl (by decide +kernel) ⟨Nat.le_of_ble_eq_true rfl, Nat.le_of_ble_eq_true rfl⟩) (pv_ofE (X.same _) (fun U z1 z2 => X.mono _ _ U hFc (hEw _ _ hS U z1 z2)) hP hK hD (va_recv hK hP (ci := 10) (q0 := 8) rfl rfl)) rfl rfl hl.1 rfl (lv_room (Nat.le_of_ble_eq_true rfl)) d_Tu_keepSectors_29 ⟨by decide, by decide⟩) hS (fun q _ h => hFc q h) hFc (fun u t H locs ht hvm hw hB hz1 hk1 hS => ?_)
  obtain ⟨hP, -, hD⟩ := hB
  rw [ht] at hP
  have hD := lx_dj hD hFc
  refine lv_aload_n hx hb d_Tu_keepSectors_32 rfl (lv_at hl 0 rfl) ?_
  refine lv_iconst (v := 4) hx hb d_Tu_keepSectors_33 (by decide) ?_
  refine lv_iconst (v := 2) hx hb d_Tu_keepSectors_34 (by decide) ?_
  refine lv_aload_n hx hb d_Tu_keepSectors_35 rfl (lv_at hl 0 rfl) ?_
  refine va_get (D := (dC, dI)) (ci := 10) (v := .ref M.o_Pl) (C := R_Tu) (T := F_Tu) (N := 7) hx hb hts (fun w h => u_Vt_Tu w (i_Tu w h)) hown hK hP 8 rfl rfl 4 (by decide) (hts _ (u_Vt_Tu _ k_Tu_21)) (fun _ h9 => h9) rfl d_Tu_keepSectors_36 ?_
  refine lv_iconst (v := 1) hx hb d_Tu_keepSectors_39 (by decide) ?_
  obtain ⟨r_5, S_5, hc_5, h⟩ := lf_cE h
  have hFc := lx_free hD hS hA
  refine va_calli (va_runV (As := [.int 1]) (rest := [.int 2, .int 4, .ref M.o_Tu]) ⟨hx, hb, hml, hown, hts⟩ (l_Pl_room l dC dI X _ hc_5) (cwV 1 hts (gwV good_Vt (u_Vt_Tu _ k_Tu_37) (u_Vt_Pl _ k_Pl_96) (u_Vt_Pl _ k_Pl_97) (u_Vt_Pl _ k_Pl_0) (wcs (u_Vt_Pl _ k_Pl_98) (fun _ h => h))) rfl rfl rfl (by decide +kernel) ⟨Nat.le_of_ble_eq_true rfl, Nat.le_of_ble_eq_true rfl⟩) (pv_ofE (X.same _) (fun U z1 z2 => X.mono _ _ U hFc (hEw _ _ hS U z1 z2)) hP hK hD (va_recv hK hP (ci := 9) (q0 := 7) rfl rfl)) rfl rfl hl.1 rfl (lv_room (Nat.le_of_ble_eq_true rfl)) d_Tu_keepSectors_40 ⟨by decide, by decide⟩) hS (fun q _ h => hFc q h) hFc (fun r_ u t H locs ht hvm hw hB hz1 hk1 hS => ?_)
  rw [hw]
  obtain ⟨hP, -, hD⟩ := hB
  rw [ht] at hP
  have hD := lx_dj hD hFc
  refine lv_imul hx hb d_Tu_keepSectors_43 ?_
  obtain ⟨S_6, hc_6, h⟩ := lf_bE h
  have hFc := lx_free hD hS hA
  refine va_callv (va_runV (As := [.int 4, .int (2 * r_5)]) (rest := []) ⟨hx, hb, hml, hown, hts⟩ (l_Tu_copySector l dC dI X _ hc_6) (cwV 2 hts (gwV good_Vt (u_Vt_Tu _ k_Tu_38) (u_Vt_Tu _ k_Tu_39) (u_Vt_Tu _ k_Tu_160) (u_Vt_Tu _ k_Tu_0) (wcs (u_Vt_Tu _ k_Tu_40) (fun _ h => h))) rfl rfl rfl (by decide +kernel) ⟨Nat.le_of_ble_eq_true rfl, Nat.le_of_ble_eq_true rfl⟩) (pv_ofE (X.same _) (fun U z1 z2 => X.mono _ _ U hFc (hEw _ _ hS U z1 z2)) hP hK hD (va_recv hK hP (ci := 10) (q0 := 8) rfl rfl)) rfl rfl hl.1 rfl (lv_room (Nat.le_of_ble_eq_true rfl)) d_Tu_keepSectors_44 ⟨by decide, by decide⟩) hS (fun q _ h => hFc q h) hFc (fun u t H locs ht hvm hw hB hz1 hk1 hS => ?_)
  obtain ⟨hP, -, hD⟩ := hB
  rw [ht] at hP
  have hD := lx_dj hD hFc
  refine lv_aload_n hx hb d_Tu_keepSectors_47 rfl (lv_at hl 0 rfl) ?_
  refine lv_iconst (v := 5) hx hb d_Tu_keepSectors_48 (by decide) ?_
  refine lv_iconst (v := 2) hx hb d_Tu_keepSectors_49 (by decide) ?_
  refine lv_aload_n hx hb d_Tu_keepSectors_50 rfl (lv_at hl 0 rfl) ?_
  refine va_get (D := (dC, dI)) (ci := 10) (v := .ref M.o_Pl) (C := R_Tu) (T := F_Tu) (N := 7) hx hb hts (fun w h => u_Vt_Tu w (i_Tu w h)) hown hK hP 8 rfl rfl 4 (by decide) (hts _ (u_Vt_Tu _ k_Tu_21)) (fun _ h9 => h9) rfl d_Tu_keepSectors_51 ?_
  refine lv_iconst (v := 1) hx hb d_Tu_keepSectors_54 (by decide) ?_
  obtain ⟨r_7, S_7, hc_7, h⟩ := lf_cE h
  have hFc := lx_free hD hS hA
  refine va_calli (va_runV (As := [.int 1]) (rest := [.int 2, .int 5, .ref M.o_Tu]) ⟨hx, hb, hml, hown, hts⟩ (l_Pl_room l dC dI X _ hc_7) (cwV 1 hts (gwV good_Vt (u_Vt_Tu _ k_Tu_37) (u_Vt_Pl _ k_Pl_96) (u_Vt_Pl _ k_Pl_97) (u_Vt_Pl _ k_Pl_0) (wcs (u_Vt_Pl _ k_Pl_98) (fun _ h => h))) rfl rfl rfl (by decide +kernel) ⟨Nat.le_of_ble_eq_true rfl, Nat.le_of_ble_eq_true rfl⟩) (pv_ofE (X.same _) (fun U z1 z2 => X.mono _ _ U hFc (hEw _ _ hS U z1 z2)) hP hK hD (va_recv hK hP (ci := 9) (q0 := 7) rfl rfl)) rfl rfl hl.1 rfl (lv_room (Nat.le_of_ble_eq_true rfl)) d_Tu_keepSectors_55 ⟨by decide, by decide⟩) hS (fun q _ h => hFc q h) hFc (fun r_ u t H locs ht hvm hw hB hz1 hk1 hS => ?_)
  rw [hw]
  obtain ⟨hP, -, hD⟩ := hB
  rw [ht] at hP
  have hD := lx_dj hD hFc
  refine lv_imul hx hb d_Tu_keepSectors_58 ?_
  refine lv_iconst (v := 1) hx hb d_Tu_keepSectors_59 (by decide) ?_
  refine lv_iadd hx hb d_Tu_keepSectors_60 ?_
  obtain ⟨S_8, hc_8, h⟩ := lf_bE h
  have hFc := lx_free hD hS hA
  refine va_callv (va_runV (As := [.int 5, .int ((2 * r_7) + 1)]) (rest := []) ⟨hx, hb, hml, hown, hts⟩ (l_Tu_copySector l dC dI X _ hc_8) (cwV 2 hts (gwV good_Vt (u_Vt_Tu _ k_Tu_38) (u_Vt_Tu _ k_Tu_39) (u_Vt_Tu _ k_Tu_160) (u_Vt_Tu _ k_Tu_0) (wcs (u_Vt_Tu _ k_Tu_40) (fun _ h => h))) rfl rfl rfl (by decide +kernel) ⟨Nat.le_of_ble_eq_true rfl, Nat.le_of_ble_eq_true rfl⟩) (pv_ofE (X.same _) (fun U z1 z2 => X.mono _ _ U hFc (hEw _ _ hS U z1 z2)) hP hK hD (va_recv hK hP (ci := 10) (q0 := 8) rfl rfl)) rfl rfl hl.1 rfl (lv_room (Nat.le_of_ble_eq_true rfl)) d_Tu_keepSectors_61 ⟨by decide, by decide⟩) hS (fun q _ h => hFc q h) hFc (fun u t H locs ht hvm hw hB hz1 hk1 hS => ?_)
  obtain ⟨hP, -, hD⟩ := hB
  rw [ht] at hP
  have hD := lx_dj hD hFc
  refine lv_aload_n hx hb d_Tu_keepSectors_64 rfl (lv_at hl 0 rfl) ?_
  refine lv_bipush (v := 7) hx hb d_Tu_keepSectors_65 (by decide) ?_
  refine lv_iconst (v := 2) hx hb d_Tu_keepSectors_67 (by decide) ?_
  refine lv_aload_n hx hb d_Tu_keepSectors_68 rfl (lv_at hl 0 rfl) ?_
  refine va_get (D := (dC, dI)) (ci := 10) (v := .ref M.o_Pl) (C := R_Tu) (T := F_Tu) (N := 7) hx hb hts (fun w h => u_Vt_Tu w (i_Tu w h)) hown hK hP 8 rfl rfl 4 (by decide) (hts _ (u_Vt_Tu _ k_Tu_21)) (fun _ h9 => h9) rfl d_Tu_keepSectors_69 ?_
  refine lv_iconst (v := 2) hx hb d_Tu_keepSectors_72 (by decide) ?_
  obtain ⟨r_9, S_9, hc_9, h⟩ := lf_cE h
  have hFc := lx_free hD hS hA
  refine va_calli (va_runV (As := [.int 2]) (rest := [.int 2, .int 7, .ref M.o_Tu]) ⟨hx, hb, hml, hown, hts⟩ (l_Pl_room l dC dI X _ hc_9) (cwV 1 hts (gwV good_Vt (u_Vt_Tu _ k_Tu_37) (u_Vt_Pl _ k_Pl_96) (u_Vt_Pl _ k_Pl_97) (u_Vt_Pl _ k_Pl_0) (wcs (u_Vt_Pl _ k_Pl_98) (fun _ h => h))) rfl rfl rfl (by decide +kernel) ⟨Nat.le_of_ble_eq_true rfl, Nat.le_of_ble_eq_true rfl⟩) (pv_ofE (X.same _) (fun U z1 z2 => X.mono _ _ U hFc (hEw _ _ hS U z1 z2)) hP hK hD (va_recv hK hP (ci := 9) (q0 := 7) rfl rfl)) rfl rfl hl.1 rfl (lv_room (Nat.le_of_ble_eq_true rfl)) d_Tu_keepSectors_73 ⟨by decide, by decide⟩) hS (fun q _ h => hFc q h) hFc (fun r_ u t H locs ht hvm hw hB hz1 hk1 hS => ?_)
  rw [hw]
  obtain ⟨hP, -, hD⟩ := hB
  rw [ht] at hP
  have hD := lx_dj hD hFc
  refine lv_imul hx hb d_Tu_keepSectors_76 ?_
  obtain ⟨S_10, hc_10, h⟩ := lf_bE h
  have hFc := lx_free hD hS hA
  refine va_callv (va_runV (As := [.int 7, .int (2 * r_9)]) (rest := []) ⟨hx, hb, hml, hown, hts⟩ (l_Tu_copySector l dC dI X _ hc_10) (cwV 2 hts (gwV good_Vt (u_Vt_Tu _ k_Tu_38) (u_Vt_Tu _ k_Tu_39) (u_Vt_Tu _ k_Tu_160) (u_Vt_Tu _ k_Tu_0) (wcs (u_Vt_Tu _ k_Tu_40) (fun _ h => h))) rfl rfl rfl (by decide +kernel) ⟨Nat.le_of_ble_eq_true rfl, Nat.le_of_ble_eq_true rfl⟩) (pv_ofE (X.same _) (fun U z1 z2 => X.mono _ _ U hFc (hEw _ _ hS U z1 z2)) hP hK hD (va_recv hK hP (ci := 10) (q0 := 8) rfl rfl)) rfl rfl hl.1 rfl (lv_room (Nat.le_of_ble_eq_true rfl)) d_Tu_keepSectors_77 ⟨by decide, by decide⟩) hS (fun q _ h => hFc q h) hFc (fun u t H locs ht hvm hw hB hz1 hk1 hS => ?_)
  obtain ⟨hP, -, hD⟩ := hB
  rw [ht] at hP
  have hD := lx_dj hD hFc
  refine lv_aload_n hx hb d_Tu_keepSectors_80 rfl (lv_at hl 0 rfl) ?_
  obtain ⟨S_11, hc_11, h⟩ := lf_bE h
  have hFc := lx_free hD hS hA
  refine va_callv (va_runV (As := []) (rest := []) ⟨hx, hb, hml, hown, hts⟩ (l_Tu_empty l dC dI X _ hc_11) (cwV 0 hts (gwV good_Vt (u_Vt_Tu _ k_Tu_57) (u_Vt_Tu _ k_Tu_58) (u_Vt_Tu _ k_Tu_164) (u_Vt_Tu _ k_Tu_0) (wcs (u_Vt_Tu _ k_Tu_59) (fun _ h => h))) rfl rfl rfl (by decide +kernel) ⟨Nat.le_of_ble_eq_true rfl, Nat.le_of_ble_eq_true rfl⟩) (pv_ofE (X.same _) (fun U z1 z2 => X.mono _ _ U hFc (hEw _ _ hS U z1 z2)) hP hK hD (va_recv hK hP (ci := 10) (q0 := 8) rfl rfl)) rfl rfl hl.1 rfl (lv_room (Nat.le_of_ble_eq_true rfl)) d_Tu_keepSectors_81 ⟨by decide, by decide⟩) hS (fun q _ h => hFc q h) hFc (fun u t H locs ht hvm hw hB hz1 hk1 hS => ?_)
  obtain ⟨hP, -, hD⟩ := hB
  rw [ht] at hP
  have hD := lx_dj hD hFc
  refine lv_aload_n hx hb d_Tu_keepSectors_84 rfl (lv_at hl 0 rfl) ?_
  refine va_get (D := (dC, dI)) (ci := 10) (v := .ref M.o_Dk) (C := R_Tu) (T := F_Tu) (N := 7) hx hb hts (fun w h => u_Vt_Tu w (i_Tu w h)) hown hK hP 8 rfl rfl 0 (by decide) (hts _ (u_Vt_Tu _ k_Tu_17)) (fun _ h9 => h9) rfl d_Tu_keepSectors_85 ?_
  refine lv_iconst (v := 2) hx hb d_Tu_keepSectors_88 (by decide) ?_
  refine lv_aload_n hx hb d_Tu_keepSectors_89 rfl (lv_at hl 0 rfl) ?_
  refine va_get (D := (dC, dI)) (ci := 10) (v := .ref M.o_Pl) (C := R_Tu) (T := F_Tu) (N := 7) hx hb hts (fun w h => u_Vt_Tu w (i_Tu w h)) hown hK hP 8 rfl rfl 4 (by decide) (hts _ (u_Vt_Tu _ k_Tu_21)) (fun _ h9 => h9) rfl d_Tu_keepSectors_90 ?_
  refine lv_iconst (v := 2) hx hb d_Tu_keepSectors_93 (by decide) ?_
  obtain ⟨r_12, S_12, hc_12, h⟩ := lf_cE h
  have hFc := lx_free hD hS hA
  refine va_calli (va_runV (As := [.int 2]) (rest := [.int 2, .ref M.o_Dk]) ⟨hx, hb, hml, hown, hts⟩ (l_Pl_room l dC dI X _ hc_12) (cwV 1 hts (gwV good_Vt (u_Vt_Tu _ k_Tu_37) (u_Vt_Pl _ k_Pl_96) (u_Vt_Pl _ k_Pl_97) (u_Vt_Pl _ k_Pl_0) (wcs (u_Vt_Pl _ k_Pl_98) (fun _ h => h))) rfl rfl rfl (by decide +kernel) ⟨Nat.le_of_ble_eq_true rfl, Nat.le_of_ble_eq_true rfl⟩) (pv_ofE (X.same _) (fun U z1 z2 => X.mono _ _ U hFc (hEw _ _ hS U z1 z2)) hP hK hD (va_recv hK hP (ci := 9) (q0 := 7) rfl rfl)) rfl rfl hl.1 rfl (lv_room (Nat.le_of_ble_eq_true rfl)) d_Tu_keepSectors_94 ⟨by decide, by decide⟩) hS (fun q _ h => hFc q h) hFc (fun r_ u t H locs ht hvm hw hB hz1 hk1 hS => ?_)
  rw [hw]
  obtain ⟨hP, -, hD⟩ := hB
  rw [ht] at hP
  have hD := lx_dj hD hFc
  refine lv_imul hx hb d_Tu_keepSectors_97 ?_
  refine lv_iconst (v := 1) hx hb d_Tu_keepSectors_98 (by decide) ?_
  refine lv_iadd hx hb d_Tu_keepSectors_99 ?_
  refine lv_aload_n hx hb d_Tu_keepSectors_100 rfl (lv_at hl 0 rfl) ?_
  refine va_get (D := (dC, dI)) (ci := 10) (v := .ref M.a_Tu_block) (C := R_Tu) (T := F_Tu) (N := 7) hx hb hts (fun w h => u_Vt_Tu w (i_Tu w h)) hown hK hP 8 rfl rfl 6 (by decide) (hts _ (u_Vt_Tu _ k_Tu_23)) (fun _ h9 => h9) rfl d_Tu_keepSectors_101 ?_
  refine lv_iconst (v := 0) hx hb d_Tu_keepSectors_104 (by decide) ?_
  obtain ⟨S_13, hc_13, h⟩ := lf_bE h
  have hFc := lx_free hD hS hA
  refine va_callv (va_runV (As := [.int ((2 * r_12) + 1), .ref M.a_Tu_block, .int 0]) (rest := []) ⟨hx, hb, hml, hown, hts⟩ (l_Dk_store_Tublock l dC dI X _ hc_13) (cwV 3 hts (gwV good_Vt (u_Vt_Tu _ k_Tu_42) (u_Vt_Dk _ k_Dk_41) (u_Vt_Dk _ k_Dk_42) (u_Vt_Dk _ k_Dk_0) (wcs (u_Vt_Dk _ k_Dk_43) (fun _ h => h))) rfl rfl rfl (by decide +kernel) ⟨Nat.le_of_ble_eq_true rfl, Nat.le_of_ble_eq_true rfl⟩) (pv_ofE (X.same _) (fun U z1 z2 => X.mono _ _ U hFc (hEw _ _ hS U z1 z2)) hP hK hD (va_recv hK hP (ci := 0) (q0 := 1) rfl rfl)) rfl rfl hl.1 rfl (lv_room (Nat.le_of_ble_eq_true rfl)) d_Tu_keepSectors_105 ⟨by decide, by decide⟩) hS (fun q _ h => hFc q h) hFc (fun u t H locs ht hvm hw hB hz1 hk1 hS => ?_)
  obtain ⟨hP, -, hD⟩ := hB
  rw [ht] at hP
  have hD := lx_dj hD hFc
  rw [hQ]
  have e2 : S_13 = S' := Option.some.inj h
  have hP := ly_newP e2.symm hP
  have hD := ly_newD e2.symm hD
  exact W.vret hx hb hr (fun t ht hW => ⟨⟨(), rfl, trivial, by rw [ht]; exact hP, va_K.moved hW.alike hK, hD⟩, hS.F ht⟩) hS.2.2 d_Tu_keepSectors_108
set_option maxHeartbeats 4000000 in
set_option maxRecDepth 100000 in
theorem l_Tu_putTwo (l : Launch) (dC : Nat → ClassId) (dI : Nat → Nat → Nat) {K : Nat} {M : CA} {E : (Nat → Prop) → State → Prop} (X : ly_X l dC dI K M E) (sz : Nat) {Y : CT} {G : CG} {S S' : CS} {p0 : Int32} {p1 : Int32} (h : f_Tu_putTwo K G S p0 p1 = some S') : Met l y_Tu_putTwo (.code y_Tu_putTwo b_Tu_putTwo 3 none :: V_Vt) ({ frames := 0, cells := 0, slots := 0, locals := 0 }) (va_Pc [.ref M.o_Tu, .int p0, .int p1] (fun U => U.heap.size = sz ∧ at_ (dC, dI) (fun _ => True) (wV M Y G S) (tV M) U ∧ E (va_A (wV M Y G S) sz) U)) (va_Qv (fun (u : Unit) => True) (fun (u : Unit) t => at_ (dC, dI) (va_A (wV M Y G S) sz) (wV M Y G S') (tV M) t) (va_A (wV M Y G S) sz)) 0 0 (va_A (wV M Y G S) sz) := by
  refine Met.ofW (cc := b_Tu_putTwo) (maxL := 3) (ret := none) (by decide) rfl ?_
  intro p e s m args below meth c s₁ B hml hv
  obtain ⟨rfl, hsz, ⟨hP, hK, hD0⟩, hE⟩ := hv
  have hx := B.exec
  have hb := B.bytes
  have hr := B.returns
  have hts0 := atoms_spec (ws := .code y_Tu_putTwo b_Tu_putTwo 3 none :: V_Vt) B.pre
  have hts : ∀ w ∈ V_Vt, w.before ([.ref M.o_Tu, .int p0, .int p1] : List Value).toArray s = true := fun w h => hts0 w (List.mem_cons_of_mem _ h)
  have hown : s.vm.findClass R_Tu = some m.cls := findClass_of_methodNamed B.named
  subst hsz
  have hD := hD0.self (sz := s.heap.size)
  generalize hAe : va_A (wV M Y G S) s.heap.size = A at hD hE ⊢
  have hA : ∀ q : Nat, s.heap.size ≤ q → A q := fun q h => by rw [← hAe]; exact Or.inr h
  have hS : va_S A s.heap s.heap [] := va_S.rf
  have hP : va_P (dC, dI) classes (wV M Y G S) s.heap := hP
  have hK : va_K (dC, dI) classes (tV M) s := hK
  have hEw : ∀ (H : Heap) (locs : List Loc), va_S A s.heap H locs → ∀ U : State, U.heap = H → s.WarmedH U.vm → E A U := fun H locs hS U hU hW => X.kept A s U H locs hE hS hU hW
  have hl := lv_entry ([.ref M.o_Tu, .int p0, .int p1]) (n := 3) (Nat.le_of_ble_eq_true rfl)
  rw [lg_entry_eq]
  generalize (lg_sl ([.ref M.o_Tu, .int p0, .int p1]) ++ List.replicate (3 - (lg_sl ([.ref M.o_Tu, .int p0, .int p1])).length) Slot.unset).toArray = ls at hl ⊢
  have hl : lv_has ls 3 [(0, .ref M.o_Tu), (1, .int p0), (2, .int p1)] := hl
  refine qabs (fun Q hQ => ?_)
  rw [f_Tu_putTwo] at h
  refine lv_iload_n hx hb d_Tu_putTwo_0 rfl (lv_at hl 1 rfl) ?_
  refine lv_if_lt (tgt := 32) hx hb d_Tu_putTwo_1 (by decide) (fun c_1 => ?_) (fun c_1 => ?_)
  · have h := lf_t h c_1
    rw [hQ]
    have e2 : S = S' := Option.some.inj h
    have hP := ly_newP e2.symm hP
    have hD := ly_newD e2.symm hD
    exact W.vret hx hb hr (fun t ht hW => ⟨⟨(), rfl, trivial, by rw [ht]; exact hP, va_K.moved hW.alike hK, hD⟩, hS.F ht⟩) hS.2.2 d_Tu_putTwo_32
  · have h := lf_f h c_1
    refine lv_iload_n hx hb d_Tu_putTwo_4 rfl (lv_at hl 1 rfl) ?_
    refine lv_sipush (v := 1022) hx hb d_Tu_putTwo_5 (by decide) ?_
    refine lv_icmp_gt (tgt := 32) hx hb d_Tu_putTwo_8 (by decide) (fun c_2 => ?_) (fun c_2 => ?_)
    · have h := lf_t h c_2
      rw [hQ]
      have e2 : S = S' := Option.some.inj h
      have hP := ly_newP e2.symm hP
      have hD := ly_newD e2.symm hD
      exact W.vret hx hb hr (fun t ht hW => ⟨⟨(), rfl, trivial, by rw [ht]; exact hP, va_K.moved hW.alike hK, hD⟩, hS.F ht⟩) hS.2.2 d_Tu_putTwo_32
    · have h := lf_f h c_2
      refine lv_aload_n hx hb d_Tu_putTwo_11 rfl (lv_at hl 0 rfl) ?_
      refine va_get (D := (dC, dI)) (ci := 10) (v := .ref M.a_Tu_block) (C := R_Tu) (T := F_Tu) (N := 7) hx hb hts (fun w h => u_Vt_Tu w (i_Tu w h)) hown hK hP 8 rfl rfl 6 (by decide) (hts _ (u_Vt_Tu _ k_Tu_23)) (fun _ h9 => h9) rfl d_Tu_putTwo_12 ?_
      refine lv_iload_n hx hb d_Tu_putTwo_15 rfl (lv_at hl 1 rfl) ?_
      refine lv_iload_n hx hb d_Tu_putTwo_16 rfl (lv_at hl 2 rfl) ?_
      refine lv_i2b hx hb d_Tu_putTwo_17 rfl ?_
      obtain ⟨g_3, h⟩ := lf_gE h
      refine va_bast hx hb hK hP hD hS 44 0 rfl rfl g_3 d_Tu_putTwo_18 (fun H locs hP hD hS => ?_)
      obtain ⟨S_4, eS_4, h⟩ := lf_lX h
      have hP := ly_newP eS_4 hP
      have hD := ly_newD eS_4 hD
      refine lv_aload_n hx hb d_Tu_putTwo_19 rfl (lv_at hl 0 rfl) ?_
      refine va_get (D := (dC, dI)) (ci := 10) (v := .ref M.a_Tu_block) (C := R_Tu) (T := F_Tu) (N := 7) hx hb hts (fun w h => u_Vt_Tu w (i_Tu w h)) hown hK hP 8 rfl rfl 6 (by decide) (hts _ (u_Vt_Tu _ k_Tu_23)) (fun _ h9 => h9) rfl d_Tu_putTwo_20 ?_
      refine lv_iload_n hx hb d_Tu_putTwo_23 rfl (lv_at hl 1 rfl) ?_
      refine lv_iconst (v := 1) hx hb d_Tu_putTwo_24 (by decide) ?_
      refine lv_iadd hx hb d_Tu_putTwo_25 ?_
      refine lv_iload_n hx hb d_Tu_putTwo_26 rfl (lv_at hl 2 rfl) ?_
      refine lv_bipush (v := 8) hx hb d_Tu_putTwo_27 (by decide) ?_
      refine lv_ishr hx hb d_Tu_putTwo_29 ?_
      refine lv_i2b hx hb d_Tu_putTwo_30 rfl ?_
      obtain ⟨g_5, h⟩ := lf_gE h
      refine va_bast hx hb hK hP hD hS 44 0 rfl rfl g_5 d_Tu_putTwo_31 (fun H locs hP hD hS => ?_)
      obtain ⟨S_6, eS_6, h⟩ := lf_lX h
      have hP := ly_newP eS_6 hP
      have hD := ly_newD eS_6 hD
      rw [hQ]
      have e2 : S_6 = S' := Option.some.inj h
      have hP := ly_newP e2.symm hP
      have hD := ly_newD e2.symm hD
      exact W.vret hx hb hr (fun t ht hW => ⟨⟨(), rfl, trivial, by rw [ht]; exact hP, va_K.moved hW.alike hK, hD⟩, hS.F ht⟩) hS.2.2 d_Tu_putTwo_32
set_option maxHeartbeats 4000000 in
set_option maxRecDepth 100000 in
theorem l_Tu_storeBlock (l : Launch) (dC : Nat → ClassId) (dI : Nat → Nat → Nat) {K : Nat} {M : CA} {E : (Nat → Prop) → State → Prop} (X : ly_X l dC dI K M E) (sz : Nat) {Y : CT} {G : CG} {S S' : CS} {p0 : Int32} (h : f_Tu_storeBlock K G S p0 = some S') : Met l y_Tu_storeBlock (.code y_Tu_storeBlock b_Tu_storeBlock 2 none :: V_Vt) ({ frames := 2, cells := 0, slots := 0, locals := 83 }) (va_Pc [.ref M.o_Tu, .int p0] (fun U => U.heap.size = sz ∧ at_ (dC, dI) (fun _ => True) (wV M Y G S) (tV M) U ∧ E (va_A (wV M Y G S) sz) U)) (va_Qv (fun (u : Unit) => True) (fun (u : Unit) t => at_ (dC, dI) (va_A (wV M Y G S) sz) (wV M Y G S') (tV M) t) (va_A (wV M Y G S) sz)) 0 0 (va_A (wV M Y G S) sz) := by
  refine Met.ofW (cc := b_Tu_storeBlock) (maxL := 2) (ret := none) (by decide) rfl ?_
  intro p e s m args below meth c s₁ B hml hv
  obtain ⟨rfl, hsz, ⟨hP, hK, hD0⟩, hE⟩ := hv
  have hx := B.exec
  have hb := B.bytes
  have hr := B.returns
  have hts0 := atoms_spec (ws := .code y_Tu_storeBlock b_Tu_storeBlock 2 none :: V_Vt) B.pre
  have hts : ∀ w ∈ V_Vt, w.before ([.ref M.o_Tu, .int p0] : List Value).toArray s = true := fun w h => hts0 w (List.mem_cons_of_mem _ h)
  have hown : s.vm.findClass R_Tu = some m.cls := findClass_of_methodNamed B.named
  subst hsz
  have hD := hD0.self (sz := s.heap.size)
  generalize hAe : va_A (wV M Y G S) s.heap.size = A at hD hE ⊢
  have hA : ∀ q : Nat, s.heap.size ≤ q → A q := fun q h => by rw [← hAe]; exact Or.inr h
  have hS : va_S A s.heap s.heap [] := va_S.rf
  have hP : va_P (dC, dI) classes (wV M Y G S) s.heap := hP
  have hK : va_K (dC, dI) classes (tV M) s := hK
  have hEw : ∀ (H : Heap) (locs : List Loc), va_S A s.heap H locs → ∀ U : State, U.heap = H → s.WarmedH U.vm → E A U := fun H locs hS U hU hW => X.kept A s U H locs hE hS hU hW
  have hl := lv_entry ([.ref M.o_Tu, .int p0]) (n := 2) (Nat.le_of_ble_eq_true rfl)
  rw [lg_entry_eq]
  generalize (lg_sl ([.ref M.o_Tu, .int p0]) ++ List.replicate (2 - (lg_sl ([.ref M.o_Tu, .int p0])).length) Slot.unset).toArray = ls at hl ⊢
  have hl : lv_has ls 2 [(0, .ref M.o_Tu), (1, .int p0)] := hl
  refine qabs (fun Q hQ => ?_)
  rw [f_Tu_storeBlock] at h
  refine lv_aload_n hx hb d_Tu_storeBlock_0 rfl (lv_at hl 0 rfl) ?_
  refine va_get (D := (dC, dI)) (ci := 10) (v := .ref M.o_Dk) (C := R_Tu) (T := F_Tu) (N := 7) hx hb hts (fun w h => u_Vt_Tu w (i_Tu w h)) hown hK hP 8 rfl rfl 0 (by decide) (hts _ (u_Vt_Tu _ k_Tu_17)) (fun _ h9 => h9) rfl d_Tu_storeBlock_1 ?_
  refine lv_iconst (v := 2) hx hb d_Tu_storeBlock_4 (by decide) ?_
  refine lv_iload_n hx hb d_Tu_storeBlock_5 rfl (lv_at hl 1 rfl) ?_
  refine lv_imul hx hb d_Tu_storeBlock_6 ?_
  refine lv_aload_n hx hb d_Tu_storeBlock_7 rfl (lv_at hl 0 rfl) ?_
  refine va_get (D := (dC, dI)) (ci := 10) (v := .ref M.a_Tu_block) (C := R_Tu) (T := F_Tu) (N := 7) hx hb hts (fun w h => u_Vt_Tu w (i_Tu w h)) hown hK hP 8 rfl rfl 6 (by decide) (hts _ (u_Vt_Tu _ k_Tu_23)) (fun _ h9 => h9) rfl d_Tu_storeBlock_8 ?_
  refine lv_iconst (v := 0) hx hb d_Tu_storeBlock_11 (by decide) ?_
  obtain ⟨S_1, hc_1, h⟩ := lf_bE h
  have hFc := lx_free hD hS hA
  refine va_callv (va_runV (As := [.int (2 * p0), .ref M.a_Tu_block, .int 0]) (rest := []) ⟨hx, hb, hml, hown, hts⟩ (l_Dk_store_Tublock l dC dI X _ hc_1) (cwV 3 hts (gwV good_Vt (u_Vt_Tu _ k_Tu_42) (u_Vt_Dk _ k_Dk_41) (u_Vt_Dk _ k_Dk_42) (u_Vt_Dk _ k_Dk_0) (wcs (u_Vt_Dk _ k_Dk_43) (fun _ h => h))) rfl rfl rfl (by decide +kernel) ⟨Nat.le_of_ble_eq_true rfl, Nat.le_of_ble_eq_true rfl⟩) (pv_ofE (X.same _) (fun U z1 z2 => X.mono _ _ U hFc (hEw _ _ hS U z1 z2)) hP hK hD (va_recv hK hP (ci := 0) (q0 := 1) rfl rfl)) rfl rfl hl.1 rfl (lv_room (Nat.le_of_ble_eq_true rfl)) d_Tu_storeBlock_12 ⟨by decide, by decide⟩) hS (fun q _ h => hFc q h) hFc (fun u t H locs ht hvm hw hB hz1 hk1 hS => ?_)
  obtain ⟨hP, -, hD⟩ := hB
  rw [ht] at hP
  have hD := lx_dj hD hFc
  refine lv_aload_n hx hb d_Tu_storeBlock_15 rfl (lv_at hl 0 rfl) ?_
  refine va_get (D := (dC, dI)) (ci := 10) (v := .ref M.o_Dk) (C := R_Tu) (T := F_Tu) (N := 7) hx hb hts (fun w h => u_Vt_Tu w (i_Tu w h)) hown hK hP 8 rfl rfl 0 (by decide) (hts _ (u_Vt_Tu _ k_Tu_17)) (fun _ h9 => h9) rfl d_Tu_storeBlock_16 ?_
  refine lv_iconst (v := 2) hx hb d_Tu_storeBlock_19 (by decide) ?_
  refine lv_iload_n hx hb d_Tu_storeBlock_20 rfl (lv_at hl 1 rfl) ?_
  refine lv_imul hx hb d_Tu_storeBlock_21 ?_
  refine lv_iconst (v := 1) hx hb d_Tu_storeBlock_22 (by decide) ?_
  refine lv_iadd hx hb d_Tu_storeBlock_23 ?_
  refine lv_aload_n hx hb d_Tu_storeBlock_24 rfl (lv_at hl 0 rfl) ?_
  refine va_get (D := (dC, dI)) (ci := 10) (v := .ref M.a_Tu_block) (C := R_Tu) (T := F_Tu) (N := 7) hx hb hts (fun w h => u_Vt_Tu w (i_Tu w h)) hown hK hP 8 rfl rfl 6 (by decide) (hts _ (u_Vt_Tu _ k_Tu_23)) (fun _ h9 => h9) rfl d_Tu_storeBlock_25 ?_
  refine lv_sipush (v := 512) hx hb d_Tu_storeBlock_28 (by decide) ?_
  obtain ⟨S_2, hc_2, h⟩ := lf_bE h
  have hFc := lx_free hD hS hA
  refine va_callv (va_runV (As := [.int ((2 * p0) + 1), .ref M.a_Tu_block, .int 512]) (rest := []) ⟨hx, hb, hml, hown, hts⟩ (l_Dk_store_Tublock l dC dI X _ hc_2) (cwV 3 hts (gwV good_Vt (u_Vt_Tu _ k_Tu_42) (u_Vt_Dk _ k_Dk_41) (u_Vt_Dk _ k_Dk_42) (u_Vt_Dk _ k_Dk_0) (wcs (u_Vt_Dk _ k_Dk_43) (fun _ h => h))) rfl rfl rfl (by decide +kernel) ⟨Nat.le_of_ble_eq_true rfl, Nat.le_of_ble_eq_true rfl⟩) (pv_ofE (X.same _) (fun U z1 z2 => X.mono _ _ U hFc (hEw _ _ hS U z1 z2)) hP hK hD (va_recv hK hP (ci := 0) (q0 := 1) rfl rfl)) rfl rfl hl.1 rfl (lv_room (Nat.le_of_ble_eq_true rfl)) d_Tu_storeBlock_31 ⟨by decide, by decide⟩) hS (fun q _ h => hFc q h) hFc (fun u t H locs ht hvm hw hB hz1 hk1 hS => ?_)
  obtain ⟨hP, -, hD⟩ := hB
  rw [ht] at hP
  have hD := lx_dj hD hFc
  rw [hQ]
  have e2 : S_2 = S' := Option.some.inj h
  have hP := ly_newP e2.symm hP
  have hD := ly_newD e2.symm hD
  exact W.vret hx hb hr (fun t ht hW => ⟨⟨(), rfl, trivial, by rw [ht]; exact hP, va_K.moved hW.alike hK, hD⟩, hS.F ht⟩) hS.2.2 d_Tu_storeBlock_34
set_option maxHeartbeats 4000000 in
set_option maxRecDepth 100000 in
theorem l_Tu_inodeOf (l : Launch) (dC : Nat → ClassId) (dI : Nat → Nat → Nat) {K : Nat} (sz : Nat) {p0 : Int32} {r : Int32} (h : f_Tu_inodeOf K p0 = some r) : Met l y_Tu_inodeOf (.code y_Tu_inodeOf b_Tu_inodeOf 1 (some .int) :: V_Vt) ({ frames := 0, cells := 0, slots := 0, locals := 0 }) (va_Pc [.int p0] (fun U => U.heap.size = sz ∧ at_ (dC, dI) (fun _ => True) [] [] U)) (va_Qi (fun (r_ : Int32) (u : Unit) => r_ = r) (fun (u : Unit) t => at_ (dC, dI) (va_A [] sz) [] [] t) (va_A [] sz)) 0 0 (va_A [] sz) := by
  refine Met.ofW (cc := b_Tu_inodeOf) (maxL := 1) (ret := (some .int)) (by decide) rfl ?_
  intro p e s m args below meth c s₁ B hml hv
  obtain ⟨rfl, hsz, hP, hK, hD0⟩ := hv
  have hx := B.exec
  have hb := B.bytes
  have hr := B.returns
  have hts0 := atoms_spec (ws := .code y_Tu_inodeOf b_Tu_inodeOf 1 (some .int) :: V_Vt) B.pre
  have hts : ∀ w ∈ V_Vt, w.before ([.int p0] : List Value).toArray s = true := fun w h => hts0 w (List.mem_cons_of_mem _ h)
  have hown : s.vm.findClass R_Tu = some m.cls := findClass_of_methodNamed B.named
  subst hsz
  have hD := hD0.self (sz := s.heap.size)
  generalize hAe : va_A [] s.heap.size = A at hD ⊢
  have hA : ∀ q : Nat, s.heap.size ≤ q → A q := fun q h => by rw [← hAe]; exact Or.inr h
  have hS : va_S A s.heap s.heap [] := va_S.rf
  have hP : va_P (dC, dI) classes [] s.heap := hP
  have hK : va_K (dC, dI) classes [] s := hK
  have hl := lv_entry ([.int p0]) (n := 1) (Nat.le_of_ble_eq_true rfl)
  rw [lg_entry_eq]
  generalize (lg_sl ([.int p0]) ++ List.replicate (1 - (lg_sl ([.int p0])).length) Slot.unset).toArray = ls at hl ⊢
  have hl : lv_has ls 1 [(0, .int p0)] := hl
  refine qabs (fun Q hQ => ?_)
  rw [f_Tu_inodeOf] at h
  refine lv_iload_n hx hb d_Tu_inodeOf_0 rfl (lv_at hl 0 rfl) ?_
  refine lv_if_ne (tgt := 8) hx hb d_Tu_inodeOf_1 (by decide) (fun c_1 => ?_) (fun c_1 => ?_)
  · have h := lf_f h c_1
    refine lv_bipush (v := 11) hx hb d_Tu_inodeOf_8 (by decide) ?_
    refine lv_iload_n hx hb d_Tu_inodeOf_10 rfl (lv_at hl 0 rfl) ?_
    refine lv_iadd hx hb d_Tu_inodeOf_11 ?_
    rw [hQ]
    have e1 : (11 + p0) = r := Option.some.inj h
    exact W.iret (v := (11 + p0)) hx hb hr (fun t ht hW => ⟨⟨(11 + p0), (), rfl, e1, by rw [ht]; exact hP, va_K.moved hW.alike hK, hD⟩, hS.F ht⟩) hS.2.2 d_Tu_inodeOf_12
  · have h := lf_t h c_1
    refine lv_iconst (v := 2) hx hb d_Tu_inodeOf_4 (by decide) ?_
    refine lv_goto (tgt := 12) hx hb d_Tu_inodeOf_5 (by decide) ?_
    rw [hQ]
    have e1 : (2 : Int32) = r := Option.some.inj h
    exact W.iret (v := 2) hx hb hr (fun t ht hW => ⟨⟨2, (), rfl, e1, by rw [ht]; exact hP, va_K.moved hW.alike hK, hD⟩, hS.F ht⟩) hS.2.2 d_Tu_inodeOf_12
set_option maxHeartbeats 4000000 in
set_option maxRecDepth 100000 in
theorem l_Tu_putFour (l : Launch) (dC : Nat → ClassId) (dI : Nat → Nat → Nat) {K : Nat} {M : CA} {E : (Nat → Prop) → State → Prop} (X : ly_X l dC dI K M E) (sz : Nat) {Y : CT} {G : CG} {S S' : CS} {p0 : Int32} {p1 : Int32} (h : f_Tu_putFour K G S p0 p1 = some S') : Met l y_Tu_putFour (.code y_Tu_putFour b_Tu_putFour 3 none :: V_Vt) ({ frames := 0, cells := 0, slots := 0, locals := 0 }) (va_Pc [.ref M.o_Tu, .int p0, .int p1] (fun U => U.heap.size = sz ∧ at_ (dC, dI) (fun _ => True) (wV M Y G S) (tV M) U ∧ E (va_A (wV M Y G S) sz) U)) (va_Qv (fun (u : Unit) => True) (fun (u : Unit) t => at_ (dC, dI) (va_A (wV M Y G S) sz) (wV M Y G S') (tV M) t) (va_A (wV M Y G S) sz)) 0 0 (va_A (wV M Y G S) sz) := by
  refine Met.ofW (cc := b_Tu_putFour) (maxL := 3) (ret := none) (by decide) rfl ?_
  intro p e s m args below meth c s₁ B hml hv
  obtain ⟨rfl, hsz, ⟨hP, hK, hD0⟩, hE⟩ := hv
  have hx := B.exec
  have hb := B.bytes
  have hr := B.returns
  have hts0 := atoms_spec (ws := .code y_Tu_putFour b_Tu_putFour 3 none :: V_Vt) B.pre
  have hts : ∀ w ∈ V_Vt, w.before ([.ref M.o_Tu, .int p0, .int p1] : List Value).toArray s = true := fun w h => hts0 w (List.mem_cons_of_mem _ h)
  have hown : s.vm.findClass R_Tu = some m.cls := findClass_of_methodNamed B.named
  subst hsz
  have hD := hD0.self (sz := s.heap.size)
  generalize hAe : va_A (wV M Y G S) s.heap.size = A at hD hE ⊢
  have hA : ∀ q : Nat, s.heap.size ≤ q → A q := fun q h => by rw [← hAe]; exact Or.inr h
  have hS : va_S A s.heap s.heap [] := va_S.rf
  have hP : va_P (dC, dI) classes (wV M Y G S) s.heap := hP
  have hK : va_K (dC, dI) classes (tV M) s := hK
  have hEw : ∀ (H : Heap) (locs : List Loc), va_S A s.heap H locs → ∀ U : State, U.heap = H → s.WarmedH U.vm → E A U := fun H locs hS U hU hW => X.kept A s U H locs hE hS hU hW
  have hl := lv_entry ([.ref M.o_Tu, .int p0, .int p1]) (n := 3) (Nat.le_of_ble_eq_true rfl)
  rw [lg_entry_eq]
  generalize (lg_sl ([.ref M.o_Tu, .int p0, .int p1]) ++ List.replicate (3 - (lg_sl ([.ref M.o_Tu, .int p0, .int p1])).length) Slot.unset).toArray = ls at hl ⊢
  have hl : lv_has ls 3 [(0, .ref M.o_Tu), (1, .int p0), (2, .int p1)] := hl
  refine qabs (fun Q hQ => ?_)
  rw [f_Tu_putFour] at h
  refine lv_iload_n hx hb d_Tu_putFour_0 rfl (lv_at hl 1 rfl) ?_
  refine lv_if_lt (tgt := 58) hx hb d_Tu_putFour_1 (by decide) (fun c_1 => ?_) (fun c_1 => ?_)
  · have h := lf_t h c_1
    rw [hQ]
    have e2 : S = S' := Option.some.inj h
    have hP := ly_newP e2.symm hP
    have hD := ly_newD e2.symm hD
    exact W.vret hx hb hr (fun t ht hW => ⟨⟨(), rfl, trivial, by rw [ht]; exact hP, va_K.moved hW.alike hK, hD⟩, hS.F ht⟩) hS.2.2 d_Tu_putFour_58
  · have h := lf_f h c_1
    refine lv_iload_n hx hb d_Tu_putFour_4 rfl (lv_at hl 1 rfl) ?_
    refine lv_sipush (v := 1020) hx hb d_Tu_putFour_5 (by decide) ?_
    refine lv_icmp_gt (tgt := 58) hx hb d_Tu_putFour_8 (by decide) (fun c_2 => ?_) (fun c_2 => ?_)
    · have h := lf_t h c_2
      rw [hQ]
      have e2 : S = S' := Option.some.inj h
      have hP := ly_newP e2.symm hP
      have hD := ly_newD e2.symm hD
      exact W.vret hx hb hr (fun t ht hW => ⟨⟨(), rfl, trivial, by rw [ht]; exact hP, va_K.moved hW.alike hK, hD⟩, hS.F ht⟩) hS.2.2 d_Tu_putFour_58
    · have h := lf_f h c_2
      refine lv_aload_n hx hb d_Tu_putFour_11 rfl (lv_at hl 0 rfl) ?_
      refine va_get (D := (dC, dI)) (ci := 10) (v := .ref M.a_Tu_block) (C := R_Tu) (T := F_Tu) (N := 7) hx hb hts (fun w h => u_Vt_Tu w (i_Tu w h)) hown hK hP 8 rfl rfl 6 (by decide) (hts _ (u_Vt_Tu _ k_Tu_23)) (fun _ h9 => h9) rfl d_Tu_putFour_12 ?_
      refine lv_iload_n hx hb d_Tu_putFour_15 rfl (lv_at hl 1 rfl) ?_
      refine lv_iload_n hx hb d_Tu_putFour_16 rfl (lv_at hl 2 rfl) ?_
      refine lv_i2b hx hb d_Tu_putFour_17 rfl ?_
      obtain ⟨g_3, h⟩ := lf_gE h
      refine va_bast hx hb hK hP hD hS 44 0 rfl rfl g_3 d_Tu_putFour_18 (fun H locs hP hD hS => ?_)
      obtain ⟨S_4, eS_4, h⟩ := lf_lX h
      have hP := ly_newP eS_4 hP
      have hD := ly_newD eS_4 hD
      refine lv_aload_n hx hb d_Tu_putFour_19 rfl (lv_at hl 0 rfl) ?_
      refine va_get (D := (dC, dI)) (ci := 10) (v := .ref M.a_Tu_block) (C := R_Tu) (T := F_Tu) (N := 7) hx hb hts (fun w h => u_Vt_Tu w (i_Tu w h)) hown hK hP 8 rfl rfl 6 (by decide) (hts _ (u_Vt_Tu _ k_Tu_23)) (fun _ h9 => h9) rfl d_Tu_putFour_20 ?_
      refine lv_iload_n hx hb d_Tu_putFour_23 rfl (lv_at hl 1 rfl) ?_
      refine lv_iconst (v := 1) hx hb d_Tu_putFour_24 (by decide) ?_
      refine lv_iadd hx hb d_Tu_putFour_25 ?_
      refine lv_iload_n hx hb d_Tu_putFour_26 rfl (lv_at hl 2 rfl) ?_
      refine lv_bipush (v := 8) hx hb d_Tu_putFour_27 (by decide) ?_
      refine lv_ishr hx hb d_Tu_putFour_29 ?_
      refine lv_i2b hx hb d_Tu_putFour_30 rfl ?_
      obtain ⟨g_5, h⟩ := lf_gE h
      refine va_bast hx hb hK hP hD hS 44 0 rfl rfl g_5 d_Tu_putFour_31 (fun H locs hP hD hS => ?_)
      obtain ⟨S_6, eS_6, h⟩ := lf_lX h
      have hP := ly_newP eS_6 hP
      have hD := ly_newD eS_6 hD
      refine lv_aload_n hx hb d_Tu_putFour_32 rfl (lv_at hl 0 rfl) ?_
      refine va_get (D := (dC, dI)) (ci := 10) (v := .ref M.a_Tu_block) (C := R_Tu) (T := F_Tu) (N := 7) hx hb hts (fun w h => u_Vt_Tu w (i_Tu w h)) hown hK hP 8 rfl rfl 6 (by decide) (hts _ (u_Vt_Tu _ k_Tu_23)) (fun _ h9 => h9) rfl d_Tu_putFour_33 ?_
      refine lv_iload_n hx hb d_Tu_putFour_36 rfl (lv_at hl 1 rfl) ?_
      refine lv_iconst (v := 2) hx hb d_Tu_putFour_37 (by decide) ?_
      refine lv_iadd hx hb d_Tu_putFour_38 ?_
      refine lv_iload_n hx hb d_Tu_putFour_39 rfl (lv_at hl 2 rfl) ?_
      refine lv_bipush (v := 16) hx hb d_Tu_putFour_40 (by decide) ?_
      refine lv_ishr hx hb d_Tu_putFour_42 ?_
      refine lv_i2b hx hb d_Tu_putFour_43 rfl ?_
      obtain ⟨g_7, h⟩ := lf_gE h
      refine va_bast hx hb hK hP hD hS 44 0 rfl rfl g_7 d_Tu_putFour_44 (fun H locs hP hD hS => ?_)
      obtain ⟨S_8, eS_8, h⟩ := lf_lX h
      have hP := ly_newP eS_8 hP
      have hD := ly_newD eS_8 hD
      refine lv_aload_n hx hb d_Tu_putFour_45 rfl (lv_at hl 0 rfl) ?_
      refine va_get (D := (dC, dI)) (ci := 10) (v := .ref M.a_Tu_block) (C := R_Tu) (T := F_Tu) (N := 7) hx hb hts (fun w h => u_Vt_Tu w (i_Tu w h)) hown hK hP 8 rfl rfl 6 (by decide) (hts _ (u_Vt_Tu _ k_Tu_23)) (fun _ h9 => h9) rfl d_Tu_putFour_46 ?_
      refine lv_iload_n hx hb d_Tu_putFour_49 rfl (lv_at hl 1 rfl) ?_
      refine lv_iconst (v := 3) hx hb d_Tu_putFour_50 (by decide) ?_
      refine lv_iadd hx hb d_Tu_putFour_51 ?_
      refine lv_iload_n hx hb d_Tu_putFour_52 rfl (lv_at hl 2 rfl) ?_
      refine lv_bipush (v := 24) hx hb d_Tu_putFour_53 (by decide) ?_
      refine lv_ishr hx hb d_Tu_putFour_55 ?_
      refine lv_i2b hx hb d_Tu_putFour_56 rfl ?_
      obtain ⟨g_9, h⟩ := lf_gE h
      refine va_bast hx hb hK hP hD hS 44 0 rfl rfl g_9 d_Tu_putFour_57 (fun H locs hP hD hS => ?_)
      obtain ⟨S_10, eS_10, h⟩ := lf_lX h
      have hP := ly_newP eS_10 hP
      have hD := ly_newD eS_10 hD
      rw [hQ]
      have e2 : S_10 = S' := Option.some.inj h
      have hP := ly_newP e2.symm hP
      have hD := ly_newD e2.symm hD
      exact W.vret hx hb hr (fun t ht hW => ⟨⟨(), rfl, trivial, by rw [ht]; exact hP, va_K.moved hW.alike hK, hD⟩, hS.F ht⟩) hS.2.2 d_Tu_putFour_58
set_option maxHeartbeats 4000000 in
set_option maxRecDepth 100000 in
theorem l_Tu_putOne (l : Launch) (dC : Nat → ClassId) (dI : Nat → Nat → Nat) {K : Nat} {M : CA} {E : (Nat → Prop) → State → Prop} (X : ly_X l dC dI K M E) (sz : Nat) {Y : CT} {G : CG} {S S' : CS} {p0 : Int32} {p1 : Int32} (h : f_Tu_putOne K G S p0 p1 = some S') : Met l y_Tu_putOne (.code y_Tu_putOne b_Tu_putOne 3 none :: V_Vt) ({ frames := 0, cells := 0, slots := 0, locals := 0 }) (va_Pc [.ref M.o_Tu, .int p0, .int p1] (fun U => U.heap.size = sz ∧ at_ (dC, dI) (fun _ => True) (wV M Y G S) (tV M) U ∧ E (va_A (wV M Y G S) sz) U)) (va_Qv (fun (u : Unit) => True) (fun (u : Unit) t => at_ (dC, dI) (va_A (wV M Y G S) sz) (wV M Y G S') (tV M) t) (va_A (wV M Y G S) sz)) 0 0 (va_A (wV M Y G S) sz) := by
  refine Met.ofW (cc := b_Tu_putOne) (maxL := 3) (ret := none) (by decide) rfl ?_
  intro p e s m args below meth c s₁ B hml hv
  obtain ⟨rfl, hsz, ⟨hP, hK, hD0⟩, hE⟩ := hv
  have hx := B.exec
  have hb := B.bytes
  have hr := B.returns
  have hts0 := atoms_spec (ws := .code y_Tu_putOne b_Tu_putOne 3 none :: V_Vt) B.pre
  have hts : ∀ w ∈ V_Vt, w.before ([.ref M.o_Tu, .int p0, .int p1] : List Value).toArray s = true := fun w h => hts0 w (List.mem_cons_of_mem _ h)
  have hown : s.vm.findClass R_Tu = some m.cls := findClass_of_methodNamed B.named
  subst hsz
  have hD := hD0.self (sz := s.heap.size)
  generalize hAe : va_A (wV M Y G S) s.heap.size = A at hD hE ⊢
  have hA : ∀ q : Nat, s.heap.size ≤ q → A q := fun q h => by rw [← hAe]; exact Or.inr h
  have hS : va_S A s.heap s.heap [] := va_S.rf
  have hP : va_P (dC, dI) classes (wV M Y G S) s.heap := hP
  have hK : va_K (dC, dI) classes (tV M) s := hK
  have hEw : ∀ (H : Heap) (locs : List Loc), va_S A s.heap H locs → ∀ U : State, U.heap = H → s.WarmedH U.vm → E A U := fun H locs hS U hU hW => X.kept A s U H locs hE hS hU hW
  have hl := lv_entry ([.ref M.o_Tu, .int p0, .int p1]) (n := 3) (Nat.le_of_ble_eq_true rfl)
  rw [lg_entry_eq]
  generalize (lg_sl ([.ref M.o_Tu, .int p0, .int p1]) ++ List.replicate (3 - (lg_sl ([.ref M.o_Tu, .int p0, .int p1])).length) Slot.unset).toArray = ls at hl ⊢
  have hl : lv_has ls 3 [(0, .ref M.o_Tu), (1, .int p0), (2, .int p1)] := hl
  refine qabs (fun Q hQ => ?_)
  rw [f_Tu_putOne] at h
  refine lv_iload_n hx hb d_Tu_putOne_0 rfl (lv_at hl 1 rfl) ?_
  refine lv_if_lt (tgt := 19) hx hb d_Tu_putOne_1 (by decide) (fun c_1 => ?_) (fun c_1 => ?_)
  · have h := lf_t h c_1
    rw [hQ]
    have e2 : S = S' := Option.some.inj h
    have hP := ly_newP e2.symm hP
    have hD := ly_newD e2.symm hD
    exact W.vret hx hb hr (fun t ht hW => ⟨⟨(), rfl, trivial, by rw [ht]; exact hP, va_K.moved hW.alike hK, hD⟩, hS.F ht⟩) hS.2.2 d_Tu_putOne_19
  · have h := lf_f h c_1
    refine lv_iload_n hx hb d_Tu_putOne_4 rfl (lv_at hl 1 rfl) ?_
    refine lv_sipush (v := 1024) hx hb d_Tu_putOne_5 (by decide) ?_
    refine lv_icmp_ge (tgt := 19) hx hb d_Tu_putOne_8 (by decide) (fun c_2 => ?_) (fun c_2 => ?_)
    · have h := lf_t h c_2
      rw [hQ]
      have e2 : S = S' := Option.some.inj h
      have hP := ly_newP e2.symm hP
      have hD := ly_newD e2.symm hD
      exact W.vret hx hb hr (fun t ht hW => ⟨⟨(), rfl, trivial, by rw [ht]; exact hP, va_K.moved hW.alike hK, hD⟩, hS.F ht⟩) hS.2.2 d_Tu_putOne_19
    · have h := lf_f h c_2
      refine lv_aload_n hx hb d_Tu_putOne_11 rfl (lv_at hl 0 rfl) ?_
      refine va_get (D := (dC, dI)) (ci := 10) (v := .ref M.a_Tu_block) (C := R_Tu) (T := F_Tu) (N := 7) hx hb hts (fun w h => u_Vt_Tu w (i_Tu w h)) hown hK hP 8 rfl rfl 6 (by decide) (hts _ (u_Vt_Tu _ k_Tu_23)) (fun _ h9 => h9) rfl d_Tu_putOne_12 ?_
      refine lv_iload_n hx hb d_Tu_putOne_15 rfl (lv_at hl 1 rfl) ?_
      refine lv_iload_n hx hb d_Tu_putOne_16 rfl (lv_at hl 2 rfl) ?_
      refine lv_i2b hx hb d_Tu_putOne_17 rfl ?_
      obtain ⟨g_3, h⟩ := lf_gE h
      refine va_bast hx hb hK hP hD hS 44 0 rfl rfl g_3 d_Tu_putOne_18 (fun H locs hP hD hS => ?_)
      obtain ⟨S_4, eS_4, h⟩ := lf_lX h
      have hP := ly_newP eS_4 hP
      have hD := ly_newD eS_4 hD
      rw [hQ]
      have e2 : S_4 = S' := Option.some.inj h
      have hP := ly_newP e2.symm hP
      have hD := ly_newD e2.symm hD
      exact W.vret hx hb hr (fun t ht hW => ⟨⟨(), rfl, trivial, by rw [ht]; exact hP, va_K.moved hW.alike hK, hD⟩, hS.F ht⟩) hS.2.2 d_Tu_putOne_19
set_option maxHeartbeats 4000000 in
set_option maxRecDepth 100000 in
theorem l_Tu_buildDirectory (l : Launch) (dC : Nat → ClassId) (dI : Nat → Nat → Nat) {K : Nat} {M : CA} {E : (Nat → Prop) → State → Prop} (X : ly_X l dC dI K M E) (sz : Nat) {Y : CT} {G : CG} {S S' : CS} {p0 : Int32} (h : f_Tu_buildDirectory K G S p0 = some S') : Met l y_Tu_buildDirectory (.code y_Tu_buildDirectory b_Tu_buildDirectory 7 none :: V_Vt) ({ frames := 10, cells := 0, slots := 0, locals := 300 }) (va_Pc [.ref M.o_Tu, .int p0] (fun U => U.heap.size = sz ∧ at_ (dC, dI) (fun _ => True) (wV M Y G S) (tV M) U ∧ E (va_A (wV M Y G S) sz) U)) (va_Qv (fun (u : Unit) => True) (fun (u : Unit) t => at_ (dC, dI) (va_A (wV M Y G S) sz) (wV M Y G S') (tV M) t) (va_A (wV M Y G S) sz)) 0 0 (va_A (wV M Y G S) sz) := by
  refine Met.ofW (cc := b_Tu_buildDirectory) (maxL := 7) (ret := none) (by decide) rfl ?_
  intro p e s m args below meth c s₁ B hml hv
  obtain ⟨rfl, hsz, ⟨hP, hK, hD0⟩, hE⟩ := hv
  have hx := B.exec
  have hb := B.bytes
  have hr := B.returns
  have hts0 := atoms_spec (ws := .code y_Tu_buildDirectory b_Tu_buildDirectory 7 none :: V_Vt) B.pre
  have hts : ∀ w ∈ V_Vt, w.before ([.ref M.o_Tu, .int p0] : List Value).toArray s = true := fun w h => hts0 w (List.mem_cons_of_mem _ h)
  have hown : s.vm.findClass R_Tu = some m.cls := findClass_of_methodNamed B.named
  subst hsz
  have hD := hD0.self (sz := s.heap.size)
  generalize hAe : va_A (wV M Y G S) s.heap.size = A at hD hE ⊢
  have hA : ∀ q : Nat, s.heap.size ≤ q → A q := fun q h => by rw [← hAe]; exact Or.inr h
  have hS : va_S A s.heap s.heap [] := va_S.rf
  have hP : va_P (dC, dI) classes (wV M Y G S) s.heap := hP
  have hK : va_K (dC, dI) classes (tV M) s := hK
  have hEw : ∀ (H : Heap) (locs : List Loc), va_S A s.heap H locs → ∀ U : State, U.heap = H → s.WarmedH U.vm → E A U := fun H locs hS U hU hW => X.kept A s U H locs hE hS hU hW
  have hl := lv_entry ([.ref M.o_Tu, .int p0]) (n := 7) (Nat.le_of_ble_eq_true rfl)
  rw [lg_entry_eq]
  generalize (lg_sl ([.ref M.o_Tu, .int p0]) ++ List.replicate (7 - (lg_sl ([.ref M.o_Tu, .int p0])).length) Slot.unset).toArray = ls at hl ⊢
  have hl : lv_has ls 7 [(0, .ref M.o_Tu), (1, .int p0)] := hl
  refine qabs (fun Q hQ => ?_)
  have hB_94 : ∀ (rec_21 : Int32 → Int32 → Int32 → Int32 → Int32 → CS → Option (CS)) (hr_21 : ∀ (y_1 : Int32) (y_2 : Int32) (y_3 : Int32) (y_4 : Int32) (y_5 : Int32) (S : CS) (H : Heap) (locs : List Loc) (ls : Array Slot), rec_21 y_1 y_2 y_3 y_4 y_5 S = some S' → va_P (dC, dI) classes (wV M Y G S) H → va_D A (wV M Y G S) → va_S A s.heap H locs → lv_has ls 7 [(0, .ref M.o_Tu), (1, .int y_1), (2, .int y_2), (3, .int y_3), (4, .int y_4), (5, .int y_5)] → W p l e ({ frames := 10, cells := 0, slots := 0, locals := 300 }) s m ([.ref M.o_Tu, .int p0] : List Value).toArray below meth c H locs 0 0 Q (F0 m 21 ls [])), ∀ (y_1 : Int32) (y_2 : Int32) (y_3 : Int32) (y_5 : Int32) (y_6 : Int32) (S : CS) (H : Heap) (locs : List Loc) (ls : Array Slot), f_Tu_buildDirectory_94 K G rec_21 y_1 y_2 y_3 y_5 y_6 S = some S' → va_P (dC, dI) classes (wV M Y G S) H → va_D A (wV M Y G S) → va_S A s.heap H locs → lv_has ls 7 [(0, .ref M.o_Tu), (1, .int y_1), (2, .int y_2), (3, .int y_3), (5, .int y_5), (6, .int y_6)] → W p l e ({ frames := 10, cells := 0, slots := 0, locals := 300 }) s m ([.ref M.o_Tu, .int p0] : List Value).toArray below meth c H locs 0 0 Q (F0 m 94 ls []) := by
    intro rec_21 hr_21 y_1 y_2 y_3 y_5 y_6 S H locs ls h hP hD hS hl
    rw [f_Tu_buildDirectory_94] at h
    refine lv_aload_n hx hb d_Tu_buildDirectory_94 rfl (lv_at hl 0 rfl) ?_
    refine lv_iload_n hx hb d_Tu_buildDirectory_95 rfl (lv_at hl 3 rfl) ?_
    refine lv_iload_n hx hb d_Tu_buildDirectory_96 rfl (lv_at hl 1 rfl) ?_
    refine lv_iload hx hb d_Tu_buildDirectory_97 (lv_at hl 4 rfl) ?_
    obtain ⟨S_16, hc_16, h⟩ := lf_bE h
    have hFc := lx_free hD hS hA
    refine va_callv (va_runV (As := [.int y_3, .int y_1, .int y_5]) (rest := []) ⟨hx, hb, hml, hown, hts⟩ (X.Tu_putEntry _ hc_16) (cwV 3 hts (gwV good_Vt (u_Vt_Tu _ k_Tu_75) (u_Vt_Tu _ k_Tu_76) (u_Vt_Tu _ k_Tu_170) (u_Vt_Tu _ k_Tu_0) (wcs (u_Vt_Tu _ k_Tu_77) (fun _ h => h))) rfl rfl rfl (by decide +kernel) ⟨Nat.le_of_ble_eq_true rfl, Nat.le_of_ble_eq_true rfl⟩) (pv_ofE (X.same _) (fun U z1 z2 => X.mono _ _ U hFc (hEw _ _ hS U z1 z2)) hP hK hD (va_recv hK hP (ci := 10) (q0 := 8) rfl rfl)) rfl rfl hl.1 rfl (lv_room (Nat.le_of_ble_eq_true rfl)) d_Tu_buildDirectory_99 ⟨by decide, by decide⟩) hS (fun q _ h => hFc q h) hFc (fun u t H locs ht hvm hw hB hz1 hk1 hS => ?_)
    obtain ⟨hP, -, hD⟩ := hB
    rw [ht] at hP
    have hD := lx_dj hD hFc
    refine lv_aload_n hx hb d_Tu_buildDirectory_102 rfl (lv_at hl 0 rfl) ?_
    refine lv_iload_n hx hb d_Tu_buildDirectory_103 rfl (lv_at hl 3 rfl) ?_
    refine lv_iconst (v := 4) hx hb d_Tu_buildDirectory_104 (by decide) ?_
    refine lv_iadd hx hb d_Tu_buildDirectory_105 ?_
    refine lv_iload hx hb d_Tu_buildDirectory_106 (lv_at hl 5 rfl) ?_
    obtain ⟨S_17, hc_17, h⟩ := lf_bE h
    have hFc := lx_free hD hS hA
    refine va_callv (va_runV (As := [.int (y_3 + 4), .int y_6]) (rest := []) ⟨hx, hb, hml, hown, hts⟩ (l_Tu_putTwo l dC dI X _ hc_17) (cwV 2 hts (gwV good_Vt (u_Vt_Tu _ k_Tu_69) (u_Vt_Tu _ k_Tu_70) (u_Vt_Tu _ k_Tu_167) (u_Vt_Tu _ k_Tu_0) (wcs (u_Vt_Tu _ k_Tu_71) (fun _ h => h))) rfl rfl rfl (by decide +kernel) ⟨Nat.le_of_ble_eq_true rfl, Nat.le_of_ble_eq_true rfl⟩) (pv_ofE (X.same _) (fun U z1 z2 => X.mono _ _ U hFc (hEw _ _ hS U z1 z2)) hP hK hD (va_recv hK hP (ci := 10) (q0 := 8) rfl rfl)) rfl rfl hl.1 rfl (lv_room (Nat.le_of_ble_eq_true rfl)) d_Tu_buildDirectory_108 ⟨by decide, by decide⟩) hS (fun q _ h => hFc q h) hFc (fun u t H locs ht hvm hw hB hz1 hk1 hS => ?_)
    obtain ⟨hP, -, hD⟩ := hB
    rw [ht] at hP
    have hD := lx_dj hD hFc
    refine lv_iload_n hx hb d_Tu_buildDirectory_111 rfl (lv_at hl 3 rfl) ?_
    refine lv_istore (lv' := [(4, .int y_3), (0, .ref M.o_Tu), (1, .int y_1), (2, .int y_2), (3, .int y_3), (5, .int y_5), (6, .int y_6)]) hx hb d_Tu_buildDirectory_112 hl (by decide) rfl (fun ls hl => ?_)
    refine lv_iload_n hx hb d_Tu_buildDirectory_114 rfl (lv_at hl 4 rfl) ?_
    refine lv_iload hx hb d_Tu_buildDirectory_115 (lv_at hl 6 rfl) ?_
    refine lv_iadd hx hb d_Tu_buildDirectory_117 ?_
    refine lv_topi (fun x_18 ex_18 => ?_)
    have h := lf_lE h ex_18
    refine lv_istore_n (lv' := [(3, .int x_18), (4, .int y_3), (0, .ref M.o_Tu), (1, .int y_1), (2, .int y_2), (5, .int y_5), (6, .int y_6)]) hx hb d_Tu_buildDirectory_118 rfl hl (by decide) rfl (fun ls hl => ?_)
    obtain ⟨x_19, ex_19, h⟩ := lf_lX h
    refine lv_iinc (v := x_19) (lv' := [(5, .int x_19), (3, .int x_18), (4, .int y_3), (0, .ref M.o_Tu), (1, .int y_1), (2, .int y_2), (6, .int y_6)]) hx hb d_Tu_buildDirectory_119 hl (k := 5) rfl (by rw [ex_19]; rfl) (by decide) rfl (fun ls hl => ?_)
    refine lv_goto (tgt := 21) hx hb d_Tu_buildDirectory_122 (by decide) ?_
    exact hr_21 y_1 y_2 x_18 y_3 x_19 S_17 _ _ _ h hP hD hS (lv_sub hl [3, 4, 5, 1, 2, 0] rfl)
  have hB_21 : ∀ (k : Nat), ∀ (y_1 : Int32) (y_2 : Int32) (y_3 : Int32) (y_4 : Int32) (y_5 : Int32) (S : CS) (H : Heap) (locs : List Loc) (ls : Array Slot), f_Tu_buildDirectory_21 K G k y_1 y_2 y_3 y_4 y_5 S = some S' → va_P (dC, dI) classes (wV M Y G S) H → va_D A (wV M Y G S) → va_S A s.heap H locs → lv_has ls 7 [(0, .ref M.o_Tu), (1, .int y_1), (2, .int y_2), (3, .int y_3), (4, .int y_4), (5, .int y_5)] → W p l e ({ frames := 10, cells := 0, slots := 0, locals := 300 }) s m ([.ref M.o_Tu, .int p0] : List Value).toArray below meth c H locs 0 0 Q (F0 m 21 ls []) := by
    intro k
    induction k with
    | zero => intro y_1 y_2 y_3 y_4 y_5 S H locs ls h; exact lf_no h
    | succ k hr_21 =>
      intro y_1 y_2 y_3 y_4 y_5 S H locs ls h hP hD hS hl
      rw [f_Tu_buildDirectory_21] at h
      refine lv_iload hx hb d_Tu_buildDirectory_21 (lv_at hl 5 rfl) ?_
      refine lv_aload_n hx hb d_Tu_buildDirectory_23 rfl (lv_at hl 0 rfl) ?_
      refine va_get (D := (dC, dI)) (ci := 10) (v := .ref M.o_Pl) (C := R_Tu) (T := F_Tu) (N := 7) hx hb hts (fun w h => u_Vt_Tu w (i_Tu w h)) hown hK hP 8 rfl rfl 4 (by decide) (hts _ (u_Vt_Tu _ k_Tu_21)) (fun _ h9 => h9) rfl d_Tu_buildDirectory_24 ?_
      refine lv_iload_n hx hb d_Tu_buildDirectory_27 rfl (lv_at hl 1 rfl) ?_
      obtain ⟨r_3, S_3, hc_3, h⟩ := lf_cE h
      have hFc := lx_free hD hS hA
      refine va_calli (va_runV (As := [.int y_1]) (rest := [.int y_5]) ⟨hx, hb, hml, hown, hts⟩ (l_Pl_entriesOf l dC dI X _ hc_3) (cwV 1 hts (gwV good_Vt (u_Vt_Tu _ k_Tu_66) (u_Vt_Pl _ k_Pl_117) (u_Vt_Pl _ k_Pl_118) (u_Vt_Pl _ k_Pl_0) (wcs (u_Vt_Pl _ k_Pl_119) (fun _ h => h))) rfl rfl rfl (by decide +kernel) ⟨Nat.le_of_ble_eq_true rfl, Nat.le_of_ble_eq_true rfl⟩) (pv_ofE (X.same _) (fun U z1 z2 => X.mono _ _ U hFc (hEw _ _ hS U z1 z2)) hP hK hD (va_recv hK hP (ci := 9) (q0 := 7) rfl rfl)) rfl rfl hl.1 rfl (lv_room (Nat.le_of_ble_eq_true rfl)) d_Tu_buildDirectory_28 ⟨by decide, by decide⟩) hS (fun q _ h => hFc q h) hFc (fun r_ u t H locs ht hvm hw hB hz1 hk1 hS => ?_)
      rw [hw]
      obtain ⟨hP, -, hD⟩ := hB
      rw [ht] at hP
      have hD := lx_dj hD hFc
      refine lv_icmp_ge (tgt := 125) hx hb d_Tu_buildDirectory_31 (by decide) (fun c_4 => ?_) (fun c_4 => ?_)
      · have h := lf_t h c_4
        refine lv_aload_n hx hb d_Tu_buildDirectory_125 rfl (lv_at hl 0 rfl) ?_
        refine lv_iload hx hb d_Tu_buildDirectory_126 (lv_at hl 4 rfl) ?_
        refine lv_iconst (v := 4) hx hb d_Tu_buildDirectory_128 (by decide) ?_
        refine lv_iadd hx hb d_Tu_buildDirectory_129 ?_
        refine lv_sipush (v := 1024) hx hb d_Tu_buildDirectory_130 (by decide) ?_
        refine lv_iload hx hb d_Tu_buildDirectory_133 (lv_at hl 4 rfl) ?_
        refine lv_isub hx hb d_Tu_buildDirectory_135 ?_
        obtain ⟨S_5, hc_5, h⟩ := lf_bE h
        have hFc := lx_free hD hS hA
        refine va_callv (va_runV (As := [.int (y_4 + 4), .int (1024 - y_4)]) (rest := []) ⟨hx, hb, hml, hown, hts⟩ (l_Tu_putTwo l dC dI X _ hc_5) (cwV 2 hts (gwV good_Vt (u_Vt_Tu _ k_Tu_69) (u_Vt_Tu _ k_Tu_70) (u_Vt_Tu _ k_Tu_167) (u_Vt_Tu _ k_Tu_0) (wcs (u_Vt_Tu _ k_Tu_71) (fun _ h => h))) rfl rfl rfl (by decide +kernel) ⟨Nat.le_of_ble_eq_true rfl, Nat.le_of_ble_eq_true rfl⟩) (pv_ofE (X.same _) (fun U z1 z2 => X.mono _ _ U hFc (hEw _ _ hS U z1 z2)) hP hK hD (va_recv hK hP (ci := 10) (q0 := 8) rfl rfl)) rfl rfl hl.1 rfl (lv_room (Nat.le_of_ble_eq_true rfl)) d_Tu_buildDirectory_136 ⟨by decide, by decide⟩) hS (fun q _ h => hFc q h) hFc (fun u t H locs ht hvm hw hB hz1 hk1 hS => ?_)
        obtain ⟨hP, -, hD⟩ := hB
        rw [ht] at hP
        have hD := lx_dj hD hFc
        refine lv_aload_n hx hb d_Tu_buildDirectory_139 rfl (lv_at hl 0 rfl) ?_
        refine lv_aload_n hx hb d_Tu_buildDirectory_140 rfl (lv_at hl 0 rfl) ?_
        refine va_get (D := (dC, dI)) (ci := 10) (v := .ref M.o_Pl) (C := R_Tu) (T := F_Tu) (N := 7) hx hb hts (fun w h => u_Vt_Tu w (i_Tu w h)) hown hK hP 8 rfl rfl 4 (by decide) (hts _ (u_Vt_Tu _ k_Tu_21)) (fun _ h9 => h9) rfl d_Tu_buildDirectory_141 ?_
        refine lv_iload_n hx hb d_Tu_buildDirectory_144 rfl (lv_at hl 2 rfl) ?_
        obtain ⟨r_6, S_6, hc_6, h⟩ := lf_cE h
        have hFc := lx_free hD hS hA
        refine va_calli (va_runV (As := [.int y_2]) (rest := [.ref M.o_Tu]) ⟨hx, hb, hml, hown, hts⟩ (l_Pl_room l dC dI X _ hc_6) (cwV 1 hts (gwV good_Vt (u_Vt_Tu _ k_Tu_37) (u_Vt_Pl _ k_Pl_96) (u_Vt_Pl _ k_Pl_97) (u_Vt_Pl _ k_Pl_0) (wcs (u_Vt_Pl _ k_Pl_98) (fun _ h => h))) rfl rfl rfl (by decide +kernel) ⟨Nat.le_of_ble_eq_true rfl, Nat.le_of_ble_eq_true rfl⟩) (pv_ofE (X.same _) (fun U z1 z2 => X.mono _ _ U hFc (hEw _ _ hS U z1 z2)) hP hK hD (va_recv hK hP (ci := 9) (q0 := 7) rfl rfl)) rfl rfl hl.1 rfl (lv_room (Nat.le_of_ble_eq_true rfl)) d_Tu_buildDirectory_145 ⟨by decide, by decide⟩) hS (fun q _ h => hFc q h) hFc (fun r_ u t H locs ht hvm hw hB hz1 hk1 hS => ?_)
        rw [hw]
        obtain ⟨hP, -, hD⟩ := hB
        rw [ht] at hP
        have hD := lx_dj hD hFc
        obtain ⟨S_7, hc_7, h⟩ := lf_bE h
        have hFc := lx_free hD hS hA
        refine va_callv (va_runV (As := [.int r_6]) (rest := []) ⟨hx, hb, hml, hown, hts⟩ (l_Tu_storeBlock l dC dI X _ hc_7) (cwV 1 hts (gwV good_Vt (u_Vt_Tu _ k_Tu_72) (u_Vt_Tu _ k_Tu_73) (u_Vt_Tu _ k_Tu_165) (u_Vt_Tu _ k_Tu_0) (wcs (u_Vt_Tu _ k_Tu_74) (fun _ h => h))) rfl rfl rfl (by decide +kernel) ⟨Nat.le_of_ble_eq_true rfl, Nat.le_of_ble_eq_true rfl⟩) (pv_ofE (X.same _) (fun U z1 z2 => X.mono _ _ U hFc (hEw _ _ hS U z1 z2)) hP hK hD (va_recv hK hP (ci := 10) (q0 := 8) rfl rfl)) rfl rfl hl.1 rfl (lv_room (Nat.le_of_ble_eq_true rfl)) d_Tu_buildDirectory_148 ⟨by decide, by decide⟩) hS (fun q _ h => hFc q h) hFc (fun u t H locs ht hvm hw hB hz1 hk1 hS => ?_)
        obtain ⟨hP, -, hD⟩ := hB
        rw [ht] at hP
        have hD := lx_dj hD hFc
        rw [hQ]
        have e2 : S_7 = S' := Option.some.inj h
        have hP := ly_newP e2.symm hP
        have hD := ly_newD e2.symm hD
        exact W.vret hx hb hr (fun t ht hW => ⟨⟨(), rfl, trivial, by rw [ht]; exact hP, va_K.moved hW.alike hK, hD⟩, hS.F ht⟩) hS.2.2 d_Tu_buildDirectory_151
      · have h := lf_f h c_4
        refine lv_aload_n hx hb d_Tu_buildDirectory_34 rfl (lv_at hl 0 rfl) ?_
        refine va_get (D := (dC, dI)) (ci := 10) (v := .ref M.o_Pl) (C := R_Tu) (T := F_Tu) (N := 7) hx hb hts (fun w h => u_Vt_Tu w (i_Tu w h)) hown hK hP 8 rfl rfl 4 (by decide) (hts _ (u_Vt_Tu _ k_Tu_21)) (fun _ h9 => h9) rfl d_Tu_buildDirectory_35 ?_
        refine lv_iload_n hx hb d_Tu_buildDirectory_38 rfl (lv_at hl 1 rfl) ?_
        refine lv_iload hx hb d_Tu_buildDirectory_39 (lv_at hl 5 rfl) ?_
        obtain ⟨r_8, S_8, hc_8, h⟩ := lf_cE h
        have hFc := lx_free hD hS hA
        refine va_calli (va_runV (As := [.int y_1, .int y_5]) (rest := []) ⟨hx, hb, hml, hown, hts⟩ (X.Pl_nameSize _ hc_8) (cwV 2 hts (gwV good_Vt (u_Vt_Tu _ k_Tu_67) (u_Vt_Pl _ k_Pl_122) (u_Vt_Pl _ k_Pl_123) (u_Vt_Pl _ k_Pl_0) (wcs (u_Vt_Pl _ k_Pl_124) (fun _ h => h))) rfl rfl rfl (by decide +kernel) ⟨Nat.le_of_ble_eq_true rfl, Nat.le_of_ble_eq_true rfl⟩) (pv_ofE (X.same _) (fun U z1 z2 => X.mono _ _ U hFc (hEw _ _ hS U z1 z2)) hP hK hD (va_recv hK hP (ci := 9) (q0 := 7) rfl rfl)) rfl rfl hl.1 rfl (lv_room (Nat.le_of_ble_eq_true rfl)) d_Tu_buildDirectory_41 ⟨by decide, by decide⟩) hS (fun q _ h => hFc q h) hFc (fun r_ u t H locs ht hvm hw hB hz1 hk1 hS => ?_)
        rw [hw]
        obtain ⟨hP, -, hD⟩ := hB
        rw [ht] at hP
        have hD := lx_dj hD hFc
        obtain ⟨r_9, hc_9, h⟩ := lf_bE h
        have hFc := lx_free0 hS hA
        refine va_calli (va_runS (As := [.int r_8]) (rest := []) ⟨hx, hb, hml, hown, hts⟩ (l_Pl_entryLength l dC dI  _ hc_9) (va_cwS 1 hts (gwS good_Vt (u_Vt_Tu _ k_Tu_68) (u_Vt_Pl _ k_Pl_128) (u_Vt_Pl _ k_Pl_0) (wcs (u_Vt_Pl _ k_Pl_129) (fun _ h => h))) rfl rfl rfl (by decide +kernel) ⟨Nat.le_of_ble_eq_true rfl, Nat.le_of_ble_eq_true rfl⟩) (ps_of (W := []) (tys := []) (hP.sub (ws' := []) [] rfl) (hK.sub [] rfl) (hD.sub (ws' := []) [] (by decide) rfl)) rfl rfl hl.1 rfl (lv_room (Nat.le_of_ble_eq_true rfl)) d_Tu_buildDirectory_44 ⟨by decide, by decide⟩) hS (fun q _ h => hFc q h) hFc (fun r_ u t H locs ht hvm hw hB hz1 hk1 hS => ?_)
        rw [hw]
        have hP := lx_stat (A := A) hP hk1
        refine lv_istore (lv' := [(6, .int r_9), (0, .ref M.o_Tu), (1, .int y_1), (2, .int y_2), (3, .int y_3), (4, .int y_4), (5, .int y_5)]) hx hb d_Tu_buildDirectory_47 hl (by decide) rfl (fun ls hl => ?_)
        refine lv_iload_n hx hb d_Tu_buildDirectory_49 rfl (lv_at hl 4 rfl) ?_
        refine lv_iload hx hb d_Tu_buildDirectory_50 (lv_at hl 0 rfl) ?_
        refine lv_iadd hx hb d_Tu_buildDirectory_52 ?_
        refine lv_sipush (v := 1024) hx hb d_Tu_buildDirectory_53 (by decide) ?_
        refine lv_icmp_le (tgt := 94) hx hb d_Tu_buildDirectory_56 (by decide) (fun c_10 => ?_) (fun c_10 => ?_)
        · have h := lf_t h c_10
          exact hB_94 _ hr_21 y_1 y_2 y_3 y_5 r_9 S_8 _ _ _ h hP hD hS (lv_sub hl [1, 2, 3, 4, 6, 0] rfl)
        · have h := lf_f h c_10
          refine lv_aload_n hx hb d_Tu_buildDirectory_59 rfl (lv_at hl 1 rfl) ?_
          refine lv_iload hx hb d_Tu_buildDirectory_60 (lv_at hl 5 rfl) ?_
          refine lv_iconst (v := 4) hx hb d_Tu_buildDirectory_62 (by decide) ?_
          refine lv_iadd hx hb d_Tu_buildDirectory_63 ?_
          refine lv_sipush (v := 1024) hx hb d_Tu_buildDirectory_64 (by decide) ?_
          refine lv_iload hx hb d_Tu_buildDirectory_67 (lv_at hl 5 rfl) ?_
          refine lv_isub hx hb d_Tu_buildDirectory_69 ?_
          obtain ⟨S_11, hc_11, h⟩ := lf_bE h
          have hFc := lx_free hD hS hA
          refine va_callv (va_runV (As := [.int (y_4 + 4), .int (1024 - y_4)]) (rest := []) ⟨hx, hb, hml, hown, hts⟩ (l_Tu_putTwo l dC dI X _ hc_11) (cwV 2 hts (gwV good_Vt (u_Vt_Tu _ k_Tu_69) (u_Vt_Tu _ k_Tu_70) (u_Vt_Tu _ k_Tu_167) (u_Vt_Tu _ k_Tu_0) (wcs (u_Vt_Tu _ k_Tu_71) (fun _ h => h))) rfl rfl rfl (by decide +kernel) ⟨Nat.le_of_ble_eq_true rfl, Nat.le_of_ble_eq_true rfl⟩) (pv_ofE (X.same _) (fun U z1 z2 => X.mono _ _ U hFc (hEw _ _ hS U z1 z2)) hP hK hD (va_recv hK hP (ci := 10) (q0 := 8) rfl rfl)) rfl rfl hl.1 rfl (lv_room (Nat.le_of_ble_eq_true rfl)) d_Tu_buildDirectory_70 ⟨by decide, by decide⟩) hS (fun q _ h => hFc q h) hFc (fun u t H locs ht hvm hw hB hz1 hk1 hS => ?_)
          obtain ⟨hP, -, hD⟩ := hB
          rw [ht] at hP
          have hD := lx_dj hD hFc
          refine lv_aload_n hx hb d_Tu_buildDirectory_73 rfl (lv_at hl 1 rfl) ?_
          refine lv_aload_n hx hb d_Tu_buildDirectory_74 rfl (lv_at hl 1 rfl) ?_
          refine va_get (D := (dC, dI)) (ci := 10) (v := .ref M.o_Pl) (C := R_Tu) (T := F_Tu) (N := 7) hx hb hts (fun w h => u_Vt_Tu w (i_Tu w h)) hown hK hP 8 rfl rfl 4 (by decide) (hts _ (u_Vt_Tu _ k_Tu_21)) (fun _ h9 => h9) rfl d_Tu_buildDirectory_75 ?_
          refine lv_iload_n hx hb d_Tu_buildDirectory_78 rfl (lv_at hl 3 rfl) ?_
          obtain ⟨r_12, S_12, hc_12, h⟩ := lf_cE h
          have hFc := lx_free hD hS hA
          refine va_calli (va_runV (As := [.int y_2]) (rest := [.ref M.o_Tu]) ⟨hx, hb, hml, hown, hts⟩ (l_Pl_room l dC dI X _ hc_12) (cwV 1 hts (gwV good_Vt (u_Vt_Tu _ k_Tu_37) (u_Vt_Pl _ k_Pl_96) (u_Vt_Pl _ k_Pl_97) (u_Vt_Pl _ k_Pl_0) (wcs (u_Vt_Pl _ k_Pl_98) (fun _ h => h))) rfl rfl rfl (by decide +kernel) ⟨Nat.le_of_ble_eq_true rfl, Nat.le_of_ble_eq_true rfl⟩) (pv_ofE (X.same _) (fun U z1 z2 => X.mono _ _ U hFc (hEw _ _ hS U z1 z2)) hP hK hD (va_recv hK hP (ci := 9) (q0 := 7) rfl rfl)) rfl rfl hl.1 rfl (lv_room (Nat.le_of_ble_eq_true rfl)) d_Tu_buildDirectory_79 ⟨by decide, by decide⟩) hS (fun q _ h => hFc q h) hFc (fun r_ u t H locs ht hvm hw hB hz1 hk1 hS => ?_)
          rw [hw]
          obtain ⟨hP, -, hD⟩ := hB
          rw [ht] at hP
          have hD := lx_dj hD hFc
          obtain ⟨S_13, hc_13, h⟩ := lf_bE h
          have hFc := lx_free hD hS hA
          refine va_callv (va_runV (As := [.int r_12]) (rest := []) ⟨hx, hb, hml, hown, hts⟩ (l_Tu_storeBlock l dC dI X _ hc_13) (cwV 1 hts (gwV good_Vt (u_Vt_Tu _ k_Tu_72) (u_Vt_Tu _ k_Tu_73) (u_Vt_Tu _ k_Tu_165) (u_Vt_Tu _ k_Tu_0) (wcs (u_Vt_Tu _ k_Tu_74) (fun _ h => h))) rfl rfl rfl (by decide +kernel) ⟨Nat.le_of_ble_eq_true rfl, Nat.le_of_ble_eq_true rfl⟩) (pv_ofE (X.same _) (fun U z1 z2 => X.mono _ _ U hFc (hEw _ _ hS U z1 z2)) hP hK hD (va_recv hK hP (ci := 10) (q0 := 8) rfl rfl)) rfl rfl hl.1 rfl (lv_room (Nat.le_of_ble_eq_true rfl)) d_Tu_buildDirectory_82 ⟨by decide, by decide⟩) hS (fun q _ h => hFc q h) hFc (fun u t H locs ht hvm hw hB hz1 hk1 hS => ?_)
          obtain ⟨hP, -, hD⟩ := hB
          rw [ht] at hP
          have hD := lx_dj hD hFc
          refine lv_aload_n hx hb d_Tu_buildDirectory_85 rfl (lv_at hl 1 rfl) ?_
          obtain ⟨S_14, hc_14, h⟩ := lf_bE h
          have hFc := lx_free hD hS hA
          refine va_callv (va_runV (As := []) (rest := []) ⟨hx, hb, hml, hown, hts⟩ (l_Tu_empty l dC dI X _ hc_14) (cwV 0 hts (gwV good_Vt (u_Vt_Tu _ k_Tu_57) (u_Vt_Tu _ k_Tu_58) (u_Vt_Tu _ k_Tu_164) (u_Vt_Tu _ k_Tu_0) (wcs (u_Vt_Tu _ k_Tu_59) (fun _ h => h))) rfl rfl rfl (by decide +kernel) ⟨Nat.le_of_ble_eq_true rfl, Nat.le_of_ble_eq_true rfl⟩) (pv_ofE (X.same _) (fun U z1 z2 => X.mono _ _ U hFc (hEw _ _ hS U z1 z2)) hP hK hD (va_recv hK hP (ci := 10) (q0 := 8) rfl rfl)) rfl rfl hl.1 rfl (lv_room (Nat.le_of_ble_eq_true rfl)) d_Tu_buildDirectory_86 ⟨by decide, by decide⟩) hS (fun q _ h => hFc q h) hFc (fun u t H locs ht hvm hw hB hz1 hk1 hS => ?_)
          obtain ⟨hP, -, hD⟩ := hB
          rw [ht] at hP
          have hD := lx_dj hD hFc
          obtain ⟨x_15, ex_15, h⟩ := lf_lX h
          refine lv_iinc (v := x_15) (lv' := [(2, .int x_15), (6, .int r_9), (0, .ref M.o_Tu), (1, .int y_1), (3, .int y_3), (4, .int y_4), (5, .int y_5)]) hx hb d_Tu_buildDirectory_89 hl (k := 3) rfl (by rw [ex_15]; rfl) (by decide) rfl (fun ls hl => ?_)
          refine lv_iconst (v := 0) hx hb d_Tu_buildDirectory_92 (by decide) ?_
          refine lv_istore_n (lv' := [(3, .int 0), (2, .int x_15), (6, .int r_9), (0, .ref M.o_Tu), (1, .int y_1), (4, .int y_4), (5, .int y_5)]) hx hb d_Tu_buildDirectory_93 rfl hl (by decide) rfl (fun ls hl => ?_)
          exact hB_94 _ hr_21 y_1 x_15 0 y_5 r_9 S_14 _ _ _ h hP hD hS (lv_sub hl [3, 4, 1, 0, 6, 2] rfl)
  rw [f_Tu_buildDirectory] at h
  refine lv_aload_n hx hb d_Tu_buildDirectory_0 rfl (lv_at hl 0 rfl) ?_
  refine va_get (D := (dC, dI)) (ci := 10) (v := .ref M.o_Tr) (C := R_Tu) (T := F_Tu) (N := 7) hx hb hts (fun w h => u_Vt_Tu w (i_Tu w h)) hown hK hP 8 rfl rfl 2 (by decide) (hts _ (u_Vt_Tu _ k_Tu_19)) (fun _ h9 => h9) rfl d_Tu_buildDirectory_1 ?_
  refine lv_iload_n hx hb d_Tu_buildDirectory_4 rfl (lv_at hl 1 rfl) ?_
  obtain ⟨r_1, S_1, hc_1, h⟩ := lf_cE h
  have hFc := lx_free hD hS hA
  refine va_calli (va_runV (As := [.int p0]) (rest := []) ⟨hx, hb, hml, hown, hts⟩ (l_Tr_builtOf l dC dI X _ hc_1) (cwV 1 hts (gwV good_Vt (u_Vt_Tu _ k_Tu_65) (u_Vt_Tr _ k_Tr_85) (u_Vt_Tr _ k_Tr_86) (u_Vt_Tr _ k_Tr_0) (wcs (u_Vt_Tr _ k_Tr_87) (fun _ h => h))) rfl rfl rfl (by decide +kernel) ⟨Nat.le_of_ble_eq_true rfl, Nat.le_of_ble_eq_true rfl⟩) (pv_ofE (X.same _) (fun U z1 z2 => X.mono _ _ U hFc (hEw _ _ hS U z1 z2)) hP hK hD (va_recv hK hP (ci := 5) (q0 := 4) rfl rfl)) rfl rfl hl.1 rfl (lv_room (Nat.le_of_ble_eq_true rfl)) d_Tu_buildDirectory_5 ⟨by decide, by decide⟩) hS (fun q _ h => hFc q h) hFc (fun r_ u t H locs ht hvm hw hB hz1 hk1 hS => ?_)
  rw [hw]
  obtain ⟨hP, -, hD⟩ := hB
  rw [ht] at hP
  have hD := lx_dj hD hFc
  refine lv_istore_n (lv' := [(2, .int r_1), (0, .ref M.o_Tu), (1, .int p0)]) hx hb d_Tu_buildDirectory_8 rfl hl (by decide) rfl (fun ls hl => ?_)
  refine lv_iconst (v := 0) hx hb d_Tu_buildDirectory_9 (by decide) ?_
  refine lv_istore_n (lv' := [(3, .int 0), (2, .int r_1), (0, .ref M.o_Tu), (1, .int p0)]) hx hb d_Tu_buildDirectory_10 rfl hl (by decide) rfl (fun ls hl => ?_)
  refine lv_iconst (v := 0) hx hb d_Tu_buildDirectory_11 (by decide) ?_
  refine lv_istore (lv' := [(4, .int 0), (3, .int 0), (2, .int r_1), (0, .ref M.o_Tu), (1, .int p0)]) hx hb d_Tu_buildDirectory_12 hl (by decide) rfl (fun ls hl => ?_)
  refine lv_aload_n hx hb d_Tu_buildDirectory_14 rfl (lv_at hl 3 rfl) ?_
  obtain ⟨S_2, hc_2, h⟩ := lf_bE h
  have hFc := lx_free hD hS hA
  refine va_callv (va_runV (As := []) (rest := []) ⟨hx, hb, hml, hown, hts⟩ (l_Tu_empty l dC dI X _ hc_2) (cwV 0 hts (gwV good_Vt (u_Vt_Tu _ k_Tu_57) (u_Vt_Tu _ k_Tu_58) (u_Vt_Tu _ k_Tu_164) (u_Vt_Tu _ k_Tu_0) (wcs (u_Vt_Tu _ k_Tu_59) (fun _ h => h))) rfl rfl rfl (by decide +kernel) ⟨Nat.le_of_ble_eq_true rfl, Nat.le_of_ble_eq_true rfl⟩) (pv_ofE (X.same _) (fun U z1 z2 => X.mono _ _ U hFc (hEw _ _ hS U z1 z2)) hP hK hD (va_recv hK hP (ci := 10) (q0 := 8) rfl rfl)) rfl rfl hl.1 rfl (lv_room (Nat.le_of_ble_eq_true rfl)) d_Tu_buildDirectory_15 ⟨by decide, by decide⟩) hS (fun q _ h => hFc q h) hFc (fun u t H locs ht hvm hw hB hz1 hk1 hS => ?_)
  obtain ⟨hP, -, hD⟩ := hB
  rw [ht] at hP
  have hD := lx_dj hD hFc
  refine lv_iconst (v := 0) hx hb d_Tu_buildDirectory_18 (by decide) ?_
  refine lv_istore (lv' := [(5, .int 0), (4, .int 0), (3, .int 0), (2, .int r_1), (0, .ref M.o_Tu), (1, .int p0)]) hx hb d_Tu_buildDirectory_19 hl (by decide) rfl (fun ls hl => ?_)
  exact hB_21 K p0 r_1 0 0 0 S_2 _ _ _ h hP hD hS (lv_sub hl [4, 5, 3, 2, 1, 0] rfl)
set_option maxHeartbeats 4000000 in
set_option maxRecDepth 100000 in
theorem l_Tu_putPointers (l : Launch) (dC : Nat → ClassId) (dI : Nat → Nat → Nat) {K : Nat} {M : CA} {E : (Nat → Prop) → State → Prop} (X : ly_X l dC dI K M E) (sz : Nat) {Y : CT} {G : CG} {S S' : CS} {p0 : Int32} (h : f_Tu_putPointers K G S p0 = some S') : Met l y_Tu_putPointers (.code y_Tu_putPointers b_Tu_putPointers 3 none :: V_Vt) ({ frames := 2, cells := 0, slots := 0, locals := 43 }) (va_Pc [.ref M.o_Tu, .int p0] (fun U => U.heap.size = sz ∧ at_ (dC, dI) (fun _ => True) (wV M Y G S) (tV M) U ∧ E (va_A (wV M Y G S) sz) U)) (va_Qv (fun (u : Unit) => True) (fun (u : Unit) t => at_ (dC, dI) (va_A (wV M Y G S) sz) (wV M Y G S') (tV M) t) (va_A (wV M Y G S) sz)) 0 0 (va_A (wV M Y G S) sz) := by
  refine Met.ofW (cc := b_Tu_putPointers) (maxL := 3) (ret := none) (by decide) rfl ?_
  intro p e s m args below meth c s₁ B hml hv
  obtain ⟨rfl, hsz, ⟨hP, hK, hD0⟩, hE⟩ := hv
  have hx := B.exec
  have hb := B.bytes
  have hr := B.returns
  have hts0 := atoms_spec (ws := .code y_Tu_putPointers b_Tu_putPointers 3 none :: V_Vt) B.pre
  have hts : ∀ w ∈ V_Vt, w.before ([.ref M.o_Tu, .int p0] : List Value).toArray s = true := fun w h => hts0 w (List.mem_cons_of_mem _ h)
  have hown : s.vm.findClass R_Tu = some m.cls := findClass_of_methodNamed B.named
  subst hsz
  have hD := hD0.self (sz := s.heap.size)
  generalize hAe : va_A (wV M Y G S) s.heap.size = A at hD hE ⊢
  have hA : ∀ q : Nat, s.heap.size ≤ q → A q := fun q h => by rw [← hAe]; exact Or.inr h
  have hS : va_S A s.heap s.heap [] := va_S.rf
  have hP : va_P (dC, dI) classes (wV M Y G S) s.heap := hP
  have hK : va_K (dC, dI) classes (tV M) s := hK
  have hEw : ∀ (H : Heap) (locs : List Loc), va_S A s.heap H locs → ∀ U : State, U.heap = H → s.WarmedH U.vm → E A U := fun H locs hS U hU hW => X.kept A s U H locs hE hS hU hW
  have hl := lv_entry ([.ref M.o_Tu, .int p0]) (n := 3) (Nat.le_of_ble_eq_true rfl)
  rw [lg_entry_eq]
  generalize (lg_sl ([.ref M.o_Tu, .int p0]) ++ List.replicate (3 - (lg_sl ([.ref M.o_Tu, .int p0])).length) Slot.unset).toArray = ls at hl ⊢
  have hl : lv_has ls 3 [(0, .ref M.o_Tu), (1, .int p0)] := hl
  refine qabs (fun Q hQ => ?_)
  have hB_6 : ∀ (k : Nat), ∀ (y_1 : Int32) (y_2 : Int32) (S : CS) (H : Heap) (locs : List Loc) (ls : Array Slot), f_Tu_putPointers_6 K G k y_1 y_2 S = some S' → va_P (dC, dI) classes (wV M Y G S) H → va_D A (wV M Y G S) → va_S A s.heap H locs → lv_has ls 3 [(0, .ref M.o_Tu), (1, .int y_1), (2, .int y_2)] → W p l e ({ frames := 2, cells := 0, slots := 0, locals := 43 }) s m ([.ref M.o_Tu, .int p0] : List Value).toArray below meth c H locs 0 0 Q (F0 m 6 ls []) := by
    intro k
    induction k with
    | zero => intro y_1 y_2 S H locs ls h; exact lf_no h
    | succ k hr_6 =>
      intro y_1 y_2 S H locs ls h hP hD hS hl
      rw [f_Tu_putPointers_6] at h
      refine lv_iload_n hx hb d_Tu_putPointers_6 rfl (lv_at hl 2 rfl) ?_
      refine lv_sipush (v := 256) hx hb d_Tu_putPointers_7 (by decide) ?_
      refine lv_icmp_ge (tgt := 50) hx hb d_Tu_putPointers_10 (by decide) (fun c_2 => ?_) (fun c_2 => ?_)
      · have h := lf_t h c_2
        rw [hQ]
        have e2 : S = S' := Option.some.inj h
        have hP := ly_newP e2.symm hP
        have hD := ly_newD e2.symm hD
        exact W.vret hx hb hr (fun t ht hW => ⟨⟨(), rfl, trivial, by rw [ht]; exact hP, va_K.moved hW.alike hK, hD⟩, hS.F ht⟩) hS.2.2 d_Tu_putPointers_50
      · have h := lf_f h c_2
        refine lv_iload_n hx hb d_Tu_putPointers_13 rfl (lv_at hl 1 rfl) ?_
        refine lv_iload_n hx hb d_Tu_putPointers_14 rfl (lv_at hl 2 rfl) ?_
        refine lv_iadd hx hb d_Tu_putPointers_15 ?_
        refine lv_aload_n hx hb d_Tu_putPointers_16 rfl (lv_at hl 0 rfl) ?_
        refine va_get (D := (dC, dI)) (ci := 10) (v := .ref M.o_Pl) (C := R_Tu) (T := F_Tu) (N := 7) hx hb hts (fun w h => u_Vt_Tu w (i_Tu w h)) hown hK hP 8 rfl rfl 4 (by decide) (hts _ (u_Vt_Tu _ k_Tu_21)) (fun _ h9 => h9) rfl d_Tu_putPointers_17 ?_
        refine va_get (D := (dC, dI)) (ci := 9) (v := .int S.v_Pl_listed) (C := R_Pl) (T := F_Pl) (N := 17) hx hb hts (fun w h => u_Vt_Pl w (i_Pl w h)) hown hK hP 7 rfl rfl 10 (by decide) (hts _ (u_Vt_Tu _ k_Tu_8)) (fun _ h9 => h9) rfl d_Tu_putPointers_20 ?_
        refine lv_icmp_ge (tgt := 50) hx hb d_Tu_putPointers_23 (by decide) (fun c_3 => ?_) (fun c_3 => ?_)
        · have h := lf_t h c_3
          rw [hQ]
          have e2 : S = S' := Option.some.inj h
          have hP := ly_newP e2.symm hP
          have hD := ly_newD e2.symm hD
          exact W.vret hx hb hr (fun t ht hW => ⟨⟨(), rfl, trivial, by rw [ht]; exact hP, va_K.moved hW.alike hK, hD⟩, hS.F ht⟩) hS.2.2 d_Tu_putPointers_50
        · have h := lf_f h c_3
          refine lv_aload_n hx hb d_Tu_putPointers_26 rfl (lv_at hl 0 rfl) ?_
          refine lv_iconst (v := 4) hx hb d_Tu_putPointers_27 (by decide) ?_
          refine lv_iload_n hx hb d_Tu_putPointers_28 rfl (lv_at hl 2 rfl) ?_
          refine lv_imul hx hb d_Tu_putPointers_29 ?_
          refine lv_aload_n hx hb d_Tu_putPointers_30 rfl (lv_at hl 0 rfl) ?_
          refine va_get (D := (dC, dI)) (ci := 10) (v := .ref M.o_Pl) (C := R_Tu) (T := F_Tu) (N := 7) hx hb hts (fun w h => u_Vt_Tu w (i_Tu w h)) hown hK hP 8 rfl rfl 4 (by decide) (hts _ (u_Vt_Tu _ k_Tu_21)) (fun _ h9 => h9) rfl d_Tu_putPointers_31 ?_
          refine va_get (D := (dC, dI)) (ci := 9) (v := .ref M.a_Pl_list) (C := R_Pl) (T := F_Pl) (N := 17) hx hb hts (fun w h => u_Vt_Pl w (i_Pl w h)) hown hK hP 7 rfl rfl 9 (by decide) (hts _ (u_Vt_Tu _ k_Tu_7)) (fun _ h9 => h9) rfl d_Tu_putPointers_34 ?_
          refine lv_iload_n hx hb d_Tu_putPointers_37 rfl (lv_at hl 1 rfl) ?_
          refine lv_iload_n hx hb d_Tu_putPointers_38 rfl (lv_at hl 2 rfl) ?_
          refine lv_iadd hx hb d_Tu_putPointers_39 ?_
          obtain ⟨g_4, h⟩ := lf_gE h
          refine va_iald hx hb hK hP 43 2 rfl rfl g_4 d_Tu_putPointers_40 ?_
          obtain ⟨S_5, hc_5, h⟩ := lf_bE h
          have hFc := lx_free hD hS hA
          refine va_callv (va_runV (As := [.int (4 * y_2), .int (S.w_Pl_list (y_1 + y_2).toNatClampNeg)]) (rest := []) ⟨hx, hb, hml, hown, hts⟩ (l_Tu_putFour l dC dI X _ hc_5) (cwV 2 hts (gwV good_Vt (u_Vt_Tu _ k_Tu_84) (u_Vt_Tu _ k_Tu_85) (u_Vt_Tu _ k_Tu_168) (u_Vt_Tu _ k_Tu_0) (wcs (u_Vt_Tu _ k_Tu_86) (fun _ h => h))) rfl rfl rfl (by decide +kernel) ⟨Nat.le_of_ble_eq_true rfl, Nat.le_of_ble_eq_true rfl⟩) (pv_ofE (X.same _) (fun U z1 z2 => X.mono _ _ U hFc (hEw _ _ hS U z1 z2)) hP hK hD (va_recv hK hP (ci := 10) (q0 := 8) rfl rfl)) rfl rfl hl.1 rfl (lv_room (Nat.le_of_ble_eq_true rfl)) d_Tu_putPointers_41 ⟨by decide, by decide⟩) hS (fun q _ h => hFc q h) hFc (fun u t H locs ht hvm hw hB hz1 hk1 hS => ?_)
          obtain ⟨hP, -, hD⟩ := hB
          rw [ht] at hP
          have hD := lx_dj hD hFc
          obtain ⟨x_6, ex_6, h⟩ := lf_lX h
          refine lv_iinc (v := x_6) (lv' := [(2, .int x_6), (0, .ref M.o_Tu), (1, .int y_1)]) hx hb d_Tu_putPointers_44 hl (k := 2) rfl (by rw [ex_6]; rfl) (by decide) rfl (fun ls hl => ?_)
          refine lv_goto (tgt := 6) hx hb d_Tu_putPointers_47 (by decide) ?_
          exact hr_6 y_1 x_6 S_5 _ _ _ h hP hD hS (lv_sub hl [1, 2, 0] rfl)
  rw [f_Tu_putPointers] at h
  refine lv_aload_n hx hb d_Tu_putPointers_0 rfl (lv_at hl 0 rfl) ?_
  obtain ⟨S_1, hc_1, h⟩ := lf_bE h
  have hFc := lx_free hD hS hA
  refine va_callv (va_runV (As := []) (rest := []) ⟨hx, hb, hml, hown, hts⟩ (l_Tu_empty l dC dI X _ hc_1) (cwV 0 hts (gwV good_Vt (u_Vt_Tu _ k_Tu_57) (u_Vt_Tu _ k_Tu_58) (u_Vt_Tu _ k_Tu_164) (u_Vt_Tu _ k_Tu_0) (wcs (u_Vt_Tu _ k_Tu_59) (fun _ h => h))) rfl rfl rfl (by decide +kernel) ⟨Nat.le_of_ble_eq_true rfl, Nat.le_of_ble_eq_true rfl⟩) (pv_ofE (X.same _) (fun U z1 z2 => X.mono _ _ U hFc (hEw _ _ hS U z1 z2)) hP hK hD (va_recv hK hP (ci := 10) (q0 := 8) rfl rfl)) rfl rfl hl.1 rfl (lv_room (Nat.le_of_ble_eq_true rfl)) d_Tu_putPointers_1 ⟨by decide, by decide⟩) hS (fun q _ h => hFc q h) hFc (fun u t H locs ht hvm hw hB hz1 hk1 hS => ?_)
  obtain ⟨hP, -, hD⟩ := hB
  rw [ht] at hP
  have hD := lx_dj hD hFc
  refine lv_iconst (v := 0) hx hb d_Tu_putPointers_4 (by decide) ?_
  refine lv_istore_n (lv' := [(2, .int 0), (0, .ref M.o_Tu), (1, .int p0)]) hx hb d_Tu_putPointers_5 rfl hl (by decide) rfl (fun ls hl => ?_)
  exact hB_6 K p0 0 S_1 _ _ _ h hP hD hS (lv_sub hl [1, 2, 0] rfl)
set_option maxHeartbeats 4000000 in
set_option maxRecDepth 100000 in
theorem l_Tu_buildIndirects (l : Launch) (dC : Nat → ClassId) (dI : Nat → Nat → Nat) {K : Nat} {M : CA} {E : (Nat → Prop) → State → Prop} (X : ly_X l dC dI K M E) (sz : Nat) {Y : CT} {G : CG} {S S' : CS} {p0 : Int32} (h : f_Tu_buildIndirects K G S p0 = some S') : Met l y_Tu_buildIndirects (.code y_Tu_buildIndirects b_Tu_buildIndirects 5 none :: V_Vt) ({ frames := 3, cells := 0, slots := 0, locals := 104 }) (va_Pc [.ref M.o_Tu, .int p0] (fun U => U.heap.size = sz ∧ at_ (dC, dI) (fun _ => True) (wV M Y G S) (tV M) U ∧ E (va_A (wV M Y G S) sz) U)) (va_Qv (fun (u : Unit) => True) (fun (u : Unit) t => at_ (dC, dI) (va_A (wV M Y G S) sz) (wV M Y G S') (tV M) t) (va_A (wV M Y G S) sz)) 0 0 (va_A (wV M Y G S) sz) := by
  refine Met.ofW (cc := b_Tu_buildIndirects) (maxL := 5) (ret := none) (by decide) rfl ?_
  intro p e s m args below meth c s₁ B hml hv
  obtain ⟨rfl, hsz, ⟨hP, hK, hD0⟩, hE⟩ := hv
  have hx := B.exec
  have hb := B.bytes
  have hr := B.returns
  have hts0 := atoms_spec (ws := .code y_Tu_buildIndirects b_Tu_buildIndirects 5 none :: V_Vt) B.pre
  have hts : ∀ w ∈ V_Vt, w.before ([.ref M.o_Tu, .int p0] : List Value).toArray s = true := fun w h => hts0 w (List.mem_cons_of_mem _ h)
  have hown : s.vm.findClass R_Tu = some m.cls := findClass_of_methodNamed B.named
  subst hsz
  have hD := hD0.self (sz := s.heap.size)
  generalize hAe : va_A (wV M Y G S) s.heap.size = A at hD hE ⊢
  have hA : ∀ q : Nat, s.heap.size ≤ q → A q := fun q h => by rw [← hAe]; exact Or.inr h
  have hS : va_S A s.heap s.heap [] := va_S.rf
  have hP : va_P (dC, dI) classes (wV M Y G S) s.heap := hP
  have hK : va_K (dC, dI) classes (tV M) s := hK
  have hEw : ∀ (H : Heap) (locs : List Loc), va_S A s.heap H locs → ∀ U : State, U.heap = H → s.WarmedH U.vm → E A U := fun H locs hS U hU hW => X.kept A s U H locs hE hS hU hW
  have hl := lv_entry ([.ref M.o_Tu, .int p0]) (n := 5) (Nat.le_of_ble_eq_true rfl)
  rw [lg_entry_eq]
  generalize (lg_sl ([.ref M.o_Tu, .int p0]) ++ List.replicate (5 - (lg_sl ([.ref M.o_Tu, .int p0])).length) Slot.unset).toArray = ls at hl ⊢
  have hl : lv_has ls 5 [(0, .ref M.o_Tu), (1, .int p0)] := hl
  refine qabs (fun Q hQ => ?_)
  have hB_112 : ∀ (k : Nat), ∀ (y_2 : Int32) (y_3 : Int32) (y_4 : Int32) (S : CS) (H : Heap) (locs : List Loc) (ls : Array Slot), f_Tu_buildIndirects_112 K G k y_2 y_3 y_4 S = some S' → va_P (dC, dI) classes (wV M Y G S) H → va_D A (wV M Y G S) → va_S A s.heap H locs → lv_has ls 5 [(0, .ref M.o_Tu), (2, .int y_2), (3, .int y_3), (4, .int y_4)] → W p l e ({ frames := 3, cells := 0, slots := 0, locals := 104 }) s m ([.ref M.o_Tu, .int p0] : List Value).toArray below meth c H locs 0 0 Q (F0 m 112 ls []) := by
    intro k
    induction k with
    | zero => intro y_2 y_3 y_4 S H locs ls h; exact lf_no h
    | succ k hr_112 =>
      intro y_2 y_3 y_4 S H locs ls h hP hD hS hl
      rw [f_Tu_buildIndirects_112] at h
      refine lv_iload hx hb d_Tu_buildIndirects_112 (lv_at hl 3 rfl) ?_
      refine lv_iload_n hx hb d_Tu_buildIndirects_114 rfl (lv_at hl 2 rfl) ?_
      refine lv_icmp_ge (tgt := 154) hx hb d_Tu_buildIndirects_115 (by decide) (fun c_16 => ?_) (fun c_16 => ?_)
      · have h := lf_t h c_16
        rw [hQ]
        have e2 : S = S' := Option.some.inj h
        have hP := ly_newP e2.symm hP
        have hD := ly_newD e2.symm hD
        exact W.vret hx hb hr (fun t ht hW => ⟨⟨(), rfl, trivial, by rw [ht]; exact hP, va_K.moved hW.alike hK, hD⟩, hS.F ht⟩) hS.2.2 d_Tu_buildIndirects_154
      · have h := lf_f h c_16
        refine lv_aload_n hx hb d_Tu_buildIndirects_118 rfl (lv_at hl 0 rfl) ?_
        refine lv_bipush (v := 12) hx hb d_Tu_buildIndirects_119 (by decide) ?_
        refine lv_iload hx hb d_Tu_buildIndirects_121 (lv_at hl 3 rfl) ?_
        refine lv_iconst (v := 1) hx hb d_Tu_buildIndirects_123 (by decide) ?_
        refine lv_isub hx hb d_Tu_buildIndirects_124 ?_
        refine lv_sipush (v := 256) hx hb d_Tu_buildIndirects_125 (by decide) ?_
        refine lv_imul hx hb d_Tu_buildIndirects_128 ?_
        refine lv_iadd hx hb d_Tu_buildIndirects_129 ?_
        obtain ⟨S_17, hc_17, h⟩ := lf_bE h
        have hFc := lx_free hD hS hA
        refine va_callv (va_runV (As := [.int (12 + ((y_4 - 1) * 256))]) (rest := []) ⟨hx, hb, hml, hown, hts⟩ (l_Tu_putPointers l dC dI X _ hc_17) (cwV 1 hts (gwV good_Vt (u_Vt_Tu _ k_Tu_99) (u_Vt_Tu _ k_Tu_100) (u_Vt_Tu _ k_Tu_172) (u_Vt_Tu _ k_Tu_0) (wcs (u_Vt_Tu _ k_Tu_101) (fun _ h => h))) rfl rfl rfl (by decide +kernel) ⟨Nat.le_of_ble_eq_true rfl, Nat.le_of_ble_eq_true rfl⟩) (pv_ofE (X.same _) (fun U z1 z2 => X.mono _ _ U hFc (hEw _ _ hS U z1 z2)) hP hK hD (va_recv hK hP (ci := 10) (q0 := 8) rfl rfl)) rfl rfl hl.1 rfl (lv_room (Nat.le_of_ble_eq_true rfl)) d_Tu_buildIndirects_130 ⟨by decide, by decide⟩) hS (fun q _ h => hFc q h) hFc (fun u t H locs ht hvm hw hB hz1 hk1 hS => ?_)
        obtain ⟨hP, -, hD⟩ := hB
        rw [ht] at hP
        have hD := lx_dj hD hFc
        refine lv_aload_n hx hb d_Tu_buildIndirects_133 rfl (lv_at hl 0 rfl) ?_
        refine lv_aload_n hx hb d_Tu_buildIndirects_134 rfl (lv_at hl 0 rfl) ?_
        refine va_get (D := (dC, dI)) (ci := 10) (v := .ref M.o_Pl) (C := R_Tu) (T := F_Tu) (N := 7) hx hb hts (fun w h => u_Vt_Tu w (i_Tu w h)) hown hK hP 8 rfl rfl 4 (by decide) (hts _ (u_Vt_Tu _ k_Tu_21)) (fun _ h9 => h9) rfl d_Tu_buildIndirects_135 ?_
        refine lv_iload_n hx hb d_Tu_buildIndirects_138 rfl (lv_at hl 1 rfl) ?_
        refine lv_iload hx hb d_Tu_buildIndirects_139 (lv_at hl 3 rfl) ?_
        refine lv_iadd hx hb d_Tu_buildIndirects_141 ?_
        obtain ⟨r_18, S_18, hc_18, h⟩ := lf_cE h
        have hFc := lx_free hD hS hA
        refine va_calli (va_runV (As := [.int (y_2 + y_4)]) (rest := [.ref M.o_Tu]) ⟨hx, hb, hml, hown, hts⟩ (l_Pl_room l dC dI X _ hc_18) (cwV 1 hts (gwV good_Vt (u_Vt_Tu _ k_Tu_37) (u_Vt_Pl _ k_Pl_96) (u_Vt_Pl _ k_Pl_97) (u_Vt_Pl _ k_Pl_0) (wcs (u_Vt_Pl _ k_Pl_98) (fun _ h => h))) rfl rfl rfl (by decide +kernel) ⟨Nat.le_of_ble_eq_true rfl, Nat.le_of_ble_eq_true rfl⟩) (pv_ofE (X.same _) (fun U z1 z2 => X.mono _ _ U hFc (hEw _ _ hS U z1 z2)) hP hK hD (va_recv hK hP (ci := 9) (q0 := 7) rfl rfl)) rfl rfl hl.1 rfl (lv_room (Nat.le_of_ble_eq_true rfl)) d_Tu_buildIndirects_142 ⟨by decide, by decide⟩) hS (fun q _ h => hFc q h) hFc (fun r_ u t H locs ht hvm hw hB hz1 hk1 hS => ?_)
        rw [hw]
        obtain ⟨hP, -, hD⟩ := hB
        rw [ht] at hP
        have hD := lx_dj hD hFc
        obtain ⟨S_19, hc_19, h⟩ := lf_bE h
        have hFc := lx_free hD hS hA
        refine va_callv (va_runV (As := [.int r_18]) (rest := []) ⟨hx, hb, hml, hown, hts⟩ (l_Tu_storeBlock l dC dI X _ hc_19) (cwV 1 hts (gwV good_Vt (u_Vt_Tu _ k_Tu_72) (u_Vt_Tu _ k_Tu_73) (u_Vt_Tu _ k_Tu_165) (u_Vt_Tu _ k_Tu_0) (wcs (u_Vt_Tu _ k_Tu_74) (fun _ h => h))) rfl rfl rfl (by decide +kernel) ⟨Nat.le_of_ble_eq_true rfl, Nat.le_of_ble_eq_true rfl⟩) (pv_ofE (X.same _) (fun U z1 z2 => X.mono _ _ U hFc (hEw _ _ hS U z1 z2)) hP hK hD (va_recv hK hP (ci := 10) (q0 := 8) rfl rfl)) rfl rfl hl.1 rfl (lv_room (Nat.le_of_ble_eq_true rfl)) d_Tu_buildIndirects_145 ⟨by decide, by decide⟩) hS (fun q _ h => hFc q h) hFc (fun u t H locs ht hvm hw hB hz1 hk1 hS => ?_)
        obtain ⟨hP, -, hD⟩ := hB
        rw [ht] at hP
        have hD := lx_dj hD hFc
        obtain ⟨x_20, ex_20, h⟩ := lf_lX h
        refine lv_iinc (v := x_20) (lv' := [(4, .int x_20), (0, .ref M.o_Tu), (2, .int y_2), (3, .int y_3)]) hx hb d_Tu_buildIndirects_148 hl (k := 3) rfl (by rw [ex_20]; rfl) (by decide) rfl (fun ls hl => ?_)
        refine lv_goto (tgt := 112) hx hb d_Tu_buildIndirects_151 (by decide) ?_
        exact hr_112 y_2 y_3 x_20 S_19 _ _ _ h hP hD hS (lv_sub hl [1, 2, 3, 0] rfl)
  have hB_109 : ∀ (y_2 : Int32) (y_3 : Int32) (S : CS) (H : Heap) (locs : List Loc) (ls : Array Slot), f_Tu_buildIndirects_109 K G y_2 y_3 S = some S' → va_P (dC, dI) classes (wV M Y G S) H → va_D A (wV M Y G S) → va_S A s.heap H locs → lv_has ls 5 [(0, .ref M.o_Tu), (2, .int y_2), (3, .int y_3)] → W p l e ({ frames := 3, cells := 0, slots := 0, locals := 104 }) s m ([.ref M.o_Tu, .int p0] : List Value).toArray below meth c H locs 0 0 Q (F0 m 109 ls []) := by
    intro y_2 y_3 S H locs ls h hP hD hS hl
    rw [f_Tu_buildIndirects_109] at h
    refine lv_iconst (v := 2) hx hb d_Tu_buildIndirects_109 (by decide) ?_
    refine lv_istore (lv' := [(4, .int 2), (0, .ref M.o_Tu), (2, .int y_2), (3, .int y_3)]) hx hb d_Tu_buildIndirects_110 hl (by decide) rfl (fun ls hl => ?_)
    exact hB_112 K y_2 y_3 2 S _ _ _ h hP hD hS (lv_sub hl [1, 2, 3, 0] rfl)
  have hB_62 : ∀ (k : Nat), ∀ (y_2 : Int32) (y_3 : Int32) (y_4 : Int32) (S : CS) (H : Heap) (locs : List Loc) (ls : Array Slot), f_Tu_buildIndirects_62 K G k y_2 y_3 y_4 S = some S' → va_P (dC, dI) classes (wV M Y G S) H → va_D A (wV M Y G S) → va_S A s.heap H locs → lv_has ls 5 [(0, .ref M.o_Tu), (2, .int y_2), (3, .int y_3), (4, .int y_4)] → W p l e ({ frames := 3, cells := 0, slots := 0, locals := 104 }) s m ([.ref M.o_Tu, .int p0] : List Value).toArray below meth c H locs 0 0 Q (F0 m 62 ls []) := by
    intro k
    induction k with
    | zero => intro y_2 y_3 y_4 S H locs ls h; exact lf_no h
    | succ k hr_62 =>
      intro y_2 y_3 y_4 S H locs ls h hP hD hS hl
      rw [f_Tu_buildIndirects_62] at h
      refine lv_iload hx hb d_Tu_buildIndirects_62 (lv_at hl 3 rfl) ?_
      refine lv_iload_n hx hb d_Tu_buildIndirects_64 rfl (lv_at hl 2 rfl) ?_
      refine lv_icmp_ge (tgt := 95) hx hb d_Tu_buildIndirects_65 (by decide) (fun c_10 => ?_) (fun c_10 => ?_)
      · have h := lf_t h c_10
        refine lv_aload_n hx hb d_Tu_buildIndirects_95 rfl (lv_at hl 0 rfl) ?_
        refine lv_aload_n hx hb d_Tu_buildIndirects_96 rfl (lv_at hl 0 rfl) ?_
        refine va_get (D := (dC, dI)) (ci := 10) (v := .ref M.o_Pl) (C := R_Tu) (T := F_Tu) (N := 7) hx hb hts (fun w h => u_Vt_Tu w (i_Tu w h)) hown hK hP 8 rfl rfl 4 (by decide) (hts _ (u_Vt_Tu _ k_Tu_21)) (fun _ h9 => h9) rfl d_Tu_buildIndirects_97 ?_
        refine lv_iload_n hx hb d_Tu_buildIndirects_100 rfl (lv_at hl 1 rfl) ?_
        refine lv_iconst (v := 1) hx hb d_Tu_buildIndirects_101 (by decide) ?_
        refine lv_iadd hx hb d_Tu_buildIndirects_102 ?_
        obtain ⟨r_11, S_11, hc_11, h⟩ := lf_cE h
        have hFc := lx_free hD hS hA
        refine va_calli (va_runV (As := [.int (y_2 + 1)]) (rest := [.ref M.o_Tu]) ⟨hx, hb, hml, hown, hts⟩ (l_Pl_room l dC dI X _ hc_11) (cwV 1 hts (gwV good_Vt (u_Vt_Tu _ k_Tu_37) (u_Vt_Pl _ k_Pl_96) (u_Vt_Pl _ k_Pl_97) (u_Vt_Pl _ k_Pl_0) (wcs (u_Vt_Pl _ k_Pl_98) (fun _ h => h))) rfl rfl rfl (by decide +kernel) ⟨Nat.le_of_ble_eq_true rfl, Nat.le_of_ble_eq_true rfl⟩) (pv_ofE (X.same _) (fun U z1 z2 => X.mono _ _ U hFc (hEw _ _ hS U z1 z2)) hP hK hD (va_recv hK hP (ci := 9) (q0 := 7) rfl rfl)) rfl rfl hl.1 rfl (lv_room (Nat.le_of_ble_eq_true rfl)) d_Tu_buildIndirects_103 ⟨by decide, by decide⟩) hS (fun q _ h => hFc q h) hFc (fun r_ u t H locs ht hvm hw hB hz1 hk1 hS => ?_)
        rw [hw]
        obtain ⟨hP, -, hD⟩ := hB
        rw [ht] at hP
        have hD := lx_dj hD hFc
        obtain ⟨S_12, hc_12, h⟩ := lf_bE h
        have hFc := lx_free hD hS hA
        refine va_callv (va_runV (As := [.int r_11]) (rest := []) ⟨hx, hb, hml, hown, hts⟩ (l_Tu_storeBlock l dC dI X _ hc_12) (cwV 1 hts (gwV good_Vt (u_Vt_Tu _ k_Tu_72) (u_Vt_Tu _ k_Tu_73) (u_Vt_Tu _ k_Tu_165) (u_Vt_Tu _ k_Tu_0) (wcs (u_Vt_Tu _ k_Tu_74) (fun _ h => h))) rfl rfl rfl (by decide +kernel) ⟨Nat.le_of_ble_eq_true rfl, Nat.le_of_ble_eq_true rfl⟩) (pv_ofE (X.same _) (fun U z1 z2 => X.mono _ _ U hFc (hEw _ _ hS U z1 z2)) hP hK hD (va_recv hK hP (ci := 10) (q0 := 8) rfl rfl)) rfl rfl hl.1 rfl (lv_room (Nat.le_of_ble_eq_true rfl)) d_Tu_buildIndirects_106 ⟨by decide, by decide⟩) hS (fun q _ h => hFc q h) hFc (fun u t H locs ht hvm hw hB hz1 hk1 hS => ?_)
        obtain ⟨hP, -, hD⟩ := hB
        rw [ht] at hP
        have hD := lx_dj hD hFc
        exact hB_109 y_2 y_3 S_12 _ _ _ h hP hD hS (lv_sub hl [0, 1, 2] rfl)
      · have h := lf_f h c_10
        refine lv_aload_n hx hb d_Tu_buildIndirects_68 rfl (lv_at hl 0 rfl) ?_
        refine lv_iconst (v := 4) hx hb d_Tu_buildIndirects_69 (by decide) ?_
        refine lv_iload hx hb d_Tu_buildIndirects_70 (lv_at hl 3 rfl) ?_
        refine lv_iconst (v := 2) hx hb d_Tu_buildIndirects_72 (by decide) ?_
        refine lv_isub hx hb d_Tu_buildIndirects_73 ?_
        refine lv_imul hx hb d_Tu_buildIndirects_74 ?_
        refine lv_aload_n hx hb d_Tu_buildIndirects_75 rfl (lv_at hl 0 rfl) ?_
        refine va_get (D := (dC, dI)) (ci := 10) (v := .ref M.o_Pl) (C := R_Tu) (T := F_Tu) (N := 7) hx hb hts (fun w h => u_Vt_Tu w (i_Tu w h)) hown hK hP 8 rfl rfl 4 (by decide) (hts _ (u_Vt_Tu _ k_Tu_21)) (fun _ h9 => h9) rfl d_Tu_buildIndirects_76 ?_
        refine lv_iload_n hx hb d_Tu_buildIndirects_79 rfl (lv_at hl 1 rfl) ?_
        refine lv_iload hx hb d_Tu_buildIndirects_80 (lv_at hl 3 rfl) ?_
        refine lv_iadd hx hb d_Tu_buildIndirects_82 ?_
        obtain ⟨r_13, S_13, hc_13, h⟩ := lf_cE h
        have hFc := lx_free hD hS hA
        refine va_calli (va_runV (As := [.int (y_2 + y_4)]) (rest := [.int (4 * (y_4 - 2)), .ref M.o_Tu]) ⟨hx, hb, hml, hown, hts⟩ (l_Pl_room l dC dI X _ hc_13) (cwV 1 hts (gwV good_Vt (u_Vt_Tu _ k_Tu_37) (u_Vt_Pl _ k_Pl_96) (u_Vt_Pl _ k_Pl_97) (u_Vt_Pl _ k_Pl_0) (wcs (u_Vt_Pl _ k_Pl_98) (fun _ h => h))) rfl rfl rfl (by decide +kernel) ⟨Nat.le_of_ble_eq_true rfl, Nat.le_of_ble_eq_true rfl⟩) (pv_ofE (X.same _) (fun U z1 z2 => X.mono _ _ U hFc (hEw _ _ hS U z1 z2)) hP hK hD (va_recv hK hP (ci := 9) (q0 := 7) rfl rfl)) rfl rfl hl.1 rfl (lv_room (Nat.le_of_ble_eq_true rfl)) d_Tu_buildIndirects_83 ⟨by decide, by decide⟩) hS (fun q _ h => hFc q h) hFc (fun r_ u t H locs ht hvm hw hB hz1 hk1 hS => ?_)
        rw [hw]
        obtain ⟨hP, -, hD⟩ := hB
        rw [ht] at hP
        have hD := lx_dj hD hFc
        obtain ⟨S_14, hc_14, h⟩ := lf_bE h
        have hFc := lx_free hD hS hA
        refine va_callv (va_runV (As := [.int (4 * (y_4 - 2)), .int r_13]) (rest := []) ⟨hx, hb, hml, hown, hts⟩ (l_Tu_putFour l dC dI X _ hc_14) (cwV 2 hts (gwV good_Vt (u_Vt_Tu _ k_Tu_84) (u_Vt_Tu _ k_Tu_85) (u_Vt_Tu _ k_Tu_168) (u_Vt_Tu _ k_Tu_0) (wcs (u_Vt_Tu _ k_Tu_86) (fun _ h => h))) rfl rfl rfl (by decide +kernel) ⟨Nat.le_of_ble_eq_true rfl, Nat.le_of_ble_eq_true rfl⟩) (pv_ofE (X.same _) (fun U z1 z2 => X.mono _ _ U hFc (hEw _ _ hS U z1 z2)) hP hK hD (va_recv hK hP (ci := 10) (q0 := 8) rfl rfl)) rfl rfl hl.1 rfl (lv_room (Nat.le_of_ble_eq_true rfl)) d_Tu_buildIndirects_86 ⟨by decide, by decide⟩) hS (fun q _ h => hFc q h) hFc (fun u t H locs ht hvm hw hB hz1 hk1 hS => ?_)
        obtain ⟨hP, -, hD⟩ := hB
        rw [ht] at hP
        have hD := lx_dj hD hFc
        obtain ⟨x_15, ex_15, h⟩ := lf_lX h
        refine lv_iinc (v := x_15) (lv' := [(4, .int x_15), (0, .ref M.o_Tu), (2, .int y_2), (3, .int y_3)]) hx hb d_Tu_buildIndirects_89 hl (k := 3) rfl (by rw [ex_15]; rfl) (by decide) rfl (fun ls hl => ?_)
        refine lv_goto (tgt := 62) hx hb d_Tu_buildIndirects_92 (by decide) ?_
        exact hr_62 y_2 y_3 x_15 S_14 _ _ _ h hP hD hS (lv_sub hl [1, 2, 3, 0] rfl)
  have hB_50 : ∀ (y_2 : Int32) (y_3 : Int32) (S : CS) (H : Heap) (locs : List Loc) (ls : Array Slot), f_Tu_buildIndirects_50 K G y_2 y_3 S = some S' → va_P (dC, dI) classes (wV M Y G S) H → va_D A (wV M Y G S) → va_S A s.heap H locs → lv_has ls 5 [(0, .ref M.o_Tu), (2, .int y_2), (3, .int y_3)] → W p l e ({ frames := 3, cells := 0, slots := 0, locals := 104 }) s m ([.ref M.o_Tu, .int p0] : List Value).toArray below meth c H locs 0 0 Q (F0 m 50 ls []) := by
    intro y_2 y_3 S H locs ls h hP hD hS hl
    rw [f_Tu_buildIndirects_50] at h
    refine lv_iload_n hx hb d_Tu_buildIndirects_50 rfl (lv_at hl 2 rfl) ?_
    refine lv_iconst (v := 1) hx hb d_Tu_buildIndirects_51 (by decide) ?_
    refine lv_icmp_le (tgt := 109) hx hb d_Tu_buildIndirects_52 (by decide) (fun c_8 => ?_) (fun c_8 => ?_)
    · have h := lf_t h c_8
      exact hB_109 y_2 y_3 S _ _ _ h hP hD hS (lv_sub hl [0, 1, 2] rfl)
    · have h := lf_f h c_8
      refine lv_aload_n hx hb d_Tu_buildIndirects_55 rfl (lv_at hl 0 rfl) ?_
      obtain ⟨S_9, hc_9, h⟩ := lf_bE h
      have hFc := lx_free hD hS hA
      refine va_callv (va_runV (As := []) (rest := []) ⟨hx, hb, hml, hown, hts⟩ (l_Tu_empty l dC dI X _ hc_9) (cwV 0 hts (gwV good_Vt (u_Vt_Tu _ k_Tu_57) (u_Vt_Tu _ k_Tu_58) (u_Vt_Tu _ k_Tu_164) (u_Vt_Tu _ k_Tu_0) (wcs (u_Vt_Tu _ k_Tu_59) (fun _ h => h))) rfl rfl rfl (by decide +kernel) ⟨Nat.le_of_ble_eq_true rfl, Nat.le_of_ble_eq_true rfl⟩) (pv_ofE (X.same _) (fun U z1 z2 => X.mono _ _ U hFc (hEw _ _ hS U z1 z2)) hP hK hD (va_recv hK hP (ci := 10) (q0 := 8) rfl rfl)) rfl rfl hl.1 rfl (lv_room (Nat.le_of_ble_eq_true rfl)) d_Tu_buildIndirects_56 ⟨by decide, by decide⟩) hS (fun q _ h => hFc q h) hFc (fun u t H locs ht hvm hw hB hz1 hk1 hS => ?_)
      obtain ⟨hP, -, hD⟩ := hB
      rw [ht] at hP
      have hD := lx_dj hD hFc
      refine lv_iconst (v := 2) hx hb d_Tu_buildIndirects_59 (by decide) ?_
      refine lv_istore (lv' := [(4, .int 2), (0, .ref M.o_Tu), (2, .int y_2), (3, .int y_3)]) hx hb d_Tu_buildIndirects_60 hl (by decide) rfl (fun ls hl => ?_)
      exact hB_62 K y_2 y_3 2 S_9 _ _ _ h hP hD hS (lv_sub hl [1, 2, 3, 0] rfl)
  rw [f_Tu_buildIndirects] at h
  refine lv_aload_n hx hb d_Tu_buildIndirects_0 rfl (lv_at hl 0 rfl) ?_
  refine va_get (D := (dC, dI)) (ci := 10) (v := .ref M.o_Pl) (C := R_Tu) (T := F_Tu) (N := 7) hx hb hts (fun w h => u_Vt_Tu w (i_Tu w h)) hown hK hP 8 rfl rfl 4 (by decide) (hts _ (u_Vt_Tu _ k_Tu_21)) (fun _ h9 => h9) rfl d_Tu_buildIndirects_1 ?_
  refine lv_iload_n hx hb d_Tu_buildIndirects_4 rfl (lv_at hl 1 rfl) ?_
  obtain ⟨S_1, hc_1, h⟩ := lf_bE h
  have hFc := lx_free hD hS hA
  refine va_callv (va_runV (As := [.int p0]) (rest := []) ⟨hx, hb, hml, hown, hts⟩ (l_Pl_gather l dC dI X _ hc_1) (cwV 1 hts (gwV good_Vt (u_Vt_Tu _ k_Tu_96) (u_Vt_Pl _ k_Pl_90) (u_Vt_Pl _ k_Pl_91) (u_Vt_Pl _ k_Pl_0) (wcs (u_Vt_Pl _ k_Pl_92) (fun _ h => h))) rfl rfl rfl (by decide +kernel) ⟨Nat.le_of_ble_eq_true rfl, Nat.le_of_ble_eq_true rfl⟩) (pv_ofE (X.same _) (fun U z1 z2 => X.mono _ _ U hFc (hEw _ _ hS U z1 z2)) hP hK hD (va_recv hK hP (ci := 9) (q0 := 7) rfl rfl)) rfl rfl hl.1 rfl (lv_room (Nat.le_of_ble_eq_true rfl)) d_Tu_buildIndirects_5 ⟨by decide, by decide⟩) hS (fun q _ h => hFc q h) hFc (fun u t H locs ht hvm hw hB hz1 hk1 hS => ?_)
  obtain ⟨hP, -, hD⟩ := hB
  rw [ht] at hP
  have hD := lx_dj hD hFc
  refine lv_aload_n hx hb d_Tu_buildIndirects_8 rfl (lv_at hl 0 rfl) ?_
  refine va_get (D := (dC, dI)) (ci := 10) (v := .ref M.o_Pl) (C := R_Tu) (T := F_Tu) (N := 7) hx hb hts (fun w h => u_Vt_Tu w (i_Tu w h)) hown hK hP 8 rfl rfl 4 (by decide) (hts _ (u_Vt_Tu _ k_Tu_21)) (fun _ h9 => h9) rfl d_Tu_buildIndirects_9 ?_
  refine lv_iload_n hx hb d_Tu_buildIndirects_12 rfl (lv_at hl 1 rfl) ?_
  obtain ⟨r_2, S_2, hc_2, h⟩ := lf_cE h
  have hFc := lx_free hD hS hA
  refine va_calli (va_runV (As := [.int p0]) (rest := []) ⟨hx, hb, hml, hown, hts⟩ (l_Pl_firstIndirect l dC dI X _ hc_2) (cwV 1 hts (gwV good_Vt (u_Vt_Tu _ k_Tu_97) (u_Vt_Pl _ k_Pl_139) (u_Vt_Pl _ k_Pl_140) (u_Vt_Pl _ k_Pl_0) (wcs (u_Vt_Pl _ k_Pl_141) (fun _ h => h))) rfl rfl rfl (by decide +kernel) ⟨Nat.le_of_ble_eq_true rfl, Nat.le_of_ble_eq_true rfl⟩) (pv_ofE (X.same _) (fun U z1 z2 => X.mono _ _ U hFc (hEw _ _ hS U z1 z2)) hP hK hD (va_recv hK hP (ci := 9) (q0 := 7) rfl rfl)) rfl rfl hl.1 rfl (lv_room (Nat.le_of_ble_eq_true rfl)) d_Tu_buildIndirects_13 ⟨by decide, by decide⟩) hS (fun q _ h => hFc q h) hFc (fun r_ u t H locs ht hvm hw hB hz1 hk1 hS => ?_)
  rw [hw]
  obtain ⟨hP, -, hD⟩ := hB
  rw [ht] at hP
  have hD := lx_dj hD hFc
  refine lv_istore_n (lv' := [(2, .int r_2), (0, .ref M.o_Tu), (1, .int p0)]) hx hb d_Tu_buildIndirects_16 rfl hl (by decide) rfl (fun ls hl => ?_)
  refine lv_aload_n hx hb d_Tu_buildIndirects_17 rfl (lv_at hl 1 rfl) ?_
  refine va_get (D := (dC, dI)) (ci := 10) (v := .ref M.o_Pl) (C := R_Tu) (T := F_Tu) (N := 7) hx hb hts (fun w h => u_Vt_Tu w (i_Tu w h)) hown hK hP 8 rfl rfl 4 (by decide) (hts _ (u_Vt_Tu _ k_Tu_21)) (fun _ h9 => h9) rfl d_Tu_buildIndirects_18 ?_
  refine va_get (D := (dC, dI)) (ci := 9) (v := .int S_2.v_Pl_listed) (C := R_Pl) (T := F_Pl) (N := 17) hx hb hts (fun w h => u_Vt_Pl w (i_Pl w h)) hown hK hP 7 rfl rfl 10 (by decide) (hts _ (u_Vt_Tu _ k_Tu_8)) (fun _ h9 => h9) rfl d_Tu_buildIndirects_21 ?_
  obtain ⟨r_3, hc_3, h⟩ := lf_bE h
  have hFc := lx_free0 hS hA
  refine va_calli (va_runS (As := [.int S_2.v_Pl_listed]) (rest := []) ⟨hx, hb, hml, hown, hts⟩ (l_Pl_indirects l dC dI  _ hc_3) (va_cwS 1 hts (gwS good_Vt (u_Vt_Tu _ k_Tu_98) (u_Vt_Pl _ k_Pl_111) (u_Vt_Pl _ k_Pl_0) (wcs (u_Vt_Pl _ k_Pl_112) (fun _ h => h))) rfl rfl rfl (by decide +kernel) ⟨Nat.le_of_ble_eq_true rfl, Nat.le_of_ble_eq_true rfl⟩) (ps_of (W := []) (tys := []) (hP.sub (ws' := []) [] rfl) (hK.sub [] rfl) (hD.sub (ws' := []) [] (by decide) rfl)) rfl rfl hl.1 rfl (lv_room (Nat.le_of_ble_eq_true rfl)) d_Tu_buildIndirects_24 ⟨by decide, by decide⟩) hS (fun q _ h => hFc q h) hFc (fun r_ u t H locs ht hvm hw hB hz1 hk1 hS => ?_)
  rw [hw]
  have hP := lx_stat (A := A) hP hk1
  refine lv_istore_n (lv' := [(3, .int r_3), (2, .int r_2), (0, .ref M.o_Tu), (1, .int p0)]) hx hb d_Tu_buildIndirects_27 rfl hl (by decide) rfl (fun ls hl => ?_)
  refine lv_iload_n hx hb d_Tu_buildIndirects_28 rfl (lv_at hl 0 rfl) ?_
  refine lv_if_le (tgt := 50) hx hb d_Tu_buildIndirects_29 (by decide) (fun c_4 => ?_) (fun c_4 => ?_)
  · have h := lf_t h c_4
    exact hB_50 r_2 r_3 S_2 _ _ _ h hP hD hS (lv_sub hl [2, 1, 0] rfl)
  · have h := lf_f h c_4
    refine lv_aload_n hx hb d_Tu_buildIndirects_32 rfl (lv_at hl 2 rfl) ?_
    refine lv_bipush (v := 12) hx hb d_Tu_buildIndirects_33 (by decide) ?_
    obtain ⟨S_5, hc_5, h⟩ := lf_bE h
    have hFc := lx_free hD hS hA
    refine va_callv (va_runV (As := [.int 12]) (rest := []) ⟨hx, hb, hml, hown, hts⟩ (l_Tu_putPointers l dC dI X _ hc_5) (cwV 1 hts (gwV good_Vt (u_Vt_Tu _ k_Tu_99) (u_Vt_Tu _ k_Tu_100) (u_Vt_Tu _ k_Tu_172) (u_Vt_Tu _ k_Tu_0) (wcs (u_Vt_Tu _ k_Tu_101) (fun _ h => h))) rfl rfl rfl (by decide +kernel) ⟨Nat.le_of_ble_eq_true rfl, Nat.le_of_ble_eq_true rfl⟩) (pv_ofE (X.same _) (fun U z1 z2 => X.mono _ _ U hFc (hEw _ _ hS U z1 z2)) hP hK hD (va_recv hK hP (ci := 10) (q0 := 8) rfl rfl)) rfl rfl hl.1 rfl (lv_room (Nat.le_of_ble_eq_true rfl)) d_Tu_buildIndirects_35 ⟨by decide, by decide⟩) hS (fun q _ h => hFc q h) hFc (fun u t H locs ht hvm hw hB hz1 hk1 hS => ?_)
    obtain ⟨hP, -, hD⟩ := hB
    rw [ht] at hP
    have hD := lx_dj hD hFc
    refine lv_aload_n hx hb d_Tu_buildIndirects_38 rfl (lv_at hl 2 rfl) ?_
    refine lv_aload_n hx hb d_Tu_buildIndirects_39 rfl (lv_at hl 2 rfl) ?_
    refine va_get (D := (dC, dI)) (ci := 10) (v := .ref M.o_Pl) (C := R_Tu) (T := F_Tu) (N := 7) hx hb hts (fun w h => u_Vt_Tu w (i_Tu w h)) hown hK hP 8 rfl rfl 4 (by decide) (hts _ (u_Vt_Tu _ k_Tu_21)) (fun _ h9 => h9) rfl d_Tu_buildIndirects_40 ?_
    refine lv_iload_n hx hb d_Tu_buildIndirects_43 rfl (lv_at hl 1 rfl) ?_
    obtain ⟨r_6, S_6, hc_6, h⟩ := lf_cE h
    have hFc := lx_free hD hS hA
    refine va_calli (va_runV (As := [.int r_2]) (rest := [.ref M.o_Tu]) ⟨hx, hb, hml, hown, hts⟩ (l_Pl_room l dC dI X _ hc_6) (cwV 1 hts (gwV good_Vt (u_Vt_Tu _ k_Tu_37) (u_Vt_Pl _ k_Pl_96) (u_Vt_Pl _ k_Pl_97) (u_Vt_Pl _ k_Pl_0) (wcs (u_Vt_Pl _ k_Pl_98) (fun _ h => h))) rfl rfl rfl (by decide +kernel) ⟨Nat.le_of_ble_eq_true rfl, Nat.le_of_ble_eq_true rfl⟩) (pv_ofE (X.same _) (fun U z1 z2 => X.mono _ _ U hFc (hEw _ _ hS U z1 z2)) hP hK hD (va_recv hK hP (ci := 9) (q0 := 7) rfl rfl)) rfl rfl hl.1 rfl (lv_room (Nat.le_of_ble_eq_true rfl)) d_Tu_buildIndirects_44 ⟨by decide, by decide⟩) hS (fun q _ h => hFc q h) hFc (fun r_ u t H locs ht hvm hw hB hz1 hk1 hS => ?_)
    rw [hw]
    obtain ⟨hP, -, hD⟩ := hB
    rw [ht] at hP
    have hD := lx_dj hD hFc
    obtain ⟨S_7, hc_7, h⟩ := lf_bE h
    have hFc := lx_free hD hS hA
    refine va_callv (va_runV (As := [.int r_6]) (rest := []) ⟨hx, hb, hml, hown, hts⟩ (l_Tu_storeBlock l dC dI X _ hc_7) (cwV 1 hts (gwV good_Vt (u_Vt_Tu _ k_Tu_72) (u_Vt_Tu _ k_Tu_73) (u_Vt_Tu _ k_Tu_165) (u_Vt_Tu _ k_Tu_0) (wcs (u_Vt_Tu _ k_Tu_74) (fun _ h => h))) rfl rfl rfl (by decide +kernel) ⟨Nat.le_of_ble_eq_true rfl, Nat.le_of_ble_eq_true rfl⟩) (pv_ofE (X.same _) (fun U z1 z2 => X.mono _ _ U hFc (hEw _ _ hS U z1 z2)) hP hK hD (va_recv hK hP (ci := 10) (q0 := 8) rfl rfl)) rfl rfl hl.1 rfl (lv_room (Nat.le_of_ble_eq_true rfl)) d_Tu_buildIndirects_47 ⟨by decide, by decide⟩) hS (fun q _ h => hFc q h) hFc (fun u t H locs ht hvm hw hB hz1 hk1 hS => ?_)
    obtain ⟨hP, -, hD⟩ := hB
    rw [ht] at hP
    have hD := lx_dj hD hFc
    exact hB_50 r_2 r_3 S_7 _ _ _ h hP hD hS (lv_sub hl [2, 1, 0] rfl)
set_option maxHeartbeats 4000000 in
set_option maxRecDepth 100000 in
theorem l_Tu_prepare (l : Launch) (dC : Nat → ClassId) (dI : Nat → Nat → Nat) {K : Nat} {M : CA} {E : (Nat → Prop) → State → Prop} (X : ly_X l dC dI K M E) (sz : Nat) {Y : CT} {G : CG} {S S' : CS} (h : f_Tu_prepare K G S = some S') : Met l y_Tu_prepare (.code y_Tu_prepare b_Tu_prepare 2 none :: V_Vt) ({ frames := 11, cells := 0, slots := 0, locals := 326 }) (va_Pc [.ref M.o_Tu] (fun U => U.heap.size = sz ∧ at_ (dC, dI) (fun _ => True) (wV M Y G S) (tV M) U ∧ E (va_A (wV M Y G S) sz) U)) (va_Qv (fun (u : Unit) => True) (fun (u : Unit) t => at_ (dC, dI) (va_A (wV M Y G S) sz) (wV M Y G S') (tV M) t) (va_A (wV M Y G S) sz)) 0 0 (va_A (wV M Y G S) sz) := by
  refine Met.ofW (cc := b_Tu_prepare) (maxL := 2) (ret := none) (by decide) rfl ?_
  intro p e s m args below meth c s₁ B hml hv
  obtain ⟨rfl, hsz, ⟨hP, hK, hD0⟩, hE⟩ := hv
  have hx := B.exec
  have hb := B.bytes
  have hr := B.returns
  have hts0 := atoms_spec (ws := .code y_Tu_prepare b_Tu_prepare 2 none :: V_Vt) B.pre
  have hts : ∀ w ∈ V_Vt, w.before ([.ref M.o_Tu] : List Value).toArray s = true := fun w h => hts0 w (List.mem_cons_of_mem _ h)
  have hown : s.vm.findClass R_Tu = some m.cls := findClass_of_methodNamed B.named
  subst hsz
  have hD := hD0.self (sz := s.heap.size)
  generalize hAe : va_A (wV M Y G S) s.heap.size = A at hD hE ⊢
  have hA : ∀ q : Nat, s.heap.size ≤ q → A q := fun q h => by rw [← hAe]; exact Or.inr h
  have hS : va_S A s.heap s.heap [] := va_S.rf
  have hP : va_P (dC, dI) classes (wV M Y G S) s.heap := hP
  have hK : va_K (dC, dI) classes (tV M) s := hK
  have hEw : ∀ (H : Heap) (locs : List Loc), va_S A s.heap H locs → ∀ U : State, U.heap = H → s.WarmedH U.vm → E A U := fun H locs hS U hU hW => X.kept A s U H locs hE hS hU hW
  have hl := lv_entry ([.ref M.o_Tu]) (n := 2) (Nat.le_of_ble_eq_true rfl)
  rw [lg_entry_eq]
  generalize (lg_sl ([.ref M.o_Tu]) ++ List.replicate (2 - (lg_sl ([.ref M.o_Tu])).length) Slot.unset).toArray = ls at hl ⊢
  have hl : lv_has ls 2 [(0, .ref M.o_Tu)] := hl
  refine qabs (fun Q hQ => ?_)
  have hB_49 : ∀ (rec_2 : Int32 → CS → Option (CS)) (hr_2 : ∀ (y_1 : Int32) (S : CS) (H : Heap) (locs : List Loc) (ls : Array Slot), rec_2 y_1 S = some S' → va_P (dC, dI) classes (wV M Y G S) H → va_D A (wV M Y G S) → va_S A s.heap H locs → lv_has ls 2 [(0, .ref M.o_Tu), (1, .int y_1)] → W p l e ({ frames := 11, cells := 0, slots := 0, locals := 326 }) s m ([.ref M.o_Tu] : List Value).toArray below meth c H locs 0 0 Q (F0 m 2 ls [])), ∀ (y_1 : Int32) (S : CS) (H : Heap) (locs : List Loc) (ls : Array Slot), f_Tu_prepare_49 K G rec_2 y_1 S = some S' → va_P (dC, dI) classes (wV M Y G S) H → va_D A (wV M Y G S) → va_S A s.heap H locs → lv_has ls 2 [(0, .ref M.o_Tu), (1, .int y_1)] → W p l e ({ frames := 11, cells := 0, slots := 0, locals := 326 }) s m ([.ref M.o_Tu] : List Value).toArray below meth c H locs 0 0 Q (F0 m 49 ls []) := by
    intro rec_2 hr_2 y_1 S H locs ls h hP hD hS hl
    rw [f_Tu_prepare_49] at h
    obtain ⟨x_9, ex_9, h⟩ := lf_lX h
    refine lv_iinc (v := x_9) (lv' := [(1, .int x_9), (0, .ref M.o_Tu)]) hx hb d_Tu_prepare_49 hl (k := 1) rfl (by rw [ex_9]; rfl) (by decide) rfl (fun ls hl => ?_)
    refine lv_goto (tgt := 2) hx hb d_Tu_prepare_52 (by decide) ?_
    exact hr_2 x_9 S _ _ _ h hP hD hS (lv_sub hl [1, 0] rfl)
  have hB_98 : ∀ (rec_61 : Int32 → CS → Option (CS)) (hr_61 : ∀ (y_1 : Int32) (S : CS) (H : Heap) (locs : List Loc) (ls : Array Slot), rec_61 y_1 S = some S' → va_P (dC, dI) classes (wV M Y G S) H → va_D A (wV M Y G S) → va_S A s.heap H locs → lv_has ls 2 [(0, .ref M.o_Tu), (1, .int y_1)] → W p l e ({ frames := 11, cells := 0, slots := 0, locals := 326 }) s m ([.ref M.o_Tu] : List Value).toArray below meth c H locs 0 0 Q (F0 m 61 ls [])), ∀ (y_1 : Int32) (S : CS) (H : Heap) (locs : List Loc) (ls : Array Slot), f_Tu_prepare_98 K G rec_61 y_1 S = some S' → va_P (dC, dI) classes (wV M Y G S) H → va_D A (wV M Y G S) → va_S A s.heap H locs → lv_has ls 2 [(0, .ref M.o_Tu), (1, .int y_1)] → W p l e ({ frames := 11, cells := 0, slots := 0, locals := 326 }) s m ([.ref M.o_Tu] : List Value).toArray below meth c H locs 0 0 Q (F0 m 98 ls []) := by
    intro rec_61 hr_61 y_1 S H locs ls h hP hD hS hl
    rw [f_Tu_prepare_98] at h
    refine lv_aload_n hx hb d_Tu_prepare_98 rfl (lv_at hl 0 rfl) ?_
    refine lv_iload_n hx hb d_Tu_prepare_99 rfl (lv_at hl 1 rfl) ?_
    obtain ⟨S_21, hc_21, h⟩ := lf_bE h
    have hFc := lx_free hD hS hA
    refine va_callv (va_runV (As := [.int y_1]) (rest := []) ⟨hx, hb, hml, hown, hts⟩ (l_Tu_buildIndirects l dC dI X _ hc_21) (cwV 1 hts (gwV good_Vt (u_Vt_Tu _ k_Tu_93) (u_Vt_Tu _ k_Tu_94) (u_Vt_Tu _ k_Tu_171) (u_Vt_Tu _ k_Tu_0) (wcs (u_Vt_Tu _ k_Tu_95) (fun _ h => h))) rfl rfl rfl (by decide +kernel) ⟨Nat.le_of_ble_eq_true rfl, Nat.le_of_ble_eq_true rfl⟩) (pv_ofE (X.same _) (fun U z1 z2 => X.mono _ _ U hFc (hEw _ _ hS U z1 z2)) hP hK hD (va_recv hK hP (ci := 10) (q0 := 8) rfl rfl)) rfl rfl hl.1 rfl (lv_room (Nat.le_of_ble_eq_true rfl)) d_Tu_prepare_100 ⟨by decide, by decide⟩) hS (fun q _ h => hFc q h) hFc (fun u t H locs ht hvm hw hB hz1 hk1 hS => ?_)
    obtain ⟨hP, -, hD⟩ := hB
    rw [ht] at hP
    have hD := lx_dj hD hFc
    obtain ⟨x_22, ex_22, h⟩ := lf_lX h
    refine lv_iinc (v := x_22) (lv' := [(1, .int x_22), (0, .ref M.o_Tu)]) hx hb d_Tu_prepare_103 hl (k := 1) rfl (by rw [ex_22]; rfl) (by decide) rfl (fun ls hl => ?_)
    refine lv_goto (tgt := 61) hx hb d_Tu_prepare_106 (by decide) ?_
    exact hr_61 x_22 S_21 _ _ _ h hP hD hS (lv_sub hl [1, 0] rfl)
  have hB_109 : ∀ (S : CS) (H : Heap) (locs : List Loc) (ls : Array Slot), f_Tu_prepare_109 K G S = some S' → va_P (dC, dI) classes (wV M Y G S) H → va_D A (wV M Y G S) → va_S A s.heap H locs → lv_has ls 2 [(0, .ref M.o_Tu)] → W p l e ({ frames := 11, cells := 0, slots := 0, locals := 326 }) s m ([.ref M.o_Tu] : List Value).toArray below meth c H locs 0 0 Q (F0 m 109 ls []) := by
    intro S H locs ls h hP hD hS hl
    rw [f_Tu_prepare_109] at h
    refine lv_aload_n hx hb d_Tu_prepare_109 rfl (lv_at hl 0 rfl) ?_
    obtain ⟨S_16, hc_16, h⟩ := lf_bE h
    have hFc := lx_free hD hS hA
    refine va_callv (va_runV (As := []) (rest := []) ⟨hx, hb, hml, hown, hts⟩ (l_Tu_empty l dC dI X _ hc_16) (cwV 0 hts (gwV good_Vt (u_Vt_Tu _ k_Tu_57) (u_Vt_Tu _ k_Tu_58) (u_Vt_Tu _ k_Tu_164) (u_Vt_Tu _ k_Tu_0) (wcs (u_Vt_Tu _ k_Tu_59) (fun _ h => h))) rfl rfl rfl (by decide +kernel) ⟨Nat.le_of_ble_eq_true rfl, Nat.le_of_ble_eq_true rfl⟩) (pv_ofE (X.same _) (fun U z1 z2 => X.mono _ _ U hFc (hEw _ _ hS U z1 z2)) hP hK hD (va_recv hK hP (ci := 10) (q0 := 8) rfl rfl)) rfl rfl hl.1 rfl (lv_room (Nat.le_of_ble_eq_true rfl)) d_Tu_prepare_110 ⟨by decide, by decide⟩) hS (fun q _ h => hFc q h) hFc (fun u t H locs ht hvm hw hB hz1 hk1 hS => ?_)
    obtain ⟨hP, -, hD⟩ := hB
    rw [ht] at hP
    have hD := lx_dj hD hFc
    refine lv_aload_n hx hb d_Tu_prepare_113 rfl (lv_at hl 0 rfl) ?_
    refine lv_iconst (v := 0) hx hb d_Tu_prepare_114 (by decide) ?_
    refine lv_ldc (v := 1314018644) hx hb hown (hts _ (u_Vt_Tu _ k_Tu_102)) d_Tu_prepare_115 ?_
    obtain ⟨S_17, hc_17, h⟩ := lf_bE h
    have hFc := lx_free hD hS hA
    refine va_callv (va_runV (As := [.int 0, .int 1314018644]) (rest := []) ⟨hx, hb, hml, hown, hts⟩ (l_Tu_putFour l dC dI X _ hc_17) (cwV 2 hts (gwV good_Vt (u_Vt_Tu _ k_Tu_84) (u_Vt_Tu _ k_Tu_85) (u_Vt_Tu _ k_Tu_168) (u_Vt_Tu _ k_Tu_0) (wcs (u_Vt_Tu _ k_Tu_86) (fun _ h => h))) rfl rfl rfl (by decide +kernel) ⟨Nat.le_of_ble_eq_true rfl, Nat.le_of_ble_eq_true rfl⟩) (pv_ofE (X.same _) (fun U z1 z2 => X.mono _ _ U hFc (hEw _ _ hS U z1 z2)) hP hK hD (va_recv hK hP (ci := 10) (q0 := 8) rfl rfl)) rfl rfl hl.1 rfl (lv_room (Nat.le_of_ble_eq_true rfl)) d_Tu_prepare_117 ⟨by decide, by decide⟩) hS (fun q _ h => hFc q h) hFc (fun u t H locs ht hvm hw hB hz1 hk1 hS => ?_)
    obtain ⟨hP, -, hD⟩ := hB
    rw [ht] at hP
    have hD := lx_dj hD hFc
    refine lv_aload_n hx hb d_Tu_prepare_120 rfl (lv_at hl 0 rfl) ?_
    refine lv_iconst (v := 4) hx hb d_Tu_prepare_121 (by decide) ?_
    refine lv_aload_n hx hb d_Tu_prepare_122 rfl (lv_at hl 0 rfl) ?_
    refine va_get (D := (dC, dI)) (ci := 10) (v := .ref M.o_Pl) (C := R_Tu) (T := F_Tu) (N := 7) hx hb hts (fun w h => u_Vt_Tu w (i_Tu w h)) hown hK hP 8 rfl rfl 4 (by decide) (hts _ (u_Vt_Tu _ k_Tu_21)) (fun _ h9 => h9) rfl d_Tu_prepare_123 ?_
    refine va_get (D := (dC, dI)) (ci := 9) (v := .int S_17.v_Pl_size) (C := R_Pl) (T := F_Pl) (N := 17) hx hb hts (fun w h => u_Vt_Pl w (i_Pl w h)) hown hK hP 7 rfl rfl 11 (by decide) (hts _ (u_Vt_Tu _ k_Tu_9)) (fun _ h9 => h9) rfl d_Tu_prepare_126 ?_
    obtain ⟨S_18, hc_18, h⟩ := lf_bE h
    have hFc := lx_free hD hS hA
    refine va_callv (va_runV (As := [.int 4, .int S_17.v_Pl_size]) (rest := []) ⟨hx, hb, hml, hown, hts⟩ (l_Tu_putFour l dC dI X _ hc_18) (cwV 2 hts (gwV good_Vt (u_Vt_Tu _ k_Tu_84) (u_Vt_Tu _ k_Tu_85) (u_Vt_Tu _ k_Tu_168) (u_Vt_Tu _ k_Tu_0) (wcs (u_Vt_Tu _ k_Tu_86) (fun _ h => h))) rfl rfl rfl (by decide +kernel) ⟨Nat.le_of_ble_eq_true rfl, Nat.le_of_ble_eq_true rfl⟩) (pv_ofE (X.same _) (fun U z1 z2 => X.mono _ _ U hFc (hEw _ _ hS U z1 z2)) hP hK hD (va_recv hK hP (ci := 10) (q0 := 8) rfl rfl)) rfl rfl hl.1 rfl (lv_room (Nat.le_of_ble_eq_true rfl)) d_Tu_prepare_129 ⟨by decide, by decide⟩) hS (fun q _ h => hFc q h) hFc (fun u t H locs ht hvm hw hB hz1 hk1 hS => ?_)
    obtain ⟨hP, -, hD⟩ := hB
    rw [ht] at hP
    have hD := lx_dj hD hFc
    refine lv_aload_n hx hb d_Tu_prepare_132 rfl (lv_at hl 0 rfl) ?_
    refine lv_bipush (v := 8) hx hb d_Tu_prepare_133 (by decide) ?_
    refine lv_aload_n hx hb d_Tu_prepare_135 rfl (lv_at hl 0 rfl) ?_
    refine va_get (D := (dC, dI)) (ci := 10) (v := .ref M.o_Pl) (C := R_Tu) (T := F_Tu) (N := 7) hx hb hts (fun w h => u_Vt_Tu w (i_Tu w h)) hown hK hP 8 rfl rfl 4 (by decide) (hts _ (u_Vt_Tu _ k_Tu_21)) (fun _ h9 => h9) rfl d_Tu_prepare_136 ?_
    refine va_get (D := (dC, dI)) (ci := 9) (v := .int S_18.v_Pl_inodes) (C := R_Pl) (T := F_Pl) (N := 17) hx hb hts (fun w h => u_Vt_Pl w (i_Pl w h)) hown hK hP 7 rfl rfl 13 (by decide) (hts _ (u_Vt_Tu _ k_Tu_11)) (fun _ h9 => h9) rfl d_Tu_prepare_139 ?_
    obtain ⟨S_19, hc_19, h⟩ := lf_bE h
    have hFc := lx_free hD hS hA
    refine va_callv (va_runV (As := [.int 8, .int S_18.v_Pl_inodes]) (rest := []) ⟨hx, hb, hml, hown, hts⟩ (l_Tu_putFour l dC dI X _ hc_19) (cwV 2 hts (gwV good_Vt (u_Vt_Tu _ k_Tu_84) (u_Vt_Tu _ k_Tu_85) (u_Vt_Tu _ k_Tu_168) (u_Vt_Tu _ k_Tu_0) (wcs (u_Vt_Tu _ k_Tu_86) (fun _ h => h))) rfl rfl rfl (by decide +kernel) ⟨Nat.le_of_ble_eq_true rfl, Nat.le_of_ble_eq_true rfl⟩) (pv_ofE (X.same _) (fun U z1 z2 => X.mono _ _ U hFc (hEw _ _ hS U z1 z2)) hP hK hD (va_recv hK hP (ci := 10) (q0 := 8) rfl rfl)) rfl rfl hl.1 rfl (lv_room (Nat.le_of_ble_eq_true rfl)) d_Tu_prepare_142 ⟨by decide, by decide⟩) hS (fun q _ h => hFc q h) hFc (fun u t H locs ht hvm hw hB hz1 hk1 hS => ?_)
    obtain ⟨hP, -, hD⟩ := hB
    rw [ht] at hP
    have hD := lx_dj hD hFc
    refine lv_aload_n hx hb d_Tu_prepare_145 rfl (lv_at hl 0 rfl) ?_
    refine va_get (D := (dC, dI)) (ci := 10) (v := .ref M.o_Dk) (C := R_Tu) (T := F_Tu) (N := 7) hx hb hts (fun w h => u_Vt_Tu w (i_Tu w h)) hown hK hP 8 rfl rfl 0 (by decide) (hts _ (u_Vt_Tu _ k_Tu_17)) (fun _ h9 => h9) rfl d_Tu_prepare_146 ?_
    refine lv_bipush (v := 7) hx hb d_Tu_prepare_149 (by decide) ?_
    refine lv_aload_n hx hb d_Tu_prepare_151 rfl (lv_at hl 0 rfl) ?_
    refine va_get (D := (dC, dI)) (ci := 10) (v := .ref M.a_Tu_block) (C := R_Tu) (T := F_Tu) (N := 7) hx hb hts (fun w h => u_Vt_Tu w (i_Tu w h)) hown hK hP 8 rfl rfl 6 (by decide) (hts _ (u_Vt_Tu _ k_Tu_23)) (fun _ h9 => h9) rfl d_Tu_prepare_152 ?_
    refine lv_iconst (v := 0) hx hb d_Tu_prepare_155 (by decide) ?_
    obtain ⟨S_20, hc_20, h⟩ := lf_bE h
    have hFc := lx_free hD hS hA
    refine va_callv (va_runV (As := [.int 7, .ref M.a_Tu_block, .int 0]) (rest := []) ⟨hx, hb, hml, hown, hts⟩ (l_Dk_store_Tublock l dC dI X _ hc_20) (cwV 3 hts (gwV good_Vt (u_Vt_Tu _ k_Tu_42) (u_Vt_Dk _ k_Dk_41) (u_Vt_Dk _ k_Dk_42) (u_Vt_Dk _ k_Dk_0) (wcs (u_Vt_Dk _ k_Dk_43) (fun _ h => h))) rfl rfl rfl (by decide +kernel) ⟨Nat.le_of_ble_eq_true rfl, Nat.le_of_ble_eq_true rfl⟩) (pv_ofE (X.same _) (fun U z1 z2 => X.mono _ _ U hFc (hEw _ _ hS U z1 z2)) hP hK hD (va_recv hK hP (ci := 0) (q0 := 1) rfl rfl)) rfl rfl hl.1 rfl (lv_room (Nat.le_of_ble_eq_true rfl)) d_Tu_prepare_156 ⟨by decide, by decide⟩) hS (fun q _ h => hFc q h) hFc (fun u t H locs ht hvm hw hB hz1 hk1 hS => ?_)
    obtain ⟨hP, -, hD⟩ := hB
    rw [ht] at hP
    have hD := lx_dj hD hFc
    rw [hQ]
    have e2 : S_20 = S' := Option.some.inj h
    have hP := ly_newP e2.symm hP
    have hD := ly_newD e2.symm hD
    exact W.vret hx hb hr (fun t ht hW => ⟨⟨(), rfl, trivial, by rw [ht]; exact hP, va_K.moved hW.alike hK, hD⟩, hS.F ht⟩) hS.2.2 d_Tu_prepare_159
  have hB_61 : ∀ (k : Nat), ∀ (y_1 : Int32) (S : CS) (H : Heap) (locs : List Loc) (ls : Array Slot), f_Tu_prepare_61 K G k y_1 S = some S' → va_P (dC, dI) classes (wV M Y G S) H → va_D A (wV M Y G S) → va_S A s.heap H locs → lv_has ls 2 [(0, .ref M.o_Tu), (1, .int y_1)] → W p l e ({ frames := 11, cells := 0, slots := 0, locals := 326 }) s m ([.ref M.o_Tu] : List Value).toArray below meth c H locs 0 0 Q (F0 m 61 ls []) := by
    intro k
    induction k with
    | zero => intro y_1 S H locs ls h; exact lf_no h
    | succ k hr_61 =>
      intro y_1 S H locs ls h hP hD hS hl
      rw [f_Tu_prepare_61] at h
      refine lv_iload_n hx hb d_Tu_prepare_61 rfl (lv_at hl 1 rfl) ?_
      refine lv_aload_n hx hb d_Tu_prepare_62 rfl (lv_at hl 0 rfl) ?_
      refine va_get (D := (dC, dI)) (ci := 10) (v := .ref M.o_Tr) (C := R_Tu) (T := F_Tu) (N := 7) hx hb hts (fun w h => u_Vt_Tu w (i_Tu w h)) hown hK hP 8 rfl rfl 2 (by decide) (hts _ (u_Vt_Tu _ k_Tu_19)) (fun _ h9 => h9) rfl d_Tu_prepare_63 ?_
      refine va_get (D := (dC, dI)) (ci := 5) (v := .int S.v_Tr_count) (C := R_Tr) (T := F_Tr) (N := 18) hx hb hts (fun w h => u_Vt_Tr w (i_Tr w h)) hown hK hP 4 rfl rfl 0 (by decide) (hts _ (u_Vt_Tu _ k_Tu_4)) (fun _ h9 => h9) rfl d_Tu_prepare_66 ?_
      refine lv_icmp_ge (tgt := 109) hx hb d_Tu_prepare_69 (by decide) (fun c_10 => ?_) (fun c_10 => ?_)
      · have h := lf_t h c_10
        exact hB_109 S _ _ _ h hP hD hS (lv_sub hl [0] rfl)
      · have h := lf_f h c_10
        refine lv_aload_n hx hb d_Tu_prepare_72 rfl (lv_at hl 0 rfl) ?_
        refine va_get (D := (dC, dI)) (ci := 10) (v := .ref M.o_Dk) (C := R_Tu) (T := F_Tu) (N := 7) hx hb hts (fun w h => u_Vt_Tu w (i_Tu w h)) hown hK hP 8 rfl rfl 0 (by decide) (hts _ (u_Vt_Tu _ k_Tu_17)) (fun _ h9 => h9) rfl d_Tu_prepare_73 ?_
        obtain ⟨r_11, S_11, hc_11, h⟩ := lf_cE h
        have hFc := lx_free hD hS hA
        refine va_calli (va_runV (As := []) (rest := []) ⟨hx, hb, hml, hown, hts⟩ (l_Dk_isOn l dC dI X _ hc_11) (cwV 0 hts (gwV good_Vt (u_Vt_Tu _ k_Tu_43) (u_Vt_Dk _ k_Dk_44) (u_Vt_Dk _ k_Dk_45) (u_Vt_Dk _ k_Dk_0) (wcs (u_Vt_Dk _ k_Dk_46) (fun _ h => h))) rfl rfl rfl (by decide +kernel) ⟨Nat.le_of_ble_eq_true rfl, Nat.le_of_ble_eq_true rfl⟩) (pv_ofE (X.same _) (fun U z1 z2 => X.mono _ _ U hFc (hEw _ _ hS U z1 z2)) hP hK hD (va_recv hK hP (ci := 0) (q0 := 1) rfl rfl)) rfl rfl hl.1 rfl (lv_room (Nat.le_of_ble_eq_true rfl)) d_Tu_prepare_76 ⟨by decide, by decide⟩) hS (fun q _ h => hFc q h) hFc (fun r_ u t H locs ht hvm hw hB hz1 hk1 hS => ?_)
        rw [hw]
        obtain ⟨hP, -, hD⟩ := hB
        rw [ht] at hP
        have hD := lx_dj hD hFc
        refine lv_if_eq (tgt := 109) hx hb d_Tu_prepare_79 (by decide) (fun c_12 => ?_) (fun c_12 => ?_)
        · have h := lf_t h c_12
          exact hB_109 S_11 _ _ _ h hP hD hS (lv_sub hl [0] rfl)
        · have h := lf_f h c_12
          refine lv_aload_n hx hb d_Tu_prepare_82 rfl (lv_at hl 0 rfl) ?_
          refine va_get (D := (dC, dI)) (ci := 10) (v := .ref M.o_Tr) (C := R_Tu) (T := F_Tu) (N := 7) hx hb hts (fun w h => u_Vt_Tu w (i_Tu w h)) hown hK hP 8 rfl rfl 2 (by decide) (hts _ (u_Vt_Tu _ k_Tu_19)) (fun _ h9 => h9) rfl d_Tu_prepare_83 ?_
          refine lv_iload_n hx hb d_Tu_prepare_86 rfl (lv_at hl 1 rfl) ?_
          obtain ⟨r_13, S_13, hc_13, h⟩ := lf_cE h
          have hFc := lx_free hD hS hA
          refine va_calli (va_runV (As := [.int y_1]) (rest := []) ⟨hx, hb, hml, hown, hts⟩ (l_Tr_isDirectory l dC dI X _ hc_13) (cwV 1 hts (gwV good_Vt (u_Vt_Tu _ k_Tu_61) (u_Vt_Tr _ k_Tr_42) (u_Vt_Tr _ k_Tr_43) (u_Vt_Tr _ k_Tr_0) (wcs (u_Vt_Tr _ k_Tr_44) (fun _ h => h))) rfl rfl rfl (by decide +kernel) ⟨Nat.le_of_ble_eq_true rfl, Nat.le_of_ble_eq_true rfl⟩) (pv_ofE (X.same _) (fun U z1 z2 => X.mono _ _ U hFc (hEw _ _ hS U z1 z2)) hP hK hD (va_recv hK hP (ci := 5) (q0 := 4) rfl rfl)) rfl rfl hl.1 rfl (lv_room (Nat.le_of_ble_eq_true rfl)) d_Tu_prepare_87 ⟨by decide, by decide⟩) hS (fun q _ h => hFc q h) hFc (fun r_ u t H locs ht hvm hw hB hz1 hk1 hS => ?_)
          rw [hw]
          obtain ⟨hP, -, hD⟩ := hB
          rw [ht] at hP
          have hD := lx_dj hD hFc
          refine lv_if_eq (tgt := 98) hx hb d_Tu_prepare_90 (by decide) (fun c_14 => ?_) (fun c_14 => ?_)
          · have h := lf_t h c_14
            exact hB_98 _ hr_61 y_1 S_13 _ _ _ h hP hD hS (lv_sub hl [0, 1] rfl)
          · have h := lf_f h c_14
            refine lv_aload_n hx hb d_Tu_prepare_93 rfl (lv_at hl 0 rfl) ?_
            refine lv_iload_n hx hb d_Tu_prepare_94 rfl (lv_at hl 1 rfl) ?_
            obtain ⟨S_15, hc_15, h⟩ := lf_bE h
            have hFc := lx_free hD hS hA
            refine va_callv (va_runV (As := [.int y_1]) (rest := []) ⟨hx, hb, hml, hown, hts⟩ (l_Tu_buildDirectory l dC dI X _ hc_15) (cwV 1 hts (gwV good_Vt (u_Vt_Tu _ k_Tu_62) (u_Vt_Tu _ k_Tu_63) (u_Vt_Tu _ k_Tu_169) (u_Vt_Tu _ k_Tu_0) (wcs (u_Vt_Tu _ k_Tu_64) (fun _ h => h))) rfl rfl rfl (by decide +kernel) ⟨Nat.le_of_ble_eq_true rfl, Nat.le_of_ble_eq_true rfl⟩) (pv_ofE (X.same _) (fun U z1 z2 => X.mono _ _ U hFc (hEw _ _ hS U z1 z2)) hP hK hD (va_recv hK hP (ci := 10) (q0 := 8) rfl rfl)) rfl rfl hl.1 rfl (lv_room (Nat.le_of_ble_eq_true rfl)) d_Tu_prepare_95 ⟨by decide, by decide⟩) hS (fun q _ h => hFc q h) hFc (fun u t H locs ht hvm hw hB hz1 hk1 hS => ?_)
            obtain ⟨hP, -, hD⟩ := hB
            rw [ht] at hP
            have hD := lx_dj hD hFc
            exact hB_98 _ hr_61 y_1 S_15 _ _ _ h hP hD hS (lv_sub hl [0, 1] rfl)
  have hB_55 : ∀ (S : CS) (H : Heap) (locs : List Loc) (ls : Array Slot), f_Tu_prepare_55 K G S = some S' → va_P (dC, dI) classes (wV M Y G S) H → va_D A (wV M Y G S) → va_S A s.heap H locs → lv_has ls 2 [(0, .ref M.o_Tu)] → W p l e ({ frames := 11, cells := 0, slots := 0, locals := 326 }) s m ([.ref M.o_Tu] : List Value).toArray below meth c H locs 0 0 Q (F0 m 55 ls []) := by
    intro S H locs ls h hP hD hS hl
    rw [f_Tu_prepare_55] at h
    refine lv_aload_n hx hb d_Tu_prepare_55 rfl (lv_at hl 0 rfl) ?_
    obtain ⟨S_8, hc_8, h⟩ := lf_bE h
    have hFc := lx_free hD hS hA
    refine va_callv (va_runV (As := []) (rest := []) ⟨hx, hb, hml, hown, hts⟩ (l_Tu_keepSectors l dC dI X _ hc_8) (cwV 0 hts (gwV good_Vt (u_Vt_Tu _ k_Tu_54) (u_Vt_Tu _ k_Tu_55) (u_Vt_Tu _ k_Tu_163) (u_Vt_Tu _ k_Tu_0) (wcs (u_Vt_Tu _ k_Tu_56) (fun _ h => h))) rfl rfl rfl (by decide +kernel) ⟨Nat.le_of_ble_eq_true rfl, Nat.le_of_ble_eq_true rfl⟩) (pv_ofE (X.same _) (fun U z1 z2 => X.mono _ _ U hFc (hEw _ _ hS U z1 z2)) hP hK hD (va_recv hK hP (ci := 10) (q0 := 8) rfl rfl)) rfl rfl hl.1 rfl (lv_room (Nat.le_of_ble_eq_true rfl)) d_Tu_prepare_56 ⟨by decide, by decide⟩) hS (fun q _ h => hFc q h) hFc (fun u t H locs ht hvm hw hB hz1 hk1 hS => ?_)
    obtain ⟨hP, -, hD⟩ := hB
    rw [ht] at hP
    have hD := lx_dj hD hFc
    refine lv_iconst (v := (-1)) hx hb d_Tu_prepare_59 (by decide) ?_
    refine lv_istore_n (lv' := [(1, .int ((-1))), (0, .ref M.o_Tu)]) hx hb d_Tu_prepare_60 rfl hl (by decide) rfl (fun ls hl => ?_)
    exact hB_61 K ((-1)) S_8 _ _ _ h hP hD hS (lv_sub hl [1, 0] rfl)
  have hB_2 : ∀ (k : Nat), ∀ (y_1 : Int32) (S : CS) (H : Heap) (locs : List Loc) (ls : Array Slot), f_Tu_prepare_2 K G k y_1 S = some S' → va_P (dC, dI) classes (wV M Y G S) H → va_D A (wV M Y G S) → va_S A s.heap H locs → lv_has ls 2 [(0, .ref M.o_Tu), (1, .int y_1)] → W p l e ({ frames := 11, cells := 0, slots := 0, locals := 326 }) s m ([.ref M.o_Tu] : List Value).toArray below meth c H locs 0 0 Q (F0 m 2 ls []) := by
    intro k
    induction k with
    | zero => intro y_1 S H locs ls h; exact lf_no h
    | succ k hr_2 =>
      intro y_1 S H locs ls h hP hD hS hl
      rw [f_Tu_prepare_2] at h
      refine lv_iload_n hx hb d_Tu_prepare_2 rfl (lv_at hl 1 rfl) ?_
      refine lv_aload_n hx hb d_Tu_prepare_3 rfl (lv_at hl 0 rfl) ?_
      refine va_get (D := (dC, dI)) (ci := 10) (v := .ref M.o_Tb) (C := R_Tu) (T := F_Tu) (N := 7) hx hb hts (fun w h => u_Vt_Tu w (i_Tu w h)) hown hK hP 8 rfl rfl 1 (by decide) (hts _ (u_Vt_Tu _ k_Tu_18)) (fun _ h9 => h9) rfl d_Tu_prepare_4 ?_
      refine va_get (D := (dC, dI)) (ci := 4) (v := .int S.v_Tb_clusters) (C := R_Tb) (T := F_Tb) (N := 10) hx hb hts (fun w h => u_Vt_Tb w (i_Tb w h)) hown hK hP 3 rfl rfl 7 (by decide) (hts _ (u_Vt_Tu _ k_Tu_3)) (fun _ h9 => h9) rfl d_Tu_prepare_7 ?_
      refine lv_iconst (v := 2) hx hb d_Tu_prepare_10 (by decide) ?_
      refine lv_iadd hx hb d_Tu_prepare_11 ?_
      refine lv_icmp_ge (tgt := 55) hx hb d_Tu_prepare_12 (by decide) (fun c_1 => ?_) (fun c_1 => ?_)
      · have h := lf_t h c_1
        exact hB_55 S _ _ _ h hP hD hS (lv_sub hl [0] rfl)
      · have h := lf_f h c_1
        refine lv_aload_n hx hb d_Tu_prepare_15 rfl (lv_at hl 0 rfl) ?_
        refine va_get (D := (dC, dI)) (ci := 10) (v := .ref M.o_Dk) (C := R_Tu) (T := F_Tu) (N := 7) hx hb hts (fun w h => u_Vt_Tu w (i_Tu w h)) hown hK hP 8 rfl rfl 0 (by decide) (hts _ (u_Vt_Tu _ k_Tu_17)) (fun _ h9 => h9) rfl d_Tu_prepare_16 ?_
        obtain ⟨r_2, S_2, hc_2, h⟩ := lf_cE h
        have hFc := lx_free hD hS hA
        refine va_calli (va_runV (As := []) (rest := []) ⟨hx, hb, hml, hown, hts⟩ (l_Dk_isOn l dC dI X _ hc_2) (cwV 0 hts (gwV good_Vt (u_Vt_Tu _ k_Tu_43) (u_Vt_Dk _ k_Dk_44) (u_Vt_Dk _ k_Dk_45) (u_Vt_Dk _ k_Dk_0) (wcs (u_Vt_Dk _ k_Dk_46) (fun _ h => h))) rfl rfl rfl (by decide +kernel) ⟨Nat.le_of_ble_eq_true rfl, Nat.le_of_ble_eq_true rfl⟩) (pv_ofE (X.same _) (fun U z1 z2 => X.mono _ _ U hFc (hEw _ _ hS U z1 z2)) hP hK hD (va_recv hK hP (ci := 0) (q0 := 1) rfl rfl)) rfl rfl hl.1 rfl (lv_room (Nat.le_of_ble_eq_true rfl)) d_Tu_prepare_19 ⟨by decide, by decide⟩) hS (fun q _ h => hFc q h) hFc (fun r_ u t H locs ht hvm hw hB hz1 hk1 hS => ?_)
        rw [hw]
        obtain ⟨hP, -, hD⟩ := hB
        rw [ht] at hP
        have hD := lx_dj hD hFc
        refine lv_if_eq (tgt := 55) hx hb d_Tu_prepare_22 (by decide) (fun c_3 => ?_) (fun c_3 => ?_)
        · have h := lf_t h c_3
          exact hB_55 S_2 _ _ _ h hP hD hS (lv_sub hl [0] rfl)
        · have h := lf_f h c_3
          refine lv_aload_n hx hb d_Tu_prepare_25 rfl (lv_at hl 0 rfl) ?_
          refine va_get (D := (dC, dI)) (ci := 10) (v := .ref M.o_Tb) (C := R_Tu) (T := F_Tu) (N := 7) hx hb hts (fun w h => u_Vt_Tu w (i_Tu w h)) hown hK hP 8 rfl rfl 1 (by decide) (hts _ (u_Vt_Tu _ k_Tu_18)) (fun _ h9 => h9) rfl d_Tu_prepare_26 ?_
          refine lv_iload_n hx hb d_Tu_prepare_29 rfl (lv_at hl 1 rfl) ?_
          obtain ⟨r_4, S_4, hc_4, h⟩ := lf_cE h
          have hFc := lx_free hD hS hA
          refine va_calli (va_runV (As := [.int y_1]) (rest := []) ⟨hx, hb, hml, hown, hts⟩ (l_Tb_goalOf l dC dI X _ hc_4) (cwV 1 hts (gwV good_Vt (u_Vt_Tu _ k_Tu_44) (u_Vt_Tb _ k_Tb_46) (u_Vt_Tb _ k_Tb_47) (u_Vt_Tb _ k_Tb_0) (wcs (u_Vt_Tb _ k_Tb_48) (fun _ h => h))) rfl rfl rfl (by decide +kernel) ⟨Nat.le_of_ble_eq_true rfl, Nat.le_of_ble_eq_true rfl⟩) (pv_ofE (X.same _) (fun U z1 z2 => X.mono _ _ U hFc (hEw _ _ hS U z1 z2)) hP hK hD (va_recv hK hP (ci := 4) (q0 := 3) rfl rfl)) rfl rfl hl.1 rfl (lv_room (Nat.le_of_ble_eq_true rfl)) d_Tu_prepare_30 ⟨by decide, by decide⟩) hS (fun q _ h => hFc q h) hFc (fun r_ u t H locs ht hvm hw hB hz1 hk1 hS => ?_)
          rw [hw]
          obtain ⟨hP, -, hD⟩ := hB
          rw [ht] at hP
          have hD := lx_dj hD hFc
          refine lv_if_eq (tgt := 49) hx hb d_Tu_prepare_33 (by decide) (fun c_5 => ?_) (fun c_5 => ?_)
          · have h := lf_t h c_5
            exact hB_49 _ hr_2 y_1 S_4 _ _ _ h hP hD hS (lv_sub hl [0, 1] rfl)
          · have h := lf_f h c_5
            refine lv_aload_n hx hb d_Tu_prepare_36 rfl (lv_at hl 0 rfl) ?_
            refine lv_iload_n hx hb d_Tu_prepare_37 rfl (lv_at hl 1 rfl) ?_
            refine lv_aload_n hx hb d_Tu_prepare_38 rfl (lv_at hl 0 rfl) ?_
            refine va_get (D := (dC, dI)) (ci := 10) (v := .ref M.o_Tb) (C := R_Tu) (T := F_Tu) (N := 7) hx hb hts (fun w h => u_Vt_Tu w (i_Tu w h)) hown hK hP 8 rfl rfl 1 (by decide) (hts _ (u_Vt_Tu _ k_Tu_18)) (fun _ h9 => h9) rfl d_Tu_prepare_39 ?_
            refine lv_iload_n hx hb d_Tu_prepare_42 rfl (lv_at hl 1 rfl) ?_
            obtain ⟨r_6, S_6, hc_6, h⟩ := lf_cE h
            have hFc := lx_free hD hS hA
            refine va_calli (va_runV (As := [.int y_1]) (rest := [.int y_1, .ref M.o_Tu]) ⟨hx, hb, hml, hown, hts⟩ (l_Tb_goalOf l dC dI X _ hc_6) (cwV 1 hts (gwV good_Vt (u_Vt_Tu _ k_Tu_44) (u_Vt_Tb _ k_Tb_46) (u_Vt_Tb _ k_Tb_47) (u_Vt_Tb _ k_Tb_0) (wcs (u_Vt_Tb _ k_Tb_48) (fun _ h => h))) rfl rfl rfl (by decide +kernel) ⟨Nat.le_of_ble_eq_true rfl, Nat.le_of_ble_eq_true rfl⟩) (pv_ofE (X.same _) (fun U z1 z2 => X.mono _ _ U hFc (hEw _ _ hS U z1 z2)) hP hK hD (va_recv hK hP (ci := 4) (q0 := 3) rfl rfl)) rfl rfl hl.1 rfl (lv_room (Nat.le_of_ble_eq_true rfl)) d_Tu_prepare_43 ⟨by decide, by decide⟩) hS (fun q _ h => hFc q h) hFc (fun r_ u t H locs ht hvm hw hB hz1 hk1 hS => ?_)
            rw [hw]
            obtain ⟨hP, -, hD⟩ := hB
            rw [ht] at hP
            have hD := lx_dj hD hFc
            obtain ⟨S_7, hc_7, h⟩ := lf_bE h
            have hFc := lx_free hD hS hA
            refine va_callv (va_runV (As := [.int y_1, .int r_6]) (rest := []) ⟨hx, hb, hml, hown, hts⟩ (l_Tu_copyCluster l dC dI X _ hc_7) (cwV 2 hts (gwV good_Vt (u_Vt_Tu _ k_Tu_45) (u_Vt_Tu _ k_Tu_46) (u_Vt_Tu _ k_Tu_161) (u_Vt_Tu _ k_Tu_0) (wcs (u_Vt_Tu _ k_Tu_47) (fun _ h => h))) rfl rfl rfl (by decide +kernel) ⟨Nat.le_of_ble_eq_true rfl, Nat.le_of_ble_eq_true rfl⟩) (pv_ofE (X.same _) (fun U z1 z2 => X.mono _ _ U hFc (hEw _ _ hS U z1 z2)) hP hK hD (va_recv hK hP (ci := 10) (q0 := 8) rfl rfl)) rfl rfl hl.1 rfl (lv_room (Nat.le_of_ble_eq_true rfl)) d_Tu_prepare_46 ⟨by decide, by decide⟩) hS (fun q _ h => hFc q h) hFc (fun u t H locs ht hvm hw hB hz1 hk1 hS => ?_)
            obtain ⟨hP, -, hD⟩ := hB
            rw [ht] at hP
            have hD := lx_dj hD hFc
            exact hB_49 _ hr_2 y_1 S_7 _ _ _ h hP hD hS (lv_sub hl [0, 1] rfl)
  rw [f_Tu_prepare] at h
  refine lv_iconst (v := 2) hx hb d_Tu_prepare_0 (by decide) ?_
  refine lv_istore_n (lv' := [(1, .int 2), (0, .ref M.o_Tu)]) hx hb d_Tu_prepare_1 rfl hl (by decide) rfl (fun ls hl => ?_)
  exact hB_2 K 2 S _ _ _ h hP hD hS (lv_sub hl [1, 0] rfl)
set_option maxHeartbeats 4000000 in
set_option maxRecDepth 100000 in
theorem l_Tu_putLabel (l : Launch) (dC : Nat → ClassId) (dI : Nat → Nat → Nat) {K : Nat} {M : CA} {E : (Nat → Prop) → State → Prop} (X : ly_X l dC dI K M E) (sz : Nat) {Y : CT} {G : CG} {S S' : CS} (h : f_Tu_putLabel K G S = some S') : Met l y_Tu_putLabel (.code y_Tu_putLabel b_Tu_putLabel 3 none :: V_Vt) ({ frames := 1, cells := 0, slots := 0, locals := 22 }) (va_Pc [.ref M.o_Tu] (fun U => U.heap.size = sz ∧ at_ (dC, dI) (fun _ => True) (wV M Y G S) (tV M) U ∧ E (va_A (wV M Y G S) sz) U)) (va_Qv (fun (u : Unit) => True) (fun (u : Unit) t => at_ (dC, dI) (va_A (wV M Y G S) sz) (wV M Y G S') (tV M) t) (va_A (wV M Y G S) sz)) 0 0 (va_A (wV M Y G S) sz) := by
  refine Met.ofW (cc := b_Tu_putLabel) (maxL := 3) (ret := none) (by decide) rfl ?_
  intro p e s m args below meth c s₁ B hml hv
  obtain ⟨rfl, hsz, ⟨hP, hK, hD0⟩, hE⟩ := hv
  have hx := B.exec
  have hb := B.bytes
  have hr := B.returns
  have hts0 := atoms_spec (ws := .code y_Tu_putLabel b_Tu_putLabel 3 none :: V_Vt) B.pre
  have hts : ∀ w ∈ V_Vt, w.before ([.ref M.o_Tu] : List Value).toArray s = true := fun w h => hts0 w (List.mem_cons_of_mem _ h)
  have hown : s.vm.findClass R_Tu = some m.cls := findClass_of_methodNamed B.named
  subst hsz
  have hD := hD0.self (sz := s.heap.size)
  generalize hAe : va_A (wV M Y G S) s.heap.size = A at hD hE ⊢
  have hA : ∀ q : Nat, s.heap.size ≤ q → A q := fun q h => by rw [← hAe]; exact Or.inr h
  have hS : va_S A s.heap s.heap [] := va_S.rf
  have hP : va_P (dC, dI) classes (wV M Y G S) s.heap := hP
  have hK : va_K (dC, dI) classes (tV M) s := hK
  have hEw : ∀ (H : Heap) (locs : List Loc), va_S A s.heap H locs → ∀ U : State, U.heap = H → s.WarmedH U.vm → E A U := fun H locs hS U hU hW => X.kept A s U H locs hE hS hU hW
  have hl := lv_entry ([.ref M.o_Tu]) (n := 3) (Nat.le_of_ble_eq_true rfl)
  rw [lg_entry_eq]
  generalize (lg_sl ([.ref M.o_Tu]) ++ List.replicate (3 - (lg_sl ([.ref M.o_Tu])).length) Slot.unset).toArray = ls at hl ⊢
  have hl : lv_has ls 3 [(0, .ref M.o_Tu)] := hl
  refine qabs (fun Q hQ => ?_)
  have hB_38 : ∀ (k : Nat), ∀ (y_1 : Int32) (y_2 : Int32) (S : CS) (H : Heap) (locs : List Loc) (ls : Array Slot), f_Tu_putLabel_38 K G k y_1 y_2 S = some S' → va_P (dC, dI) classes (wV M Y G S) H → va_D A (wV M Y G S) → va_S A s.heap H locs → lv_has ls 3 [(0, .ref M.o_Tu), (1, .int y_1), (2, .int y_2)] → W p l e ({ frames := 1, cells := 0, slots := 0, locals := 22 }) s m ([.ref M.o_Tu] : List Value).toArray below meth c H locs 0 0 Q (F0 m 38 ls []) := by
    intro k
    induction k with
    | zero => intro y_1 y_2 S H locs ls h; exact lf_no h
    | succ k hr_38 =>
      intro y_1 y_2 S H locs ls h hP hD hS hl
      rw [f_Tu_putLabel_38] at h
      refine lv_iload_n hx hb d_Tu_putLabel_38 rfl (lv_at hl 2 rfl) ?_
      refine lv_iload_n hx hb d_Tu_putLabel_39 rfl (lv_at hl 1 rfl) ?_
      refine lv_icmp_ge (tgt := 73) hx hb d_Tu_putLabel_40 (by decide) (fun c_5 => ?_) (fun c_5 => ?_)
      · have h := lf_t h c_5
        rw [hQ]
        have e2 : S = S' := Option.some.inj h
        have hP := ly_newP e2.symm hP
        have hD := ly_newD e2.symm hD
        exact W.vret hx hb hr (fun t ht hW => ⟨⟨(), rfl, trivial, by rw [ht]; exact hP, va_K.moved hW.alike hK, hD⟩, hS.F ht⟩) hS.2.2 d_Tu_putLabel_73
      · have h := lf_f h c_5
        refine lv_aload_n hx hb d_Tu_putLabel_43 rfl (lv_at hl 0 rfl) ?_
        refine lv_bipush (v := 120) hx hb d_Tu_putLabel_44 (by decide) ?_
        refine lv_iload_n hx hb d_Tu_putLabel_46 rfl (lv_at hl 2 rfl) ?_
        refine lv_iadd hx hb d_Tu_putLabel_47 ?_
        refine lv_aload_n hx hb d_Tu_putLabel_48 rfl (lv_at hl 0 rfl) ?_
        refine va_get (D := (dC, dI)) (ci := 10) (v := .ref M.o_Dk) (C := R_Tu) (T := F_Tu) (N := 7) hx hb hts (fun w h => u_Vt_Tu w (i_Tu w h)) hown hK hP 8 rfl rfl 0 (by decide) (hts _ (u_Vt_Tu _ k_Tu_17)) (fun _ h9 => h9) rfl d_Tu_putLabel_49 ?_
        refine lv_aload_n hx hb d_Tu_putLabel_52 rfl (lv_at hl 0 rfl) ?_
        refine va_get (D := (dC, dI)) (ci := 10) (v := .ref M.o_Tr) (C := R_Tu) (T := F_Tu) (N := 7) hx hb hts (fun w h => u_Vt_Tu w (i_Tu w h)) hown hK hP 8 rfl rfl 2 (by decide) (hts _ (u_Vt_Tu _ k_Tu_19)) (fun _ h9 => h9) rfl d_Tu_putLabel_53 ?_
        refine va_get (D := (dC, dI)) (ci := 5) (v := .int S.v_Tr_label) (C := R_Tr) (T := F_Tr) (N := 18) hx hb hts (fun w h => u_Vt_Tr w (i_Tr w h)) hown hK hP 4 rfl rfl 1 (by decide) (hts _ (u_Vt_Tu _ k_Tu_5)) (fun _ h9 => h9) rfl d_Tu_putLabel_56 ?_
        refine lv_iload_n hx hb d_Tu_putLabel_59 rfl (lv_at hl 2 rfl) ?_
        refine lv_iadd hx hb d_Tu_putLabel_60 ?_
        obtain ⟨r_6, S_6, hc_6, h⟩ := lf_cE h
        have hFc := lx_free hD hS hA
        refine va_calli (va_runV (As := [.int (S.v_Tr_label + y_2)]) (rest := [.int (120 + y_2), .ref M.o_Tu]) ⟨hx, hb, hml, hown, hts⟩ (l_Dk_one l dC dI X _ hc_6) (cwV 1 hts (gwV good_Vt (u_Vt_Tu _ k_Tu_118) (u_Vt_Dk _ k_Dk_20) (u_Vt_Dk _ k_Dk_21) (u_Vt_Dk _ k_Dk_0) (wcs (u_Vt_Dk _ k_Dk_22) (fun _ h => h))) rfl rfl rfl (by decide +kernel) ⟨Nat.le_of_ble_eq_true rfl, Nat.le_of_ble_eq_true rfl⟩) (pv_ofE (X.same _) (fun U z1 z2 => X.mono _ _ U hFc (hEw _ _ hS U z1 z2)) hP hK hD (va_recv hK hP (ci := 0) (q0 := 1) rfl rfl)) rfl rfl hl.1 rfl (lv_room (Nat.le_of_ble_eq_true rfl)) d_Tu_putLabel_61 ⟨by decide, by decide⟩) hS (fun q _ h => hFc q h) hFc (fun r_ u t H locs ht hvm hw hB hz1 hk1 hS => ?_)
        rw [hw]
        obtain ⟨hP, -, hD⟩ := hB
        rw [ht] at hP
        have hD := lx_dj hD hFc
        obtain ⟨S_7, hc_7, h⟩ := lf_bE h
        have hFc := lx_free hD hS hA
        refine va_callv (va_runV (As := [.int (120 + y_2), .int r_6]) (rest := []) ⟨hx, hb, hml, hown, hts⟩ (l_Tu_putOne l dC dI X _ hc_7) (cwV 2 hts (gwV good_Vt (u_Vt_Tu _ k_Tu_87) (u_Vt_Tu _ k_Tu_88) (u_Vt_Tu _ k_Tu_166) (u_Vt_Tu _ k_Tu_0) (wcs (u_Vt_Tu _ k_Tu_89) (fun _ h => h))) rfl rfl rfl (by decide +kernel) ⟨Nat.le_of_ble_eq_true rfl, Nat.le_of_ble_eq_true rfl⟩) (pv_ofE (X.same _) (fun U z1 z2 => X.mono _ _ U hFc (hEw _ _ hS U z1 z2)) hP hK hD (va_recv hK hP (ci := 10) (q0 := 8) rfl rfl)) rfl rfl hl.1 rfl (lv_room (Nat.le_of_ble_eq_true rfl)) d_Tu_putLabel_64 ⟨by decide, by decide⟩) hS (fun q _ h => hFc q h) hFc (fun u t H locs ht hvm hw hB hz1 hk1 hS => ?_)
        obtain ⟨hP, -, hD⟩ := hB
        rw [ht] at hP
        have hD := lx_dj hD hFc
        obtain ⟨x_8, ex_8, h⟩ := lf_lX h
        refine lv_iinc (v := x_8) (lv' := [(2, .int x_8), (0, .ref M.o_Tu), (1, .int y_1)]) hx hb d_Tu_putLabel_67 hl (k := 2) rfl (by rw [ex_8]; rfl) (by decide) rfl (fun ls hl => ?_)
        refine lv_goto (tgt := 38) hx hb d_Tu_putLabel_70 (by decide) ?_
        exact hr_38 y_1 x_8 S_7 _ _ _ h hP hD hS (lv_sub hl [1, 2, 0] rfl)
  have hB_36 : ∀ (y_1 : Int32) (S : CS) (H : Heap) (locs : List Loc) (ls : Array Slot), f_Tu_putLabel_36 K G y_1 S = some S' → va_P (dC, dI) classes (wV M Y G S) H → va_D A (wV M Y G S) → va_S A s.heap H locs → lv_has ls 3 [(0, .ref M.o_Tu), (1, .int y_1)] → W p l e ({ frames := 1, cells := 0, slots := 0, locals := 22 }) s m ([.ref M.o_Tu] : List Value).toArray below meth c H locs 0 0 Q (F0 m 36 ls []) := by
    intro y_1 S H locs ls h hP hD hS hl
    rw [f_Tu_putLabel_36] at h
    refine lv_iconst (v := 0) hx hb d_Tu_putLabel_36 (by decide) ?_
    refine lv_istore_n (lv' := [(2, .int 0), (0, .ref M.o_Tu), (1, .int y_1)]) hx hb d_Tu_putLabel_37 rfl hl (by decide) rfl (fun ls hl => ?_)
    exact hB_38 K y_1 0 S _ _ _ h hP hD hS (lv_sub hl [1, 2, 0] rfl)
  have hB_3 : ∀ (k : Nat), ∀ (y_1 : Int32) (S : CS) (H : Heap) (locs : List Loc) (ls : Array Slot), f_Tu_putLabel_3 K G k y_1 S = some S' → va_P (dC, dI) classes (wV M Y G S) H → va_D A (wV M Y G S) → va_S A s.heap H locs → lv_has ls 3 [(0, .ref M.o_Tu), (1, .int y_1)] → W p l e ({ frames := 1, cells := 0, slots := 0, locals := 22 }) s m ([.ref M.o_Tu] : List Value).toArray below meth c H locs 0 0 Q (F0 m 3 ls []) := by
    intro k
    induction k with
    | zero => intro y_1 S H locs ls h; exact lf_no h
    | succ k hr_3 =>
      intro y_1 S H locs ls h hP hD hS hl
      rw [f_Tu_putLabel_3] at h
      refine lv_iload_n hx hb d_Tu_putLabel_3 rfl (lv_at hl 1 rfl) ?_
      refine lv_if_le (tgt := 36) hx hb d_Tu_putLabel_4 (by decide) (fun c_1 => ?_) (fun c_1 => ?_)
      · have h := lf_t h c_1
        exact hB_36 y_1 S _ _ _ h hP hD hS (lv_sub hl [0, 1] rfl)
      · have h := lf_f h c_1
        refine lv_aload_n hx hb d_Tu_putLabel_7 rfl (lv_at hl 0 rfl) ?_
        refine va_get (D := (dC, dI)) (ci := 10) (v := .ref M.o_Dk) (C := R_Tu) (T := F_Tu) (N := 7) hx hb hts (fun w h => u_Vt_Tu w (i_Tu w h)) hown hK hP 8 rfl rfl 0 (by decide) (hts _ (u_Vt_Tu _ k_Tu_17)) (fun _ h9 => h9) rfl d_Tu_putLabel_8 ?_
        refine lv_aload_n hx hb d_Tu_putLabel_11 rfl (lv_at hl 0 rfl) ?_
        refine va_get (D := (dC, dI)) (ci := 10) (v := .ref M.o_Tr) (C := R_Tu) (T := F_Tu) (N := 7) hx hb hts (fun w h => u_Vt_Tu w (i_Tu w h)) hown hK hP 8 rfl rfl 2 (by decide) (hts _ (u_Vt_Tu _ k_Tu_19)) (fun _ h9 => h9) rfl d_Tu_putLabel_12 ?_
        refine va_get (D := (dC, dI)) (ci := 5) (v := .int S.v_Tr_label) (C := R_Tr) (T := F_Tr) (N := 18) hx hb hts (fun w h => u_Vt_Tr w (i_Tr w h)) hown hK hP 4 rfl rfl 1 (by decide) (hts _ (u_Vt_Tu _ k_Tu_5)) (fun _ h9 => h9) rfl d_Tu_putLabel_15 ?_
        refine lv_iload_n hx hb d_Tu_putLabel_18 rfl (lv_at hl 1 rfl) ?_
        refine lv_iadd hx hb d_Tu_putLabel_19 ?_
        refine lv_iconst (v := 1) hx hb d_Tu_putLabel_20 (by decide) ?_
        refine lv_isub hx hb d_Tu_putLabel_21 ?_
        obtain ⟨r_2, S_2, hc_2, h⟩ := lf_cE h
        have hFc := lx_free hD hS hA
        refine va_calli (va_runV (As := [.int ((S.v_Tr_label + y_1) - 1)]) (rest := []) ⟨hx, hb, hml, hown, hts⟩ (l_Dk_one l dC dI X _ hc_2) (cwV 1 hts (gwV good_Vt (u_Vt_Tu _ k_Tu_118) (u_Vt_Dk _ k_Dk_20) (u_Vt_Dk _ k_Dk_21) (u_Vt_Dk _ k_Dk_0) (wcs (u_Vt_Dk _ k_Dk_22) (fun _ h => h))) rfl rfl rfl (by decide +kernel) ⟨Nat.le_of_ble_eq_true rfl, Nat.le_of_ble_eq_true rfl⟩) (pv_ofE (X.same _) (fun U z1 z2 => X.mono _ _ U hFc (hEw _ _ hS U z1 z2)) hP hK hD (va_recv hK hP (ci := 0) (q0 := 1) rfl rfl)) rfl rfl hl.1 rfl (lv_room (Nat.le_of_ble_eq_true rfl)) d_Tu_putLabel_22 ⟨by decide, by decide⟩) hS (fun q _ h => hFc q h) hFc (fun r_ u t H locs ht hvm hw hB hz1 hk1 hS => ?_)
        rw [hw]
        obtain ⟨hP, -, hD⟩ := hB
        rw [ht] at hP
        have hD := lx_dj hD hFc
        refine lv_bipush (v := 32) hx hb d_Tu_putLabel_25 (by decide) ?_
        refine lv_icmp_ne (tgt := 36) hx hb d_Tu_putLabel_27 (by decide) (fun c_3 => ?_) (fun c_3 => ?_)
        · have h := lf_f h c_3
          exact hB_36 y_1 S_2 _ _ _ h hP hD hS (lv_sub hl [0, 1] rfl)
        · have h := lf_t h c_3
          obtain ⟨x_4, ex_4, h⟩ := lf_lX h
          refine lv_iinc (v := x_4) (lv' := [(1, .int x_4), (0, .ref M.o_Tu)]) hx hb d_Tu_putLabel_30 hl (k := 1) rfl (by rw [ex_4]; rfl) (by decide) rfl (fun ls hl => ?_)
          refine lv_goto (tgt := 3) hx hb d_Tu_putLabel_33 (by decide) ?_
          exact hr_3 x_4 S_2 _ _ _ h hP hD hS (lv_sub hl [1, 0] rfl)
  rw [f_Tu_putLabel] at h
  refine lv_bipush (v := 11) hx hb d_Tu_putLabel_0 (by decide) ?_
  refine lv_istore_n (lv' := [(1, .int 11), (0, .ref M.o_Tu)]) hx hb d_Tu_putLabel_2 rfl hl (by decide) rfl (fun ls hl => ?_)
  exact hB_3 K 11 S _ _ _ h hP hD hS (lv_sub hl [1, 0] rfl)
