set_option maxHeartbeats 4000000 in
set_option maxRecDepth 100000 in
theorem l_Tb_slotPlace_Rdroad (l : Launch) (dC : Nat → ClassId) (dI : Nat → Nat → Nat) {K : Nat} {M : CA} {E : (Nat → Prop) → State → Prop} (X : ly_X l dC dI K M E) (sz : Nat) {Y : CT} {G : CG} {S S' : CS} {p1 : Int32} {r : Int32} (h : f_Tb_slotPlace_Rdroad K G S p1 = some (r, S')) : Met l y_Tb_slotPlace (.code y_Tb_slotPlace b_Tb_slotPlace 4 (some .int) :: V_Vq) ({ frames := 1, cells := 0, slots := 0, locals := 21 }) (va_Pc [.ref M.o_Tb, .ref M.a_Rd_road, .int p1] (fun U => U.heap.size = sz ∧ at_ (dC, dI) (fun _ => True) (wV M Y G S) (tV M) U ∧ E (va_A (wV M Y G S) sz) U)) (va_Qi (fun (r_ : Int32) (u : Unit) => r_ = r) (fun (u : Unit) t => at_ (dC, dI) (va_A (wV M Y G S) sz) (wV M Y G S') (tV M) t) (va_A (wV M Y G S) sz)) 0 0 (va_A (wV M Y G S) sz) := by
  refine Met.ofW (cc := b_Tb_slotPlace) (maxL := 4) (ret := (some .int)) (by decide) rfl ?_
  intro p e s m args below meth c s₁ B hml hv
  obtain ⟨rfl, hsz, ⟨hP, hK, hD0⟩, hE⟩ := hv
  have hx := B.exec
  have hb := B.bytes
  have hr := B.returns
  have hts0 := atoms_spec (ws := .code y_Tb_slotPlace b_Tb_slotPlace 4 (some .int) :: V_Vq) B.pre
  have hts : ∀ w ∈ V_Vq, w.before ([.ref M.o_Tb, .ref M.a_Rd_road, .int p1] : List Value).toArray s = true := fun w h => hts0 w (List.mem_cons_of_mem _ h)
  have hown : s.vm.findClass R_Tb = some m.cls := findClass_of_methodNamed B.named
  subst hsz
  have hD := hD0.self (sz := s.heap.size)
  generalize hAe : va_A (wV M Y G S) s.heap.size = A at hD hE ⊢
  have hA : ∀ q : Nat, s.heap.size ≤ q → A q := fun q h => by rw [← hAe]; exact Or.inr h
  have hS : va_S A s.heap s.heap [] := va_S.rf
  have hP : va_P (dC, dI) classes (wV M Y G S) s.heap := hP
  have hK : va_K (dC, dI) classes (tV M) s := hK
  have hEw : ∀ (H : Heap) (locs : List Loc), va_S A s.heap H locs → ∀ U : State, U.heap = H → s.WarmedH U.vm → E A U := fun H locs hS U hU hW => X.kept A s U H locs hE hS hU hW
  have hl := lv_entry ([.ref M.o_Tb, .ref M.a_Rd_road, .int p1]) (n := 4) (Nat.le_of_ble_eq_true rfl)
  rw [lg_entry_eq]
  generalize (lg_sl ([.ref M.o_Tb, .ref M.a_Rd_road, .int p1]) ++ List.replicate (4 - (lg_sl ([.ref M.o_Tb, .ref M.a_Rd_road, .int p1])).length) Slot.unset).toArray = ls at hl ⊢
  have hl : lv_has ls 4 [(0, .ref M.o_Tb), (1, .ref M.a_Rd_road), (2, .int p1)] := hl
  refine qabs (fun Q hQ => ?_)
  have hB_22 : ∀ (S : CS) (H : Heap) (locs : List Loc) (ls : Array Slot), f_Tb_slotPlace_Rdroad_22 K G S = some (r, S') → va_P (dC, dI) classes (wV M Y G S) H → va_D A (wV M Y G S) → va_S A s.heap H locs → lv_has ls 4 [] → W p l e ({ frames := 1, cells := 0, slots := 0, locals := 21 }) s m ([.ref M.o_Tb, .ref M.a_Rd_road, .int p1] : List Value).toArray below meth c H locs 0 0 Q (F0 m 22 ls []) := by
    intro S H locs ls h hP hD hS hl
    rw [f_Tb_slotPlace_Rdroad_22] at h
    refine lv_iconst (v := (-1)) hx hb d_Tb_slotPlace_22 (by decide) ?_
    rw [hQ]
    have e1 : ((-1)) = r := congrArg Prod.fst (Option.some.inj h)
    have e2 : S = S' := congrArg Prod.snd (Option.some.inj h)
    have hP := ly_newP e2.symm hP
    have hD := ly_newD e2.symm hD
    exact W.iret (v := ((-1))) hx hb hr (fun t ht hW => ⟨⟨((-1)), (), rfl, e1, by rw [ht]; exact hP, va_K.moved hW.alike hK, hD⟩, hS.F ht⟩) hS.2.2 d_Tb_slotPlace_23
  rw [f_Tb_slotPlace_Rdroad] at h
  refine lv_aload_n hx hb d_Tb_slotPlace_0 rfl (lv_at hl 0 rfl) ?_
  obtain ⟨r_1, S_1, hc_1, h⟩ := lf_cE h
  have hFc := lx_free hD hS hA
  refine va_calli (va_runV (As := []) (rest := []) ⟨hx, hb, hml, hown, hts⟩ (l_Tb_slotsOfCluster l dC dI X _ hc_1) (cwV 0 hts (gwV good_Vq (u_Vq_Tb _ k_Tb_55) (u_Vq_Tb _ k_Tb_49) (u_Vq_Tb _ k_Tb_50) (u_Vq_Tb _ k_Tb_0) (wcs (u_Vq_Tb _ k_Tb_51) (fun _ h => h))) rfl rfl rfl (by decide +kernel) ⟨Nat.le_of_ble_eq_true rfl, Nat.le_of_ble_eq_true rfl⟩) (pv_ofE (X.same _) (fun U z1 z2 => X.mono _ _ U hFc (hEw _ _ hS U z1 z2)) hP hK hD (va_recv hK hP (ci := 4) (q0 := 3) rfl rfl)) rfl rfl hl.1 rfl (lv_room (Nat.le_of_ble_eq_true rfl)) d_Tb_slotPlace_1 ⟨by decide, by decide⟩) hS (fun q _ h => hFc q h) hFc (fun r_ u t H locs ht hvm hw hB hz1 hk1 hS => ?_)
  rw [hw]
  obtain ⟨hP, -, hD⟩ := hB
  rw [ht] at hP
  have hD := lx_dj hD hFc
  refine lv_istore_n (lv' := [(3, .int r_1), (0, .ref M.o_Tb), (1, .ref M.a_Rd_road), (2, .int p1)]) hx hb d_Tb_slotPlace_4 rfl hl (by decide) rfl (fun ls hl => ?_)
  refine lv_iload_n hx hb d_Tb_slotPlace_5 rfl (lv_at hl 0 rfl) ?_
  refine lv_iconst (v := 1) hx hb d_Tb_slotPlace_6 (by decide) ?_
  refine lv_icmp_lt (tgt := 22) hx hb d_Tb_slotPlace_7 (by decide) (fun c_2 => ?_) (fun c_2 => ?_)
  · have h := lf_t h c_2
    exact hB_22 S_1 _ _ _ h hP hD hS (lv_sub hl [] rfl)
  · have h := lf_f h c_2
    refine lv_iload_n hx hb d_Tb_slotPlace_10 rfl (lv_at hl 3 rfl) ?_
    refine lv_if_lt (tgt := 22) hx hb d_Tb_slotPlace_11 (by decide) (fun c_3 => ?_) (fun c_3 => ?_)
    · have h := lf_t h c_3
      exact hB_22 S_1 _ _ _ h hP hD hS (lv_sub hl [] rfl)
    · have h := lf_f h c_3
      refine lv_iload_n hx hb d_Tb_slotPlace_14 rfl (lv_at hl 3 rfl) ?_
      refine lv_iload_n hx hb d_Tb_slotPlace_15 rfl (lv_at hl 0 rfl) ?_
      obtain ⟨g_4, h⟩ := lf_gE h
      refine lv_idiv hx hb d_Tb_slotPlace_16 g_4 ?_
      refine lv_aload_n hx hb d_Tb_slotPlace_17 rfl (lv_at hl 2 rfl) ?_
      refine va_alen (v := nI (G.n / 2 + 2)) hx hb hK hP 33 2 rfl rfl rfl d_Tb_slotPlace_18 ?_
      refine lv_icmp_lt (tgt := 24) hx hb d_Tb_slotPlace_19 (by decide) (fun c_5 => ?_) (fun c_5 => ?_)
      · have h := lf_t h c_5
        refine lv_aload_n hx hb d_Tb_slotPlace_24 rfl (lv_at hl 1 rfl) ?_
        refine lv_aload_n hx hb d_Tb_slotPlace_25 rfl (lv_at hl 2 rfl) ?_
        refine lv_iload_n hx hb d_Tb_slotPlace_26 rfl (lv_at hl 3 rfl) ?_
        refine lv_iload_n hx hb d_Tb_slotPlace_27 rfl (lv_at hl 0 rfl) ?_
        obtain ⟨g_6, h⟩ := lf_gE h
        refine lv_idiv hx hb d_Tb_slotPlace_28 g_6 ?_
        obtain ⟨g_7, h⟩ := lf_gE h
        refine va_iald hx hb hK hP 33 2 rfl rfl g_7 d_Tb_slotPlace_29 ?_
        obtain ⟨r_8, S_8, hc_8, h⟩ := lf_cE h
        have hFc := lx_free hD hS hA
        refine va_calli (va_runV (As := [.int (S_1.w_Rd_road (p1 / r_1).toNatClampNeg)]) (rest := []) ⟨hx, hb, hml, hown, hts⟩ (l_Tb_place l dC dI X _ hc_8) (cwV 1 hts (gwV good_Vq (u_Vq_Tb _ k_Tb_56) (u_Vq_Tb _ k_Tb_57) (u_Vq_Tb _ k_Tb_58) (u_Vq_Tb _ k_Tb_0) (wcs (u_Vq_Tb _ k_Tb_59) (fun _ h => h))) rfl rfl rfl (by decide +kernel) ⟨Nat.le_of_ble_eq_true rfl, Nat.le_of_ble_eq_true rfl⟩) (pv_ofE (X.same _) (fun U z1 z2 => X.mono _ _ U hFc (hEw _ _ hS U z1 z2)) hP hK hD (va_recv hK hP (ci := 4) (q0 := 3) rfl rfl)) rfl rfl hl.1 rfl (lv_room (Nat.le_of_ble_eq_true rfl)) d_Tb_slotPlace_30 ⟨by decide, by decide⟩) hS (fun q _ h => hFc q h) hFc (fun r_ u t H locs ht hvm hw hB hz1 hk1 hS => ?_)
        rw [hw]
        obtain ⟨hP, -, hD⟩ := hB
        rw [ht] at hP
        have hD := lx_dj hD hFc
        refine lv_iload_n hx hb d_Tb_slotPlace_33 rfl (lv_at hl 3 rfl) ?_
        refine lv_iload_n hx hb d_Tb_slotPlace_34 rfl (lv_at hl 0 rfl) ?_
        obtain ⟨g_9, h⟩ := lf_gE h
        refine lv_irem hx hb d_Tb_slotPlace_35 g_9 ?_
        refine lv_bipush (v := 32) hx hb d_Tb_slotPlace_36 (by decide) ?_
        refine lv_imul hx hb d_Tb_slotPlace_38 ?_
        refine lv_iadd hx hb d_Tb_slotPlace_39 ?_
        rw [hQ]
        have e1 : (r_8 + ((p1 - p1 / r_1 * r_1) * 32)) = r := congrArg Prod.fst (Option.some.inj h)
        have e2 : S_8 = S' := congrArg Prod.snd (Option.some.inj h)
        have hP := ly_newP e2.symm hP
        have hD := ly_newD e2.symm hD
        exact W.iret (v := (r_8 + ((p1 - p1 / r_1 * r_1) * 32))) hx hb hr (fun t ht hW => ⟨⟨(r_8 + ((p1 - p1 / r_1 * r_1) * 32)), (), rfl, e1, by rw [ht]; exact hP, va_K.moved hW.alike hK, hD⟩, hS.F ht⟩) hS.2.2 d_Tb_slotPlace_40
      · have h := lf_f h c_5
        exact hB_22 S_1 _ _ _ h hP hD hS (lv_sub hl [] rfl)
set_option maxHeartbeats 4000000 in
set_option maxRecDepth 100000 in
theorem l_Rd_firstCluster (l : Launch) (dC : Nat → ClassId) (dI : Nat → Nat → Nat) {K : Nat} {M : CA} {E : (Nat → Prop) → State → Prop} (X : ly_X l dC dI K M E) (sz : Nat) {Y : CT} {G : CG} {S S' : CS} {p0 : Int32} {r : Int32} (h : f_Rd_firstCluster K G S p0 = some (r, S')) : Met l y_Rd_firstCluster (.code y_Rd_firstCluster cb_Rd_firstCluster 2 (some .int) :: V_Vq) ({ frames := 1, cells := 0, slots := 0, locals := 21 }) (va_Pc [.ref M.o_Rd, .int p0] (fun U => U.heap.size = sz ∧ at_ (dC, dI) (fun _ => True) (wV M Y G S) (tV M) U ∧ E (va_A (wV M Y G S) sz) U)) (va_Qi (fun (r_ : Int32) (u : Unit) => r_ = r) (fun (u : Unit) t => at_ (dC, dI) (va_A (wV M Y G S) sz) (wV M Y G S') (tV M) t) (va_A (wV M Y G S) sz)) 0 0 (va_A (wV M Y G S) sz) := by
  refine Met.ofW (cc := cb_Rd_firstCluster) (maxL := 2) (ret := (some .int)) (by decide) rfl ?_
  intro p e s m args below meth c s₁ B hml hv
  obtain ⟨rfl, hsz, ⟨hP, hK, hD0⟩, hE⟩ := hv
  have hx := B.exec
  have hb := B.bytes
  have hr := B.returns
  have hts0 := atoms_spec (ws := .code y_Rd_firstCluster cb_Rd_firstCluster 2 (some .int) :: V_Vq) B.pre
  have hts : ∀ w ∈ V_Vq, w.before ([.ref M.o_Rd, .int p0] : List Value).toArray s = true := fun w h => hts0 w (List.mem_cons_of_mem _ h)
  have hown : s.vm.findClass R_Rd = some m.cls := findClass_of_methodNamed B.named
  subst hsz
  have hD := hD0.self (sz := s.heap.size)
  generalize hAe : va_A (wV M Y G S) s.heap.size = A at hD hE ⊢
  have hA : ∀ q : Nat, s.heap.size ≤ q → A q := fun q h => by rw [← hAe]; exact Or.inr h
  have hS : va_S A s.heap s.heap [] := va_S.rf
  have hP : va_P (dC, dI) classes (wV M Y G S) s.heap := hP
  have hK : va_K (dC, dI) classes (tV M) s := hK
  have hEw : ∀ (H : Heap) (locs : List Loc), va_S A s.heap H locs → ∀ U : State, U.heap = H → s.WarmedH U.vm → E A U := fun H locs hS U hU hW => X.kept A s U H locs hE hS hU hW
  have hl := lv_entry ([.ref M.o_Rd, .int p0]) (n := 2) (Nat.le_of_ble_eq_true rfl)
  rw [lg_entry_eq]
  generalize (lg_sl ([.ref M.o_Rd, .int p0]) ++ List.replicate (2 - (lg_sl ([.ref M.o_Rd, .int p0])).length) Slot.unset).toArray = ls at hl ⊢
  have hl : lv_has ls 2 [(0, .ref M.o_Rd), (1, .int p0)] := hl
  refine qabs (fun Q hQ => ?_)
  rw [f_Rd_firstCluster] at h
  refine lv_aload_n hx hb d_Rd_firstCluster_0 rfl (lv_at hl 0 rfl) ?_
  refine va_get (D := (dC, dI)) (ci := 7) (v := .ref M.o_Dk) (C := R_Rd) (T := F_Rd) (N := 10) hx hb hts (fun w h => u_Vq_Rd w (i_Rd w h)) hown hK hP 5 rfl rfl 0 (by decide) (hts _ (u_Vq_Rd _ k_Rd_10)) (fun _ h9 => h9) rfl d_Rd_firstCluster_1 ?_
  refine lv_iload_n hx hb d_Rd_firstCluster_4 rfl (lv_at hl 1 rfl) ?_
  refine lv_bipush (v := 20) hx hb d_Rd_firstCluster_5 (by decide) ?_
  refine lv_iadd hx hb d_Rd_firstCluster_7 ?_
  obtain ⟨r_1, S_1, hc_1, h⟩ := lf_cE h
  have hFc := lx_free hD hS hA
  refine va_calli (va_runV (As := [.int (p0 + 20)]) (rest := []) ⟨hx, hb, hml, hown, hts⟩ (l_Dk_two l dC dI X _ hc_1) (cwV 1 hts (gwV good_Vq (u_Vq_Rd _ k_Rd_49) (u_Vq_Dk _ k_Dk_17) (u_Vq_Dk _ k_Dk_18) (u_Vq_Dk _ k_Dk_0) (wcs (u_Vq_Dk _ k_Dk_19) (fun _ h => h))) rfl rfl rfl (by decide +kernel) ⟨Nat.le_of_ble_eq_true rfl, Nat.le_of_ble_eq_true rfl⟩) (pv_ofE (X.same _) (fun U z1 z2 => X.mono _ _ U hFc (hEw _ _ hS U z1 z2)) hP hK hD (va_recv hK hP (ci := 0) (q0 := 1) rfl rfl)) rfl rfl hl.1 rfl (lv_room (Nat.le_of_ble_eq_true rfl)) d_Rd_firstCluster_8 ⟨by decide, by decide⟩) hS (fun q _ h => hFc q h) hFc (fun r_ u t H locs ht hvm hw hB hz1 hk1 hS => ?_)
  rw [hw]
  obtain ⟨hP, -, hD⟩ := hB
  rw [ht] at hP
  have hD := lx_dj hD hFc
  refine lv_bipush (v := 16) hx hb d_Rd_firstCluster_11 (by decide) ?_
  refine lv_ishl hx hb d_Rd_firstCluster_13 ?_
  refine lv_aload_n hx hb d_Rd_firstCluster_14 rfl (lv_at hl 0 rfl) ?_
  refine va_get (D := (dC, dI)) (ci := 7) (v := .ref M.o_Dk) (C := R_Rd) (T := F_Rd) (N := 10) hx hb hts (fun w h => u_Vq_Rd w (i_Rd w h)) hown hK hP 5 rfl rfl 0 (by decide) (hts _ (u_Vq_Rd _ k_Rd_10)) (fun _ h9 => h9) rfl d_Rd_firstCluster_15 ?_
  refine lv_iload_n hx hb d_Rd_firstCluster_18 rfl (lv_at hl 1 rfl) ?_
  refine lv_bipush (v := 26) hx hb d_Rd_firstCluster_19 (by decide) ?_
  refine lv_iadd hx hb d_Rd_firstCluster_21 ?_
  obtain ⟨r_2, S_2, hc_2, h⟩ := lf_cE h
  have hFc := lx_free hD hS hA
  refine va_calli (va_runV (As := [.int (p0 + 26)]) (rest := [.int (r_1 <<< ((16 : Int32) &&& 31))]) ⟨hx, hb, hml, hown, hts⟩ (l_Dk_two l dC dI X _ hc_2) (cwV 1 hts (gwV good_Vq (u_Vq_Rd _ k_Rd_49) (u_Vq_Dk _ k_Dk_17) (u_Vq_Dk _ k_Dk_18) (u_Vq_Dk _ k_Dk_0) (wcs (u_Vq_Dk _ k_Dk_19) (fun _ h => h))) rfl rfl rfl (by decide +kernel) ⟨Nat.le_of_ble_eq_true rfl, Nat.le_of_ble_eq_true rfl⟩) (pv_ofE (X.same _) (fun U z1 z2 => X.mono _ _ U hFc (hEw _ _ hS U z1 z2)) hP hK hD (va_recv hK hP (ci := 0) (q0 := 1) rfl rfl)) rfl rfl hl.1 rfl (lv_room (Nat.le_of_ble_eq_true rfl)) d_Rd_firstCluster_22 ⟨by decide, by decide⟩) hS (fun q _ h => hFc q h) hFc (fun r_ u t H locs ht hvm hw hB hz1 hk1 hS => ?_)
  rw [hw]
  obtain ⟨hP, -, hD⟩ := hB
  rw [ht] at hP
  have hD := lx_dj hD hFc
  refine lv_ior hx hb d_Rd_firstCluster_25 ?_
  rw [hQ]
  have e1 : ((r_1 <<< ((16 : Int32) &&& 31)) ||| r_2) = r := congrArg Prod.fst (Option.some.inj h)
  have e2 : S_2 = S' := congrArg Prod.snd (Option.some.inj h)
  have hP := ly_newP e2.symm hP
  have hD := ly_newD e2.symm hD
  exact W.iret (v := ((r_1 <<< ((16 : Int32) &&& 31)) ||| r_2)) hx hb hr (fun t ht hW => ⟨⟨((r_1 <<< ((16 : Int32) &&& 31)) ||| r_2), (), rfl, e1, by rw [ht]; exact hP, va_K.moved hW.alike hK, hD⟩, hS.F ht⟩) hS.2.2 d_Rd_firstCluster_26
set_option maxHeartbeats 4000000 in
set_option maxRecDepth 100000 in
theorem l_Rd_isDots (l : Launch) (dC : Nat → ClassId) (dI : Nat → Nat → Nat) {K : Nat} {M : CA} {E : (Nat → Prop) → State → Prop} (X : ly_X l dC dI K M E) (sz : Nat) {Y : CT} {G : CG} {S S' : CS} {p0 : Int32} {p1 : Int32} {p2 : Int32} {r : Int32} (h : f_Rd_isDots K G S p0 p1 p2 = some (r, S')) : Met l y_Rd_isDots (.code y_Rd_isDots cb_Rd_isDots 6 (some .boolean) :: V_Vq) ({ frames := 2, cells := 0, slots := 0, locals := 42 }) (va_Pc [.ref M.o_Rd, .int p0, .int p1, .int p2] (fun U => U.heap.size = sz ∧ at_ (dC, dI) (fun _ => True) (wV M Y G S) (tV M) U ∧ E (va_A (wV M Y G S) sz) U)) (va_Qi (fun (r_ : Int32) (u : Unit) => r_ = r) (fun (u : Unit) t => at_ (dC, dI) (va_A (wV M Y G S) sz) (wV M Y G S') (tV M) t) (va_A (wV M Y G S) sz)) 0 0 (va_A (wV M Y G S) sz) := by
  refine Met.ofW (cc := cb_Rd_isDots) (maxL := 6) (ret := (some .boolean)) (by decide) rfl ?_
  intro p e s m args below meth c s₁ B hml hv
  obtain ⟨rfl, hsz, ⟨hP, hK, hD0⟩, hE⟩ := hv
  have hx := B.exec
  have hb := B.bytes
  have hr := B.returns
  have hts0 := atoms_spec (ws := .code y_Rd_isDots cb_Rd_isDots 6 (some .boolean) :: V_Vq) B.pre
  have hts : ∀ w ∈ V_Vq, w.before ([.ref M.o_Rd, .int p0, .int p1, .int p2] : List Value).toArray s = true := fun w h => hts0 w (List.mem_cons_of_mem _ h)
  have hown : s.vm.findClass R_Rd = some m.cls := findClass_of_methodNamed B.named
  subst hsz
  have hD := hD0.self (sz := s.heap.size)
  generalize hAe : va_A (wV M Y G S) s.heap.size = A at hD hE ⊢
  have hA : ∀ q : Nat, s.heap.size ≤ q → A q := fun q h => by rw [← hAe]; exact Or.inr h
  have hS : va_S A s.heap s.heap [] := va_S.rf
  have hP : va_P (dC, dI) classes (wV M Y G S) s.heap := hP
  have hK : va_K (dC, dI) classes (tV M) s := hK
  have hEw : ∀ (H : Heap) (locs : List Loc), va_S A s.heap H locs → ∀ U : State, U.heap = H → s.WarmedH U.vm → E A U := fun H locs hS U hU hW => X.kept A s U H locs hE hS hU hW
  have hl := lv_entry ([.ref M.o_Rd, .int p0, .int p1, .int p2]) (n := 6) (Nat.le_of_ble_eq_true rfl)
  rw [lg_entry_eq]
  generalize (lg_sl ([.ref M.o_Rd, .int p0, .int p1, .int p2]) ++ List.replicate (6 - (lg_sl ([.ref M.o_Rd, .int p0, .int p1, .int p2])).length) Slot.unset).toArray = ls at hl ⊢
  have hl : lv_has ls 6 [(0, .ref M.o_Rd), (1, .int p0), (2, .int p1), (3, .int p2)] := hl
  refine qabs (fun Q hQ => ?_)
  have hB_34 : ∀ (rec_3 : Int32 → Int32 → Int32 → Int32 → CS → Option (Int32 × CS)) (hr_3 : ∀ (y_1 : Int32) (y_2 : Int32) (y_3 : Int32) (y_4 : Int32) (S : CS) (H : Heap) (locs : List Loc) (ls : Array Slot), rec_3 y_1 y_2 y_3 y_4 S = some (r, S') → va_P (dC, dI) classes (wV M Y G S) H → va_D A (wV M Y G S) → va_S A s.heap H locs → lv_has ls 6 [(0, .ref M.o_Rd), (1, .int y_1), (2, .int y_2), (3, .int y_3), (4, .int y_4)] → W p l e ({ frames := 2, cells := 0, slots := 0, locals := 42 }) s m ([.ref M.o_Rd, .int p0, .int p1, .int p2] : List Value).toArray below meth c H locs 0 0 Q (F0 m 3 ls [])), ∀ (y_1 : Int32) (y_2 : Int32) (y_3 : Int32) (y_4 : Int32) (z_0 : Int32) (z_1 : Int32) (S : CS) (H : Heap) (locs : List Loc) (ls : Array Slot), f_Rd_isDots_34 K G rec_3 y_1 y_2 y_3 y_4 z_0 z_1 S = some (r, S') → va_P (dC, dI) classes (wV M Y G S) H → va_D A (wV M Y G S) → va_S A s.heap H locs → lv_has ls 6 [(0, .ref M.o_Rd), (1, .int y_1), (2, .int y_2), (3, .int y_3), (4, .int y_4)] → W p l e ({ frames := 2, cells := 0, slots := 0, locals := 42 }) s m ([.ref M.o_Rd, .int p0, .int p1, .int p2] : List Value).toArray below meth c H locs 0 0 Q (F0 m 34 ls [.int z_1, .int z_0]) := by
    intro rec_3 hr_3 y_1 y_2 y_3 y_4 z_0 z_1 S H locs ls h hP hD hS hl
    rw [f_Rd_isDots_34] at h
    refine lv_icmp_eq (tgt := 39) hx hb d_Rd_isDots_34 (by decide) (fun c_13 => ?_) (fun c_13 => ?_)
    · have h := lf_t h c_13
      obtain ⟨x_14, ex_14, h⟩ := lf_lX h
      refine lv_iinc (v := x_14) (lv' := [(4, .int x_14), (0, .ref M.o_Rd), (1, .int y_1), (2, .int y_2), (3, .int y_3)]) hx hb d_Rd_isDots_39 hl (k := 4) rfl (by rw [ex_14]; rfl) (by decide) rfl (fun ls hl => ?_)
      refine lv_goto (tgt := 3) hx hb d_Rd_isDots_42 (by decide) ?_
      exact hr_3 y_1 y_2 y_3 x_14 S _ _ _ h hP hD hS (lv_sub hl [1, 2, 3, 4, 0] rfl)
    · have h := lf_f h c_13
      refine lv_iconst (v := 0) hx hb d_Rd_isDots_37 (by decide) ?_
      rw [hQ]
      have e1 : (0 : Int32) = r := congrArg Prod.fst (Option.some.inj h)
      have e2 : S = S' := congrArg Prod.snd (Option.some.inj h)
      have hP := ly_newP e2.symm hP
      have hD := ly_newD e2.symm hD
      exact W.zret (v := 0) hx hb hr rfl (fun t ht hW => ⟨⟨0, (), rfl, e1, by rw [ht]; exact hP, va_K.moved hW.alike hK, hD⟩, hS.F ht⟩) hS.2.2 d_Rd_isDots_38
  have hB_121 : ∀ (S : CS) (H : Heap) (locs : List Loc) (ls : Array Slot), f_Rd_isDots_121 K G S = some (r, S') → va_P (dC, dI) classes (wV M Y G S) H → va_D A (wV M Y G S) → va_S A s.heap H locs → lv_has ls 6 [] → W p l e ({ frames := 2, cells := 0, slots := 0, locals := 42 }) s m ([.ref M.o_Rd, .int p0, .int p1, .int p2] : List Value).toArray below meth c H locs 0 0 Q (F0 m 121 ls []) := by
    intro S H locs ls h hP hD hS hl
    rw [f_Rd_isDots_121] at h
    refine lv_iconst (v := 0) hx hb d_Rd_isDots_121 (by decide) ?_
    rw [hQ]
    have e1 : (0 : Int32) = r := congrArg Prod.fst (Option.some.inj h)
    have e2 : S = S' := congrArg Prod.snd (Option.some.inj h)
    have hP := ly_newP e2.symm hP
    have hD := ly_newD e2.symm hD
    exact W.zret (v := 0) hx hb hr rfl (fun t ht hW => ⟨⟨0, (), rfl, e1, by rw [ht]; exact hP, va_K.moved hW.alike hK, hD⟩, hS.F ht⟩) hS.2.2 d_Rd_isDots_122
  have hB_89 : ∀ (y_3 : Int32) (z_0 : Int32) (S : CS) (H : Heap) (locs : List Loc) (ls : Array Slot), f_Rd_isDots_89 K G y_3 z_0 S = some (r, S') → va_P (dC, dI) classes (wV M Y G S) H → va_D A (wV M Y G S) → va_S A s.heap H locs → lv_has ls 6 [(0, .ref M.o_Rd), (3, .int y_3)] → W p l e ({ frames := 2, cells := 0, slots := 0, locals := 42 }) s m ([.ref M.o_Rd, .int p0, .int p1, .int p2] : List Value).toArray below meth c H locs 0 0 Q (F0 m 89 ls [.int z_0]) := by
    intro y_3 z_0 S H locs ls h hP hD hS hl
    rw [f_Rd_isDots_89] at h
    refine lv_istore (lv' := [(5, .int z_0), (0, .ref M.o_Rd), (3, .int y_3)]) hx hb d_Rd_isDots_89 hl (by decide) rfl (fun ls hl => ?_)
    refine lv_aload_n hx hb d_Rd_isDots_91 rfl (lv_at hl 1 rfl) ?_
    refine va_get (D := (dC, dI)) (ci := 7) (v := .ref M.o_Dk) (C := R_Rd) (T := F_Rd) (N := 10) hx hb hts (fun w h => u_Vq_Rd w (i_Rd w h)) hown hK hP 5 rfl rfl 0 (by decide) (hts _ (u_Vq_Rd _ k_Rd_10)) (fun _ h9 => h9) rfl d_Rd_isDots_92 ?_
    refine lv_iload_n hx hb d_Rd_isDots_95 rfl (lv_at hl 2 rfl) ?_
    refine lv_bipush (v := 11) hx hb d_Rd_isDots_96 (by decide) ?_
    refine lv_iadd hx hb d_Rd_isDots_98 ?_
    obtain ⟨r_9, S_9, hc_9, h⟩ := lf_cE h
    have hFc := lx_free hD hS hA
    refine va_calli (va_runV (As := [.int (y_3 + 11)]) (rest := []) ⟨hx, hb, hml, hown, hts⟩ (l_Dk_one l dC dI X _ hc_9) (cwV 1 hts (gwV good_Vq (u_Vq_Rd _ k_Rd_41) (u_Vq_Dk _ k_Dk_20) (u_Vq_Dk _ k_Dk_21) (u_Vq_Dk _ k_Dk_0) (wcs (u_Vq_Dk _ k_Dk_22) (fun _ h => h))) rfl rfl rfl (by decide +kernel) ⟨Nat.le_of_ble_eq_true rfl, Nat.le_of_ble_eq_true rfl⟩) (pv_ofE (X.same _) (fun U z1 z2 => X.mono _ _ U hFc (hEw _ _ hS U z1 z2)) hP hK hD (va_recv hK hP (ci := 0) (q0 := 1) rfl rfl)) rfl rfl hl.1 rfl (lv_room (Nat.le_of_ble_eq_true rfl)) d_Rd_isDots_99 ⟨by decide, by decide⟩) hS (fun q _ h => hFc q h) hFc (fun r_ u t H locs ht hvm hw hB hz1 hk1 hS => ?_)
    rw [hw]
    obtain ⟨hP, -, hD⟩ := hB
    rw [ht] at hP
    have hD := lx_dj hD hFc
    refine lv_bipush (v := 16) hx hb d_Rd_isDots_102 (by decide) ?_
    refine lv_icmp_ne (tgt := 121) hx hb d_Rd_isDots_104 (by decide) (fun c_10 => ?_) (fun c_10 => ?_)
    · have h := lf_f h c_10
      exact hB_121 S_9 _ _ _ h hP hD hS (lv_sub hl [] rfl)
    · have h := lf_t h c_10
      refine lv_aload_n hx hb d_Rd_isDots_107 rfl (lv_at hl 1 rfl) ?_
      refine lv_iload_n hx hb d_Rd_isDots_108 rfl (lv_at hl 2 rfl) ?_
      obtain ⟨r_11, S_11, hc_11, h⟩ := lf_cE h
      have hFc := lx_free hD hS hA
      refine va_calli (va_runV (As := [.int y_3]) (rest := []) ⟨hx, hb, hml, hown, hts⟩ (l_Rd_firstCluster l dC dI X _ hc_11) (cwV 1 hts (gwV good_Vq (u_Vq_Rd _ k_Rd_46) (u_Vq_Rd _ k_Rd_47) (u_Vq_Rd _ k_Rd_101) (u_Vq_Rd _ k_Rd_0) (wcs (u_Vq_Rd _ k_Rd_48) (fun _ h => h))) rfl rfl rfl (by decide +kernel) ⟨Nat.le_of_ble_eq_true rfl, Nat.le_of_ble_eq_true rfl⟩) (pv_ofE (X.same _) (fun U z1 z2 => X.mono _ _ U hFc (hEw _ _ hS U z1 z2)) hP hK hD (va_recv hK hP (ci := 7) (q0 := 5) rfl rfl)) rfl rfl hl.1 rfl (lv_room (Nat.le_of_ble_eq_true rfl)) d_Rd_isDots_109 ⟨by decide, by decide⟩) hS (fun q _ h => hFc q h) hFc (fun r_ u t H locs ht hvm hw hB hz1 hk1 hS => ?_)
      rw [hw]
      obtain ⟨hP, -, hD⟩ := hB
      rw [ht] at hP
      have hD := lx_dj hD hFc
      refine lv_iload hx hb d_Rd_isDots_112 (lv_at hl 0 rfl) ?_
      refine lv_icmp_ne (tgt := 121) hx hb d_Rd_isDots_114 (by decide) (fun c_12 => ?_) (fun c_12 => ?_)
      · have h := lf_f h c_12
        exact hB_121 S_11 _ _ _ h hP hD hS (lv_sub hl [] rfl)
      · have h := lf_t h c_12
        refine lv_iconst (v := 1) hx hb d_Rd_isDots_117 (by decide) ?_
        refine lv_goto (tgt := 122) hx hb d_Rd_isDots_118 (by decide) ?_
        rw [hQ]
        have e1 : (1 : Int32) = r := congrArg Prod.fst (Option.some.inj h)
        have e2 : S_11 = S' := congrArg Prod.snd (Option.some.inj h)
        have hP := ly_newP e2.symm hP
        have hD := ly_newD e2.symm hD
        exact W.zret (v := 1) hx hb hr rfl (fun t ht hW => ⟨⟨1, (), rfl, e1, by rw [ht]; exact hP, va_K.moved hW.alike hK, hD⟩, hS.F ht⟩) hS.2.2 d_Rd_isDots_122
  have hB_3 : ∀ (k : Nat), ∀ (y_1 : Int32) (y_2 : Int32) (y_3 : Int32) (y_4 : Int32) (S : CS) (H : Heap) (locs : List Loc) (ls : Array Slot), f_Rd_isDots_3 K G k y_1 y_2 y_3 y_4 S = some (r, S') → va_P (dC, dI) classes (wV M Y G S) H → va_D A (wV M Y G S) → va_S A s.heap H locs → lv_has ls 6 [(0, .ref M.o_Rd), (1, .int y_1), (2, .int y_2), (3, .int y_3), (4, .int y_4)] → W p l e ({ frames := 2, cells := 0, slots := 0, locals := 42 }) s m ([.ref M.o_Rd, .int p0, .int p1, .int p2] : List Value).toArray below meth c H locs 0 0 Q (F0 m 3 ls []) := by
    intro k
    induction k with
    | zero => intro y_1 y_2 y_3 y_4 S H locs ls h; exact lf_no h
    | succ k hr_3 =>
      intro y_1 y_2 y_3 y_4 S H locs ls h hP hD hS hl
      rw [f_Rd_isDots_3] at h
      refine lv_iload hx hb d_Rd_isDots_3 (lv_at hl 4 rfl) ?_
      refine lv_bipush (v := 11) hx hb d_Rd_isDots_5 (by decide) ?_
      refine lv_icmp_ge (tgt := 45) hx hb d_Rd_isDots_7 (by decide) (fun c_1 => ?_) (fun c_1 => ?_)
      · have h := lf_t h c_1
        refine lv_aload_n hx hb d_Rd_isDots_45 rfl (lv_at hl 0 rfl) ?_
        refine va_get (D := (dC, dI)) (ci := 7) (v := .ref M.o_Tr) (C := R_Rd) (T := F_Rd) (N := 10) hx hb hts (fun w h => u_Vq_Rd w (i_Rd w h)) hown hK hP 5 rfl rfl 2 (by decide) (hts _ (u_Vq_Rd _ k_Rd_12)) (fun _ h9 => h9) rfl d_Rd_isDots_46 ?_
        refine lv_iload_n hx hb d_Rd_isDots_49 rfl (lv_at hl 1 rfl) ?_
        obtain ⟨r_2, S_2, hc_2, h⟩ := lf_cE h
        have hFc := lx_free hD hS hA
        refine va_calli (va_runV (As := [.int y_1]) (rest := []) ⟨hx, hb, hml, hown, hts⟩ (l_Tr_parentOf l dC dI X _ hc_2) (cwV 1 hts (gwV good_Vq (u_Vq_Rd _ k_Rd_45) (u_Vq_Tr _ k_Tr_51) (u_Vq_Tr _ k_Tr_52) (u_Vq_Tr _ k_Tr_0) (wcs (u_Vq_Tr _ k_Tr_53) (fun _ h => h))) rfl rfl rfl (by decide +kernel) ⟨Nat.le_of_ble_eq_true rfl, Nat.le_of_ble_eq_true rfl⟩) (pv_ofE (X.same _) (fun U z1 z2 => X.mono _ _ U hFc (hEw _ _ hS U z1 z2)) hP hK hD (va_recv hK hP (ci := 5) (q0 := 4) rfl rfl)) rfl rfl hl.1 rfl (lv_room (Nat.le_of_ble_eq_true rfl)) d_Rd_isDots_50 ⟨by decide, by decide⟩) hS (fun q _ h => hFc q h) hFc (fun r_ u t H locs ht hvm hw hB hz1 hk1 hS => ?_)
        rw [hw]
        obtain ⟨hP, -, hD⟩ := hB
        rw [ht] at hP
        have hD := lx_dj hD hFc
        refine lv_istore (lv' := [(4, .int r_2), (0, .ref M.o_Rd), (1, .int y_1), (2, .int y_2), (3, .int y_3)]) hx hb d_Rd_isDots_53 hl (by decide) rfl (fun ls hl => ?_)
        refine lv_iload_n hx hb d_Rd_isDots_55 rfl (lv_at hl 3 rfl) ?_
        refine lv_iconst (v := 1) hx hb d_Rd_isDots_56 (by decide) ?_
        refine lv_icmp_ne (tgt := 71) hx hb d_Rd_isDots_57 (by decide) (fun c_3 => ?_) (fun c_3 => ?_)
        · have h := lf_f h c_3
          refine lv_iload hx hb d_Rd_isDots_71 (lv_at hl 0 rfl) ?_
          refine lv_if_ne (tgt := 80) hx hb d_Rd_isDots_73 (by decide) (fun c_4 => ?_) (fun c_4 => ?_)
          · have h := lf_f h c_4
            refine lv_aload_n hx hb d_Rd_isDots_80 rfl (lv_at hl 1 rfl) ?_
            refine va_get (D := (dC, dI)) (ci := 7) (v := .ref M.o_Tr) (C := R_Rd) (T := F_Rd) (N := 10) hx hb hts (fun w h => u_Vq_Rd w (i_Rd w h)) hown hK hP 5 rfl rfl 2 (by decide) (hts _ (u_Vq_Rd _ k_Rd_12)) (fun _ h9 => h9) rfl d_Rd_isDots_81 ?_
            refine lv_iload hx hb d_Rd_isDots_84 (lv_at hl 0 rfl) ?_
            obtain ⟨r_5, S_5, hc_5, h⟩ := lf_cE h
            have hFc := lx_free hD hS hA
            refine va_calli (va_runV (As := [.int r_2]) (rest := []) ⟨hx, hb, hml, hown, hts⟩ (l_Tr_firstOf l dC dI X _ hc_5) (cwV 1 hts (gwV good_Vq (u_Vq_Rd _ k_Rd_31) (u_Vq_Tr _ k_Tr_45) (u_Vq_Tr _ k_Tr_46) (u_Vq_Tr _ k_Tr_0) (wcs (u_Vq_Tr _ k_Tr_47) (fun _ h => h))) rfl rfl rfl (by decide +kernel) ⟨Nat.le_of_ble_eq_true rfl, Nat.le_of_ble_eq_true rfl⟩) (pv_ofE (X.same _) (fun U z1 z2 => X.mono _ _ U hFc (hEw _ _ hS U z1 z2)) hP hK hD (va_recv hK hP (ci := 5) (q0 := 4) rfl rfl)) rfl rfl hl.1 rfl (lv_room (Nat.le_of_ble_eq_true rfl)) d_Rd_isDots_86 ⟨by decide, by decide⟩) hS (fun q _ h => hFc q h) hFc (fun r_ u t H locs ht hvm hw hB hz1 hk1 hS => ?_)
            rw [hw]
            obtain ⟨hP, -, hD⟩ := hB
            rw [ht] at hP
            have hD := lx_dj hD hFc
            exact hB_89 y_3 r_5 S_5 _ _ _ h hP hD hS (lv_sub hl [1, 4] rfl)
          · have h := lf_t h c_4
            refine lv_iconst (v := 0) hx hb d_Rd_isDots_76 (by decide) ?_
            refine lv_goto (tgt := 89) hx hb d_Rd_isDots_77 (by decide) ?_
            exact hB_89 y_3 0 S_2 _ _ _ h hP hD hS (lv_sub hl [1, 4] rfl)
        · have h := lf_t h c_3
          refine lv_aload_n hx hb d_Rd_isDots_60 rfl (lv_at hl 1 rfl) ?_
          refine va_get (D := (dC, dI)) (ci := 7) (v := .ref M.o_Tr) (C := R_Rd) (T := F_Rd) (N := 10) hx hb hts (fun w h => u_Vq_Rd w (i_Rd w h)) hown hK hP 5 rfl rfl 2 (by decide) (hts _ (u_Vq_Rd _ k_Rd_12)) (fun _ h9 => h9) rfl d_Rd_isDots_61 ?_
          refine lv_iload_n hx hb d_Rd_isDots_64 rfl (lv_at hl 2 rfl) ?_
          obtain ⟨r_6, S_6, hc_6, h⟩ := lf_cE h
          have hFc := lx_free hD hS hA
          refine va_calli (va_runV (As := [.int y_1]) (rest := []) ⟨hx, hb, hml, hown, hts⟩ (l_Tr_firstOf l dC dI X _ hc_6) (cwV 1 hts (gwV good_Vq (u_Vq_Rd _ k_Rd_31) (u_Vq_Tr _ k_Tr_45) (u_Vq_Tr _ k_Tr_46) (u_Vq_Tr _ k_Tr_0) (wcs (u_Vq_Tr _ k_Tr_47) (fun _ h => h))) rfl rfl rfl (by decide +kernel) ⟨Nat.le_of_ble_eq_true rfl, Nat.le_of_ble_eq_true rfl⟩) (pv_ofE (X.same _) (fun U z1 z2 => X.mono _ _ U hFc (hEw _ _ hS U z1 z2)) hP hK hD (va_recv hK hP (ci := 5) (q0 := 4) rfl rfl)) rfl rfl hl.1 rfl (lv_room (Nat.le_of_ble_eq_true rfl)) d_Rd_isDots_65 ⟨by decide, by decide⟩) hS (fun q _ h => hFc q h) hFc (fun r_ u t H locs ht hvm hw hB hz1 hk1 hS => ?_)
          rw [hw]
          obtain ⟨hP, -, hD⟩ := hB
          rw [ht] at hP
          have hD := lx_dj hD hFc
          refine lv_goto (tgt := 89) hx hb d_Rd_isDots_68 (by decide) ?_
          exact hB_89 y_3 r_6 S_6 _ _ _ h hP hD hS (lv_sub hl [1, 4] rfl)
      · have h := lf_f h c_1
        refine lv_aload_n hx hb d_Rd_isDots_10 rfl (lv_at hl 0 rfl) ?_
        refine va_get (D := (dC, dI)) (ci := 7) (v := .ref M.o_Dk) (C := R_Rd) (T := F_Rd) (N := 10) hx hb hts (fun w h => u_Vq_Rd w (i_Rd w h)) hown hK hP 5 rfl rfl 0 (by decide) (hts _ (u_Vq_Rd _ k_Rd_10)) (fun _ h9 => h9) rfl d_Rd_isDots_11 ?_
        refine lv_iload_n hx hb d_Rd_isDots_14 rfl (lv_at hl 3 rfl) ?_
        refine lv_iload hx hb d_Rd_isDots_15 (lv_at hl 4 rfl) ?_
        refine lv_iadd hx hb d_Rd_isDots_17 ?_
        obtain ⟨r_7, S_7, hc_7, h⟩ := lf_cE h
        have hFc := lx_free hD hS hA
        refine va_calli (va_runV (As := [.int (y_3 + y_4)]) (rest := []) ⟨hx, hb, hml, hown, hts⟩ (l_Dk_one l dC dI X _ hc_7) (cwV 1 hts (gwV good_Vq (u_Vq_Rd _ k_Rd_41) (u_Vq_Dk _ k_Dk_20) (u_Vq_Dk _ k_Dk_21) (u_Vq_Dk _ k_Dk_0) (wcs (u_Vq_Dk _ k_Dk_22) (fun _ h => h))) rfl rfl rfl (by decide +kernel) ⟨Nat.le_of_ble_eq_true rfl, Nat.le_of_ble_eq_true rfl⟩) (pv_ofE (X.same _) (fun U z1 z2 => X.mono _ _ U hFc (hEw _ _ hS U z1 z2)) hP hK hD (va_recv hK hP (ci := 0) (q0 := 1) rfl rfl)) rfl rfl hl.1 rfl (lv_room (Nat.le_of_ble_eq_true rfl)) d_Rd_isDots_18 ⟨by decide, by decide⟩) hS (fun q _ h => hFc q h) hFc (fun r_ u t H locs ht hvm hw hB hz1 hk1 hS => ?_)
        rw [hw]
        obtain ⟨hP, -, hD⟩ := hB
        rw [ht] at hP
        have hD := lx_dj hD hFc
        refine lv_iload hx hb d_Rd_isDots_21 (lv_at hl 4 rfl) ?_
        refine lv_iload_n hx hb d_Rd_isDots_23 rfl (lv_at hl 2 rfl) ?_
        refine lv_icmp_ge (tgt := 32) hx hb d_Rd_isDots_24 (by decide) (fun c_8 => ?_) (fun c_8 => ?_)
        · have h := lf_t h c_8
          refine lv_bipush (v := 32) hx hb d_Rd_isDots_32 (by decide) ?_
          exact hB_34 _ hr_3 y_1 y_2 y_3 y_4 r_7 32 S_7 _ _ _ h hP hD hS (lv_sub hl [0, 1, 2, 3, 4] rfl)
        · have h := lf_f h c_8
          refine lv_bipush (v := 46) hx hb d_Rd_isDots_27 (by decide) ?_
          refine lv_goto (tgt := 34) hx hb d_Rd_isDots_29 (by decide) ?_
          exact hB_34 _ hr_3 y_1 y_2 y_3 y_4 r_7 46 S_7 _ _ _ h hP hD hS (lv_sub hl [0, 1, 2, 3, 4] rfl)
  rw [f_Rd_isDots] at h
  refine lv_iconst (v := 0) hx hb d_Rd_isDots_0 (by decide) ?_
  refine lv_istore (lv' := [(4, .int 0), (0, .ref M.o_Rd), (1, .int p0), (2, .int p1), (3, .int p2)]) hx hb d_Rd_isDots_1 hl (by decide) rfl (fun ls hl => ?_)
  exact hB_3 K p0 p1 p2 0 S _ _ _ h hP hD hS (lv_sub hl [1, 2, 3, 4, 0] rfl)
set_option maxHeartbeats 4000000 in
set_option maxRecDepth 100000 in
theorem l_Rd_bitsFit (l : Launch) (dC : Nat → ClassId) (dI : Nat → Nat → Nat) {K : Nat} {M : CA} {E : (Nat → Prop) → State → Prop} (X : ly_X l dC dI K M E) (sz : Nat) {Y : CT} {G : CG} {S S' : CS} {p0 : Int32} {p1 : Int32} {r : Int32} (h : f_Rd_bitsFit K G S p0 p1 = some (r, S')) : Met l y_Rd_bitsFit (.code y_Rd_bitsFit cb_Rd_bitsFit 5 (some .boolean) :: V_Vq) ({ frames := 2, cells := 0, slots := 0, locals := 42 }) (va_Pc [.ref M.o_Rd, .int p0, .int p1] (fun U => U.heap.size = sz ∧ at_ (dC, dI) (fun _ => True) (wV M Y G S) (tV M) U ∧ E (va_A (wV M Y G S) sz) U)) (va_Qi (fun (r_ : Int32) (u : Unit) => r_ = r) (fun (u : Unit) t => at_ (dC, dI) (va_A (wV M Y G S) sz) (wV M Y G S') (tV M) t) (va_A (wV M Y G S) sz)) 0 0 (va_A (wV M Y G S) sz) := by
  refine Met.ofW (cc := cb_Rd_bitsFit) (maxL := 5) (ret := (some .boolean)) (by decide) rfl ?_
  intro p e s m args below meth c s₁ B hml hv
  obtain ⟨rfl, hsz, ⟨hP, hK, hD0⟩, hE⟩ := hv
  have hx := B.exec
  have hb := B.bytes
  have hr := B.returns
  have hts0 := atoms_spec (ws := .code y_Rd_bitsFit cb_Rd_bitsFit 5 (some .boolean) :: V_Vq) B.pre
  have hts : ∀ w ∈ V_Vq, w.before ([.ref M.o_Rd, .int p0, .int p1] : List Value).toArray s = true := fun w h => hts0 w (List.mem_cons_of_mem _ h)
  have hown : s.vm.findClass R_Rd = some m.cls := findClass_of_methodNamed B.named
  subst hsz
  have hD := hD0.self (sz := s.heap.size)
  generalize hAe : va_A (wV M Y G S) s.heap.size = A at hD hE ⊢
  have hA : ∀ q : Nat, s.heap.size ≤ q → A q := fun q h => by rw [← hAe]; exact Or.inr h
  have hS : va_S A s.heap s.heap [] := va_S.rf
  have hP : va_P (dC, dI) classes (wV M Y G S) s.heap := hP
  have hK : va_K (dC, dI) classes (tV M) s := hK
  have hEw : ∀ (H : Heap) (locs : List Loc), va_S A s.heap H locs → ∀ U : State, U.heap = H → s.WarmedH U.vm → E A U := fun H locs hS U hU hW => X.kept A s U H locs hE hS hU hW
  have hl := lv_entry ([.ref M.o_Rd, .int p0, .int p1]) (n := 5) (Nat.le_of_ble_eq_true rfl)
  rw [lg_entry_eq]
  generalize (lg_sl ([.ref M.o_Rd, .int p0, .int p1]) ++ List.replicate (5 - (lg_sl ([.ref M.o_Rd, .int p0, .int p1])).length) Slot.unset).toArray = ls at hl ⊢
  have hl : lv_has ls 5 [(0, .ref M.o_Rd), (1, .int p0), (2, .int p1)] := hl
  refine qabs (fun Q hQ => ?_)
  have hB_42 : ∀ (S : CS) (H : Heap) (locs : List Loc) (ls : Array Slot), f_Rd_bitsFit_42 K G S = some (r, S') → va_P (dC, dI) classes (wV M Y G S) H → va_D A (wV M Y G S) → va_S A s.heap H locs → lv_has ls 5 [] → W p l e ({ frames := 2, cells := 0, slots := 0, locals := 42 }) s m ([.ref M.o_Rd, .int p0, .int p1] : List Value).toArray below meth c H locs 0 0 Q (F0 m 42 ls []) := by
    intro S H locs ls h hP hD hS hl
    rw [f_Rd_bitsFit_42] at h
    refine lv_iconst (v := 0) hx hb d_Rd_bitsFit_42 (by decide) ?_
    rw [hQ]
    have e1 : (0 : Int32) = r := congrArg Prod.fst (Option.some.inj h)
    have e2 : S = S' := congrArg Prod.snd (Option.some.inj h)
    have hP := ly_newP e2.symm hP
    have hD := ly_newD e2.symm hD
    exact W.zret (v := 0) hx hb hr rfl (fun t ht hW => ⟨⟨0, (), rfl, e1, by rw [ht]; exact hP, va_K.moved hW.alike hK, hD⟩, hS.F ht⟩) hS.2.2 d_Rd_bitsFit_43
  have hB_81 : ∀ (S : CS) (H : Heap) (locs : List Loc) (ls : Array Slot), f_Rd_bitsFit_81 K G S = some (r, S') → va_P (dC, dI) classes (wV M Y G S) H → va_D A (wV M Y G S) → va_S A s.heap H locs → lv_has ls 5 [] → W p l e ({ frames := 2, cells := 0, slots := 0, locals := 42 }) s m ([.ref M.o_Rd, .int p0, .int p1] : List Value).toArray below meth c H locs 0 0 Q (F0 m 81 ls []) := by
    intro S H locs ls h hP hD hS hl
    rw [f_Rd_bitsFit_81] at h
    refine lv_iconst (v := 1) hx hb d_Rd_bitsFit_81 (by decide) ?_
    refine lv_goto (tgt := 86) hx hb d_Rd_bitsFit_82 (by decide) ?_
    rw [hQ]
    have e1 : (1 : Int32) = r := congrArg Prod.fst (Option.some.inj h)
    have e2 : S = S' := congrArg Prod.snd (Option.some.inj h)
    have hP := ly_newP e2.symm hP
    have hD := ly_newD e2.symm hD
    exact W.zret (v := 1) hx hb hr rfl (fun t ht hW => ⟨⟨1, (), rfl, e1, by rw [ht]; exact hP, va_K.moved hW.alike hK, hD⟩, hS.F ht⟩) hS.2.2 d_Rd_bitsFit_86
  have hB_67 : ∀ (y_1 : Int32) (S : CS) (H : Heap) (locs : List Loc) (ls : Array Slot), f_Rd_bitsFit_67 K G y_1 S = some (r, S') → va_P (dC, dI) classes (wV M Y G S) H → va_D A (wV M Y G S) → va_S A s.heap H locs → lv_has ls 5 [(0, .ref M.o_Rd), (1, .int y_1)] → W p l e ({ frames := 2, cells := 0, slots := 0, locals := 42 }) s m ([.ref M.o_Rd, .int p0, .int p1] : List Value).toArray below meth c H locs 0 0 Q (F0 m 67 ls []) := by
    intro y_1 S H locs ls h hP hD hS hl
    rw [f_Rd_bitsFit_67] at h
    refine lv_aload_n hx hb d_Rd_bitsFit_67 rfl (lv_at hl 0 rfl) ?_
    refine va_get (D := (dC, dI)) (ci := 7) (v := .ref M.o_Dk) (C := R_Rd) (T := F_Rd) (N := 10) hx hb hts (fun w h => u_Vq_Rd w (i_Rd w h)) hown hK hP 5 rfl rfl 0 (by decide) (hts _ (u_Vq_Rd _ k_Rd_10)) (fun _ h9 => h9) rfl d_Rd_bitsFit_68 ?_
    refine lv_iload_n hx hb d_Rd_bitsFit_71 rfl (lv_at hl 1 rfl) ?_
    refine lv_bipush (v := 28) hx hb d_Rd_bitsFit_72 (by decide) ?_
    refine lv_iadd hx hb d_Rd_bitsFit_74 ?_
    obtain ⟨r_11, S_11, hc_11, h⟩ := lf_cE h
    have hFc := lx_free hD hS hA
    refine va_calli (va_runV (As := [.int (y_1 + 28)]) (rest := []) ⟨hx, hb, hml, hown, hts⟩ (l_Dk_four l dC dI X _ hc_11) (cwV 1 hts (gwV good_Vq (u_Vq_Rd _ k_Rd_62) (u_Vq_Dk _ k_Dk_14) (u_Vq_Dk _ k_Dk_15) (u_Vq_Dk _ k_Dk_0) (wcs (u_Vq_Dk _ k_Dk_16) (fun _ h => h))) rfl rfl rfl (by decide +kernel) ⟨Nat.le_of_ble_eq_true rfl, Nat.le_of_ble_eq_true rfl⟩) (pv_ofE (X.same _) (fun U z1 z2 => X.mono _ _ U hFc (hEw _ _ hS U z1 z2)) hP hK hD (va_recv hK hP (ci := 0) (q0 := 1) rfl rfl)) rfl rfl hl.1 rfl (lv_room (Nat.le_of_ble_eq_true rfl)) d_Rd_bitsFit_75 ⟨by decide, by decide⟩) hS (fun q _ h => hFc q h) hFc (fun r_ u t H locs ht hvm hw hB hz1 hk1 hS => ?_)
    rw [hw]
    obtain ⟨hP, -, hD⟩ := hB
    rw [ht] at hP
    have hD := lx_dj hD hFc
    refine lv_if_ne (tgt := 85) hx hb d_Rd_bitsFit_78 (by decide) (fun c_12 => ?_) (fun c_12 => ?_)
    · have h := lf_f h c_12
      refine lv_iconst (v := 0) hx hb d_Rd_bitsFit_85 (by decide) ?_
      rw [hQ]
      have e1 : (0 : Int32) = r := congrArg Prod.fst (Option.some.inj h)
      have e2 : S_11 = S' := congrArg Prod.snd (Option.some.inj h)
      have hP := ly_newP e2.symm hP
      have hD := ly_newD e2.symm hD
      exact W.zret (v := 0) hx hb hr rfl (fun t ht hW => ⟨⟨0, (), rfl, e1, by rw [ht]; exact hP, va_K.moved hW.alike hK, hD⟩, hS.F ht⟩) hS.2.2 d_Rd_bitsFit_86
    · have h := lf_t h c_12
      exact hB_81 S_11 _ _ _ h hP hD hS (lv_sub hl [] rfl)
  have hB_58 : ∀ (y_1 : Int32) (y_3 : Int32) (y_4 : Int32) (S : CS) (H : Heap) (locs : List Loc) (ls : Array Slot), f_Rd_bitsFit_58 K G y_1 y_3 y_4 S = some (r, S') → va_P (dC, dI) classes (wV M Y G S) H → va_D A (wV M Y G S) → va_S A s.heap H locs → lv_has ls 5 [(0, .ref M.o_Rd), (1, .int y_1), (3, .int y_3), (4, .int y_4)] → W p l e ({ frames := 2, cells := 0, slots := 0, locals := 42 }) s m ([.ref M.o_Rd, .int p0, .int p1] : List Value).toArray below meth c H locs 0 0 Q (F0 m 58 ls []) := by
    intro y_1 y_3 y_4 S H locs ls h hP hD hS hl
    rw [f_Rd_bitsFit_58] at h
    refine lv_iload_n hx hb d_Rd_bitsFit_58 rfl (lv_at hl 2 rfl) ?_
    refine lv_if_ne (tgt := 67) hx hb d_Rd_bitsFit_59 (by decide) (fun c_9 => ?_) (fun c_9 => ?_)
    · have h := lf_f h c_9
      exact hB_67 y_1 S _ _ _ h hP hD hS (lv_sub hl [0, 1] rfl)
    · have h := lf_t h c_9
      refine lv_iload hx hb d_Rd_bitsFit_62 (lv_at hl 3 rfl) ?_
      refine lv_if_eq (tgt := 81) hx hb d_Rd_bitsFit_64 (by decide) (fun c_10 => ?_) (fun c_10 => ?_)
      · have h := lf_t h c_10
        exact hB_81 S _ _ _ h hP hD hS (lv_sub hl [] rfl)
      · have h := lf_f h c_10
        exact hB_67 y_1 S _ _ _ h hP hD hS (lv_sub hl [0, 1] rfl)
  have hB_44 : ∀ (y_1 : Int32) (y_3 : Int32) (y_4 : Int32) (S : CS) (H : Heap) (locs : List Loc) (ls : Array Slot), f_Rd_bitsFit_44 K G y_1 y_3 y_4 S = some (r, S') → va_P (dC, dI) classes (wV M Y G S) H → va_D A (wV M Y G S) → va_S A s.heap H locs → lv_has ls 5 [(0, .ref M.o_Rd), (1, .int y_1), (3, .int y_3), (4, .int y_4)] → W p l e ({ frames := 2, cells := 0, slots := 0, locals := 42 }) s m ([.ref M.o_Rd, .int p0, .int p1] : List Value).toArray below meth c H locs 0 0 Q (F0 m 44 ls []) := by
    intro y_1 y_3 y_4 S H locs ls h hP hD hS hl
    rw [f_Rd_bitsFit_44] at h
    refine lv_iload_n hx hb d_Rd_bitsFit_44 rfl (lv_at hl 2 rfl) ?_
    refine lv_if_eq (tgt := 58) hx hb d_Rd_bitsFit_45 (by decide) (fun c_6 => ?_) (fun c_6 => ?_)
    · have h := lf_t h c_6
      exact hB_58 y_1 y_3 y_4 S _ _ _ h hP hD hS (lv_sub hl [0, 1, 2, 3] rfl)
    · have h := lf_f h c_6
      refine lv_aload_n hx hb d_Rd_bitsFit_48 rfl (lv_at hl 0 rfl) ?_
      refine lv_iload_n hx hb d_Rd_bitsFit_49 rfl (lv_at hl 1 rfl) ?_
      obtain ⟨r_7, S_7, hc_7, h⟩ := lf_cE h
      have hFc := lx_free hD hS hA
      refine va_calli (va_runV (As := [.int y_1]) (rest := []) ⟨hx, hb, hml, hown, hts⟩ (l_Rd_firstCluster l dC dI X _ hc_7) (cwV 1 hts (gwV good_Vq (u_Vq_Rd _ k_Rd_46) (u_Vq_Rd _ k_Rd_47) (u_Vq_Rd _ k_Rd_101) (u_Vq_Rd _ k_Rd_0) (wcs (u_Vq_Rd _ k_Rd_48) (fun _ h => h))) rfl rfl rfl (by decide +kernel) ⟨Nat.le_of_ble_eq_true rfl, Nat.le_of_ble_eq_true rfl⟩) (pv_ofE (X.same _) (fun U z1 z2 => X.mono _ _ U hFc (hEw _ _ hS U z1 z2)) hP hK hD (va_recv hK hP (ci := 7) (q0 := 5) rfl rfl)) rfl rfl hl.1 rfl (lv_room (Nat.le_of_ble_eq_true rfl)) d_Rd_bitsFit_50 ⟨by decide, by decide⟩) hS (fun q _ h => hFc q h) hFc (fun r_ u t H locs ht hvm hw hB hz1 hk1 hS => ?_)
      rw [hw]
      obtain ⟨hP, -, hD⟩ := hB
      rw [ht] at hP
      have hD := lx_dj hD hFc
      refine lv_if_eq (tgt := 58) hx hb d_Rd_bitsFit_53 (by decide) (fun c_8 => ?_) (fun c_8 => ?_)
      · have h := lf_t h c_8
        exact hB_58 y_1 y_3 y_4 S_7 _ _ _ h hP hD hS (lv_sub hl [0, 1, 2, 3] rfl)
      · have h := lf_f h c_8
        refine lv_iconst (v := 0) hx hb d_Rd_bitsFit_56 (by decide) ?_
        rw [hQ]
        have e1 : (0 : Int32) = r := congrArg Prod.fst (Option.some.inj h)
        have e2 : S_7 = S' := congrArg Prod.snd (Option.some.inj h)
        have hP := ly_newP e2.symm hP
        have hD := ly_newD e2.symm hD
        exact W.zret (v := 0) hx hb hr rfl (fun t ht hW => ⟨⟨0, (), rfl, e1, by rw [ht]; exact hP, va_K.moved hW.alike hK, hD⟩, hS.F ht⟩) hS.2.2 d_Rd_bitsFit_57
  have hB_25 : ∀ (y_1 : Int32) (y_2 : Int32) (y_3 : Int32) (z_0 : Int32) (S : CS) (H : Heap) (locs : List Loc) (ls : Array Slot), f_Rd_bitsFit_25 K G y_1 y_2 y_3 z_0 S = some (r, S') → va_P (dC, dI) classes (wV M Y G S) H → va_D A (wV M Y G S) → va_S A s.heap H locs → lv_has ls 5 [(0, .ref M.o_Rd), (1, .int y_1), (2, .int y_2), (3, .int y_3)] → W p l e ({ frames := 2, cells := 0, slots := 0, locals := 42 }) s m ([.ref M.o_Rd, .int p0, .int p1] : List Value).toArray below meth c H locs 0 0 Q (F0 m 25 ls [.int z_0]) := by
    intro y_1 y_2 y_3 z_0 S H locs ls h hP hD hS hl
    rw [f_Rd_bitsFit_25] at h
    refine lv_istore (lv' := [(4, .int z_0), (0, .ref M.o_Rd), (1, .int y_1), (2, .int y_2), (3, .int y_3)]) hx hb d_Rd_bitsFit_25 hl (by decide) rfl (fun ls hl => ?_)
    refine lv_iload_n hx hb d_Rd_bitsFit_27 rfl (lv_at hl 3 rfl) ?_
    refine lv_bipush (v := 63) hx hb d_Rd_bitsFit_28 (by decide) ?_
    refine lv_icmp_gt (tgt := 42) hx hb d_Rd_bitsFit_30 (by decide) (fun c_3 => ?_) (fun c_3 => ?_)
    · have h := lf_t h c_3
      exact hB_42 S _ _ _ h hP hD hS (lv_sub hl [] rfl)
    · have h := lf_f h c_3
      refine lv_iload_n hx hb d_Rd_bitsFit_33 rfl (lv_at hl 4 rfl) ?_
      refine lv_if_eq (tgt := 44) hx hb d_Rd_bitsFit_34 (by decide) (fun c_4 => ?_) (fun c_4 => ?_)
      · have h := lf_t h c_4
        exact hB_44 y_1 y_3 z_0 S _ _ _ h hP hD hS (lv_sub hl [1, 2, 4, 0] rfl)
      · have h := lf_f h c_4
        refine lv_iload hx hb d_Rd_bitsFit_37 (lv_at hl 0 rfl) ?_
        refine lv_if_eq (tgt := 44) hx hb d_Rd_bitsFit_39 (by decide) (fun c_5 => ?_) (fun c_5 => ?_)
        · have h := lf_t h c_5
          exact hB_44 y_1 y_3 z_0 S _ _ _ h hP hD hS (lv_sub hl [1, 2, 4, 0] rfl)
        · have h := lf_f h c_5
          exact hB_42 S _ _ _ h hP hD hS (lv_sub hl [] rfl)
  have hB_12 : ∀ (y_1 : Int32) (y_2 : Int32) (z_0 : Int32) (S : CS) (H : Heap) (locs : List Loc) (ls : Array Slot), f_Rd_bitsFit_12 K G y_1 y_2 z_0 S = some (r, S') → va_P (dC, dI) classes (wV M Y G S) H → va_D A (wV M Y G S) → va_S A s.heap H locs → lv_has ls 5 [(0, .ref M.o_Rd), (1, .int y_1), (2, .int y_2)] → W p l e ({ frames := 2, cells := 0, slots := 0, locals := 42 }) s m ([.ref M.o_Rd, .int p0, .int p1] : List Value).toArray below meth c H locs 0 0 Q (F0 m 12 ls [.int z_0]) := by
    intro y_1 y_2 z_0 S H locs ls h hP hD hS hl
    rw [f_Rd_bitsFit_12] at h
    refine lv_istore_n (lv' := [(3, .int z_0), (0, .ref M.o_Rd), (1, .int y_1), (2, .int y_2)]) hx hb d_Rd_bitsFit_12 rfl hl (by decide) rfl (fun ls hl => ?_)
    refine lv_iload_n hx hb d_Rd_bitsFit_13 rfl (lv_at hl 3 rfl) ?_
    refine lv_bipush (v := 16) hx hb d_Rd_bitsFit_14 (by decide) ?_
    refine lv_iand hx hb d_Rd_bitsFit_16 ?_
    refine lv_if_eq (tgt := 24) hx hb d_Rd_bitsFit_17 (by decide) (fun c_2 => ?_) (fun c_2 => ?_)
    · have h := lf_t h c_2
      refine lv_iconst (v := 0) hx hb d_Rd_bitsFit_24 (by decide) ?_
      exact hB_25 y_1 y_2 z_0 0 S _ _ _ h hP hD hS (lv_sub hl [1, 2, 3, 0] rfl)
    · have h := lf_f h c_2
      refine lv_iconst (v := 1) hx hb d_Rd_bitsFit_20 (by decide) ?_
      refine lv_goto (tgt := 25) hx hb d_Rd_bitsFit_21 (by decide) ?_
      exact hB_25 y_1 y_2 z_0 1 S _ _ _ h hP hD hS (lv_sub hl [1, 2, 3, 0] rfl)
  rw [f_Rd_bitsFit] at h
  refine lv_iload_n hx hb d_Rd_bitsFit_0 rfl (lv_at hl 2 rfl) ?_
  refine lv_bipush (v := 8) hx hb d_Rd_bitsFit_1 (by decide) ?_
  refine lv_iand hx hb d_Rd_bitsFit_3 ?_
  refine lv_if_eq (tgt := 11) hx hb d_Rd_bitsFit_4 (by decide) (fun c_1 => ?_) (fun c_1 => ?_)
  · have h := lf_t h c_1
    refine lv_iconst (v := 0) hx hb d_Rd_bitsFit_11 (by decide) ?_
    exact hB_12 p0 p1 0 S _ _ _ h hP hD hS (lv_sub hl [0, 1, 2] rfl)
  · have h := lf_f h c_1
    refine lv_iconst (v := 1) hx hb d_Rd_bitsFit_7 (by decide) ?_
    refine lv_goto (tgt := 12) hx hb d_Rd_bitsFit_8 (by decide) ?_
    exact hB_12 p0 p1 1 S _ _ _ h hP hD hS (lv_sub hl [0, 1, 2] rfl)
set_option maxHeartbeats 4000000 in
set_option maxRecDepth 100000 in
theorem l_Wo_isName_Rdunits (l : Launch) (dC : Nat → ClassId) (dI : Nat → Nat → Nat) {K : Nat} {M : CA} {E : (Nat → Prop) → State → Prop} (X : ly_X l dC dI K M E) (sz : Nat) {Y : CT} {G : CG} {S S' : CS} {p1 : Int32} {r : Int32} (h : f_Wo_isName_Rdunits K G S p1 = some (r, S')) : Met l y_Wo_isName (.code y_Wo_isName b_Wo_isName 3 (some .boolean) :: V_Vq) ({ frames := 1, cells := 0, slots := 0, locals := 21 }) (va_Pc [.ref M.a_Rd_units, .int p1] (fun U => U.heap.size = sz ∧ at_ (dC, dI) (fun _ => True) (wV M Y G S) (tV M) U ∧ E (va_A (wV M Y G S) sz) U)) (va_Qi (fun (r_ : Int32) (u : Unit) => r_ = r) (fun (u : Unit) t => at_ (dC, dI) (va_A (wV M Y G S) sz) (wV M Y G S') (tV M) t) (va_A (wV M Y G S) sz)) 0 0 (va_A (wV M Y G S) sz) := by
  refine Met.ofW (cc := b_Wo_isName) (maxL := 3) (ret := (some .boolean)) (by decide) rfl ?_
  intro p e s m args below meth c s₁ B hml hv
  obtain ⟨rfl, hsz, ⟨hP, hK, hD0⟩, hE⟩ := hv
  have hx := B.exec
  have hb := B.bytes
  have hr := B.returns
  have hts0 := atoms_spec (ws := .code y_Wo_isName b_Wo_isName 3 (some .boolean) :: V_Vq) B.pre
  have hts : ∀ w ∈ V_Vq, w.before ([.ref M.a_Rd_units, .int p1] : List Value).toArray s = true := fun w h => hts0 w (List.mem_cons_of_mem _ h)
  have hown : s.vm.findClass R_Wo = some m.cls := findClass_of_methodNamed B.named
  subst hsz
  have hD := hD0.self (sz := s.heap.size)
  generalize hAe : va_A (wV M Y G S) s.heap.size = A at hD hE ⊢
  have hA : ∀ q : Nat, s.heap.size ≤ q → A q := fun q h => by rw [← hAe]; exact Or.inr h
  have hS : va_S A s.heap s.heap [] := va_S.rf
  have hP : va_P (dC, dI) classes (wV M Y G S) s.heap := hP
  have hK : va_K (dC, dI) classes (tV M) s := hK
  have hEw : ∀ (H : Heap) (locs : List Loc), va_S A s.heap H locs → ∀ U : State, U.heap = H → s.WarmedH U.vm → E A U := fun H locs hS U hU hW => X.kept A s U H locs hE hS hU hW
  have hl := lv_entry ([.ref M.a_Rd_units, .int p1]) (n := 3) (Nat.le_of_ble_eq_true rfl)
  rw [lg_entry_eq]
  generalize (lg_sl ([.ref M.a_Rd_units, .int p1]) ++ List.replicate (3 - (lg_sl ([.ref M.a_Rd_units, .int p1])).length) Slot.unset).toArray = ls at hl ⊢
  have hl : lv_has ls 3 [(0, .ref M.a_Rd_units), (1, .int p1)] := hl
  refine qabs (fun Q hQ => ?_)
  have hB_18 : ∀ (S : CS) (H : Heap) (locs : List Loc) (ls : Array Slot), f_Wo_isName_Rdunits_18 K G S = some (r, S') → va_P (dC, dI) classes (wV M Y G S) H → va_D A (wV M Y G S) → va_S A s.heap H locs → lv_has ls 3 [] → W p l e ({ frames := 1, cells := 0, slots := 0, locals := 21 }) s m ([.ref M.a_Rd_units, .int p1] : List Value).toArray below meth c H locs 0 0 Q (F0 m 18 ls []) := by
    intro S H locs ls h hP hD hS hl
    rw [f_Wo_isName_Rdunits_18] at h
    refine lv_iconst (v := 0) hx hb d_Wo_isName_18 (by decide) ?_
    rw [hQ]
    have e1 : (0 : Int32) = r := congrArg Prod.fst (Option.some.inj h)
    have e2 : S = S' := congrArg Prod.snd (Option.some.inj h)
    have hP := ly_newP e2.symm hP
    have hD := ly_newD e2.symm hD
    exact W.zret (v := 0) hx hb hr rfl (fun t ht hW => ⟨⟨0, (), rfl, e1, by rw [ht]; exact hP, va_K.moved hW.alike hK, hD⟩, hS.F ht⟩) hS.2.2 d_Wo_isName_19
  have hB_68 : ∀ (S : CS) (H : Heap) (locs : List Loc) (ls : Array Slot), f_Wo_isName_Rdunits_68 K G S = some (r, S') → va_P (dC, dI) classes (wV M Y G S) H → va_D A (wV M Y G S) → va_S A s.heap H locs → lv_has ls 3 [] → W p l e ({ frames := 1, cells := 0, slots := 0, locals := 21 }) s m ([.ref M.a_Rd_units, .int p1] : List Value).toArray below meth c H locs 0 0 Q (F0 m 68 ls []) := by
    intro S H locs ls h hP hD hS hl
    rw [f_Wo_isName_Rdunits_68] at h
    refine lv_iconst (v := 0) hx hb d_Wo_isName_68 (by decide) ?_
    rw [hQ]
    have e1 : (0 : Int32) = r := congrArg Prod.fst (Option.some.inj h)
    have e2 : S = S' := congrArg Prod.snd (Option.some.inj h)
    have hP := ly_newP e2.symm hP
    have hD := ly_newD e2.symm hD
    exact W.zret (v := 0) hx hb hr rfl (fun t ht hW => ⟨⟨0, (), rfl, e1, by rw [ht]; exact hP, va_K.moved hW.alike hK, hD⟩, hS.F ht⟩) hS.2.2 d_Wo_isName_69
  have hB_22 : ∀ (k : Nat), ∀ (y_1 : Int32) (y_2 : Int32) (S : CS) (H : Heap) (locs : List Loc) (ls : Array Slot), f_Wo_isName_Rdunits_22 K G k y_1 y_2 S = some (r, S') → va_P (dC, dI) classes (wV M Y G S) H → va_D A (wV M Y G S) → va_S A s.heap H locs → lv_has ls 3 [(0, .ref M.a_Rd_units), (1, .int y_1), (2, .int y_2)] → W p l e ({ frames := 1, cells := 0, slots := 0, locals := 21 }) s m ([.ref M.a_Rd_units, .int p1] : List Value).toArray below meth c H locs 0 0 Q (F0 m 22 ls []) := by
    intro k
    induction k with
    | zero => intro y_1 y_2 S H locs ls h; exact lf_no h
    | succ k hr_22 =>
      intro y_1 y_2 S H locs ls h hP hD hS hl
      rw [f_Wo_isName_Rdunits_22] at h
      refine lv_iload_n hx hb d_Wo_isName_22 rfl (lv_at hl 2 rfl) ?_
      refine lv_iload_n hx hb d_Wo_isName_23 rfl (lv_at hl 1 rfl) ?_
      refine lv_icmp_ge (tgt := 44) hx hb d_Wo_isName_24 (by decide) (fun c_4 => ?_) (fun c_4 => ?_)
      · have h := lf_t h c_4
        refine lv_aload_n hx hb d_Wo_isName_44 rfl (lv_at hl 0 rfl) ?_
        refine lv_iload_n hx hb d_Wo_isName_45 rfl (lv_at hl 1 rfl) ?_
        refine lv_iconst (v := 1) hx hb d_Wo_isName_46 (by decide) ?_
        refine lv_isub hx hb d_Wo_isName_47 ?_
        obtain ⟨g_5, h⟩ := lf_gE h
        refine va_iald hx hb hK hP 35 2 rfl rfl g_5 d_Wo_isName_48 ?_
        refine lv_bipush (v := 32) hx hb d_Wo_isName_49 (by decide) ?_
        refine lv_icmp_eq (tgt := 68) hx hb d_Wo_isName_51 (by decide) (fun c_6 => ?_) (fun c_6 => ?_)
        · have h := lf_t h c_6
          exact hB_68 S _ _ _ h hP hD hS (lv_sub hl [] rfl)
        · have h := lf_f h c_6
          refine lv_aload_n hx hb d_Wo_isName_54 rfl (lv_at hl 0 rfl) ?_
          refine lv_iload_n hx hb d_Wo_isName_55 rfl (lv_at hl 1 rfl) ?_
          refine lv_iconst (v := 1) hx hb d_Wo_isName_56 (by decide) ?_
          refine lv_isub hx hb d_Wo_isName_57 ?_
          obtain ⟨g_7, h⟩ := lf_gE h
          refine va_iald hx hb hK hP 35 2 rfl rfl g_7 d_Wo_isName_58 ?_
          refine lv_bipush (v := 46) hx hb d_Wo_isName_59 (by decide) ?_
          refine lv_icmp_eq (tgt := 68) hx hb d_Wo_isName_61 (by decide) (fun c_8 => ?_) (fun c_8 => ?_)
          · have h := lf_t h c_8
            exact hB_68 S _ _ _ h hP hD hS (lv_sub hl [] rfl)
          · have h := lf_f h c_8
            refine lv_iconst (v := 1) hx hb d_Wo_isName_64 (by decide) ?_
            refine lv_goto (tgt := 69) hx hb d_Wo_isName_65 (by decide) ?_
            rw [hQ]
            have e1 : (1 : Int32) = r := congrArg Prod.fst (Option.some.inj h)
            have e2 : S = S' := congrArg Prod.snd (Option.some.inj h)
            have hP := ly_newP e2.symm hP
            have hD := ly_newD e2.symm hD
            exact W.zret (v := 1) hx hb hr rfl (fun t ht hW => ⟨⟨1, (), rfl, e1, by rw [ht]; exact hP, va_K.moved hW.alike hK, hD⟩, hS.F ht⟩) hS.2.2 d_Wo_isName_69
      · have h := lf_f h c_4
        refine lv_aload_n hx hb d_Wo_isName_27 rfl (lv_at hl 0 rfl) ?_
        refine lv_iload_n hx hb d_Wo_isName_28 rfl (lv_at hl 2 rfl) ?_
        obtain ⟨g_9, h⟩ := lf_gE h
        refine va_iald hx hb hK hP 35 2 rfl rfl g_9 d_Wo_isName_29 ?_
        obtain ⟨r_10, hc_10, h⟩ := lf_bE h
        have hFc := lx_free0 hS hA
        refine va_calli (va_runS (As := [.int (S.w_Rd_units y_2.toNatClampNeg)]) (rest := []) ⟨hx, hb, hml, hown, hts⟩ (l_Wo_mayBeUnit l dC dI  _ hc_10) (va_cwS 1 hts (gwS good_Vq (u_Vq_Wo _ k_Wo_11) (u_Vq_Wo _ k_Wo_12) (u_Vq_Wo _ k_Wo_0) (wcs (u_Vq_Wo _ k_Wo_13) (fun _ h => h))) rfl rfl rfl (by decide +kernel) ⟨Nat.le_of_ble_eq_true rfl, Nat.le_of_ble_eq_true rfl⟩) (ps_of (W := []) (tys := []) (hP.sub (ws' := []) [] rfl) (hK.sub [] rfl) (hD.sub (ws' := []) [] (by decide) rfl)) rfl rfl hl.1 rfl (lv_room (Nat.le_of_ble_eq_true rfl)) d_Wo_isName_30 ⟨by decide, by decide⟩) hS (fun q _ h => hFc q h) hFc (fun r_ u t H locs ht hvm hw hB hz1 hk1 hS => ?_)
        rw [hw]
        have hP := lx_stat (A := A) hP hk1
        refine lv_if_ne (tgt := 38) hx hb d_Wo_isName_33 (by decide) (fun c_11 => ?_) (fun c_11 => ?_)
        · have h := lf_f h c_11
          obtain ⟨x_12, ex_12, h⟩ := lf_lX h
          refine lv_iinc (v := x_12) (lv' := [(2, .int x_12), (0, .ref M.a_Rd_units), (1, .int y_1)]) hx hb d_Wo_isName_38 hl (k := 2) rfl (by rw [ex_12]; rfl) (by decide) rfl (fun ls hl => ?_)
          refine lv_goto (tgt := 22) hx hb d_Wo_isName_41 (by decide) ?_
          exact hr_22 y_1 x_12 S _ _ _ h hP hD hS (lv_sub hl [1, 2, 0] rfl)
        · have h := lf_t h c_11
          refine lv_iconst (v := 0) hx hb d_Wo_isName_36 (by decide) ?_
          rw [hQ]
          have e1 : (0 : Int32) = r := congrArg Prod.fst (Option.some.inj h)
          have e2 : S = S' := congrArg Prod.snd (Option.some.inj h)
          have hP := ly_newP e2.symm hP
          have hD := ly_newD e2.symm hD
          exact W.zret (v := 0) hx hb hr rfl (fun t ht hW => ⟨⟨0, (), rfl, e1, by rw [ht]; exact hP, va_K.moved hW.alike hK, hD⟩, hS.F ht⟩) hS.2.2 d_Wo_isName_37
  rw [f_Wo_isName_Rdunits] at h
  refine lv_iload_n hx hb d_Wo_isName_0 rfl (lv_at hl 1 rfl) ?_
  refine lv_iconst (v := 1) hx hb d_Wo_isName_1 (by decide) ?_
  refine lv_icmp_lt (tgt := 18) hx hb d_Wo_isName_2 (by decide) (fun c_1 => ?_) (fun c_1 => ?_)
  · have h := lf_t h c_1
    exact hB_18 S _ _ _ h hP hD hS (lv_sub hl [] rfl)
  · have h := lf_f h c_1
    refine lv_iload_n hx hb d_Wo_isName_5 rfl (lv_at hl 1 rfl) ?_
    refine lv_sipush (v := 255) hx hb d_Wo_isName_6 (by decide) ?_
    refine lv_icmp_gt (tgt := 18) hx hb d_Wo_isName_9 (by decide) (fun c_2 => ?_) (fun c_2 => ?_)
    · have h := lf_t h c_2
      exact hB_18 S _ _ _ h hP hD hS (lv_sub hl [] rfl)
    · have h := lf_f h c_2
      refine lv_iload_n hx hb d_Wo_isName_12 rfl (lv_at hl 1 rfl) ?_
      refine lv_aload_n hx hb d_Wo_isName_13 rfl (lv_at hl 0 rfl) ?_
      refine va_alen (v := 260) hx hb hK hP 35 2 rfl rfl rfl d_Wo_isName_14 ?_
      refine lv_icmp_le (tgt := 20) hx hb d_Wo_isName_15 (by decide) (fun c_3 => ?_) (fun c_3 => ?_)
      · have h := lf_t h c_3
        refine lv_iconst (v := 0) hx hb d_Wo_isName_20 (by decide) ?_
        refine lv_istore_n (lv' := [(2, .int 0), (0, .ref M.a_Rd_units), (1, .int p1)]) hx hb d_Wo_isName_21 rfl hl (by decide) rfl (fun ls hl => ?_)
        exact hB_22 K p1 0 S _ _ _ h hP hD hS (lv_sub hl [1, 2, 0] rfl)
      · have h := lf_f h c_3
        exact hB_18 S _ _ _ h hP hD hS (lv_sub hl [] rfl)
set_option maxHeartbeats 4000000 in
set_option maxRecDepth 100000 in
theorem l_Rd_closeParts (l : Launch) (dC : Nat → ClassId) (dI : Nat → Nat → Nat) {K : Nat} {M : CA} {E : (Nat → Prop) → State → Prop} (X : ly_X l dC dI K M E) (sz : Nat) {Y : CT} {G : CG} {S S' : CS} {p0 : Int32} {r : Int32} (h : f_Rd_closeParts K G S p0 = some (r, S')) : Met l y_Rd_closeParts (.code y_Rd_closeParts cb_Rd_closeParts 5 (some .int) :: V_Vq) ({ frames := 2, cells := 0, slots := 0, locals := 44 }) (va_Pc [.ref M.o_Rd, .int p0] (fun U => U.heap.size = sz ∧ at_ (dC, dI) (fun _ => True) (wV M Y G S) (tV M) U ∧ E (va_A (wV M Y G S) sz) U)) (va_Qi (fun (r_ : Int32) (u : Unit) => r_ = r) (fun (u : Unit) t => at_ (dC, dI) (va_A (wV M Y G S) sz) (wV M Y G S') (tV M) t) (va_A (wV M Y G S) sz)) 0 0 (va_A (wV M Y G S) sz) := by
  refine Met.ofW (cc := cb_Rd_closeParts) (maxL := 5) (ret := (some .int)) (by decide) rfl ?_
  intro p e s m args below meth c s₁ B hml hv
  obtain ⟨rfl, hsz, ⟨hP, hK, hD0⟩, hE⟩ := hv
  have hx := B.exec
  have hb := B.bytes
  have hr := B.returns
  have hts0 := atoms_spec (ws := .code y_Rd_closeParts cb_Rd_closeParts 5 (some .int) :: V_Vq) B.pre
  have hts : ∀ w ∈ V_Vq, w.before ([.ref M.o_Rd, .int p0] : List Value).toArray s = true := fun w h => hts0 w (List.mem_cons_of_mem _ h)
  have hown : s.vm.findClass R_Rd = some m.cls := findClass_of_methodNamed B.named
  subst hsz
  have hD := hD0.self (sz := s.heap.size)
  generalize hAe : va_A (wV M Y G S) s.heap.size = A at hD hE ⊢
  have hA : ∀ q : Nat, s.heap.size ≤ q → A q := fun q h => by rw [← hAe]; exact Or.inr h
  have hS : va_S A s.heap s.heap [] := va_S.rf
  have hP : va_P (dC, dI) classes (wV M Y G S) s.heap := hP
  have hK : va_K (dC, dI) classes (tV M) s := hK
  have hEw : ∀ (H : Heap) (locs : List Loc), va_S A s.heap H locs → ∀ U : State, U.heap = H → s.WarmedH U.vm → E A U := fun H locs hS U hU hW => X.kept A s U H locs hE hS hU hW
  have hl := lv_entry ([.ref M.o_Rd, .int p0]) (n := 5) (Nat.le_of_ble_eq_true rfl)
  rw [lg_entry_eq]
  generalize (lg_sl ([.ref M.o_Rd, .int p0]) ++ List.replicate (5 - (lg_sl ([.ref M.o_Rd, .int p0])).length) Slot.unset).toArray = ls at hl ⊢
  have hl : lv_has ls 5 [(0, .ref M.o_Rd), (1, .int p0)] := hl
  refine qabs (fun Q hQ => ?_)
  have hB_39 : ∀ (S : CS) (H : Heap) (locs : List Loc) (ls : Array Slot), f_Rd_closeParts_39 K G S = some (r, S') → va_P (dC, dI) classes (wV M Y G S) H → va_D A (wV M Y G S) → va_S A s.heap H locs → lv_has ls 5 [] → W p l e ({ frames := 2, cells := 0, slots := 0, locals := 44 }) s m ([.ref M.o_Rd, .int p0] : List Value).toArray below meth c H locs 0 0 Q (F0 m 39 ls []) := by
    intro S H locs ls h hP hD hS hl
    rw [f_Rd_closeParts_39] at h
    refine lv_iconst (v := 0) hx hb d_Rd_closeParts_39 (by decide) ?_
    rw [hQ]
    have e1 : (0 : Int32) = r := congrArg Prod.fst (Option.some.inj h)
    have e2 : S = S' := congrArg Prod.snd (Option.some.inj h)
    have hP := ly_newP e2.symm hP
    have hD := ly_newD e2.symm hD
    exact W.iret (v := 0) hx hb hr (fun t ht hW => ⟨⟨0, (), rfl, e1, by rw [ht]; exact hP, va_K.moved hW.alike hK, hD⟩, hS.F ht⟩) hS.2.2 d_Rd_closeParts_40
  have hB_117 : ∀ (S : CS) (H : Heap) (locs : List Loc) (ls : Array Slot), f_Rd_closeParts_117 K G S = some (r, S') → va_P (dC, dI) classes (wV M Y G S) H → va_D A (wV M Y G S) → va_S A s.heap H locs → lv_has ls 5 [] → W p l e ({ frames := 2, cells := 0, slots := 0, locals := 44 }) s m ([.ref M.o_Rd, .int p0] : List Value).toArray below meth c H locs 0 0 Q (F0 m 117 ls []) := by
    intro S H locs ls h hP hD hS hl
    rw [f_Rd_closeParts_117] at h
    refine lv_iconst (v := 0) hx hb d_Rd_closeParts_117 (by decide) ?_
    rw [hQ]
    have e1 : (0 : Int32) = r := congrArg Prod.fst (Option.some.inj h)
    have e2 : S = S' := congrArg Prod.snd (Option.some.inj h)
    have hP := ly_newP e2.symm hP
    have hD := ly_newD e2.symm hD
    exact W.iret (v := 0) hx hb hr (fun t ht hW => ⟨⟨0, (), rfl, e1, by rw [ht]; exact hP, va_K.moved hW.alike hK, hD⟩, hS.F ht⟩) hS.2.2 d_Rd_closeParts_118
  have hB_68 : ∀ (k : Nat), ∀ (y_2 : Int32) (y_3 : Int32) (y_4 : Int32) (S : CS) (H : Heap) (locs : List Loc) (ls : Array Slot), f_Rd_closeParts_68 K G k y_2 y_3 y_4 S = some (r, S') → va_P (dC, dI) classes (wV M Y G S) H → va_D A (wV M Y G S) → va_S A s.heap H locs → lv_has ls 5 [(0, .ref M.o_Rd), (2, .int y_2), (3, .int y_3), (4, .int y_4)] → W p l e ({ frames := 2, cells := 0, slots := 0, locals := 44 }) s m ([.ref M.o_Rd, .int p0] : List Value).toArray below meth c H locs 0 0 Q (F0 m 68 ls []) := by
    intro k
    induction k with
    | zero => intro y_2 y_3 y_4 S H locs ls h; exact lf_no h
    | succ k hr_68 =>
      intro y_2 y_3 y_4 S H locs ls h hP hD hS hl
      rw [f_Rd_closeParts_68] at h
      refine lv_iload hx hb d_Rd_closeParts_68 (lv_at hl 3 rfl) ?_
      refine lv_iload_n hx hb d_Rd_closeParts_70 rfl (lv_at hl 1 rfl) ?_
      refine lv_icmp_ge (tgt := 94) hx hb d_Rd_closeParts_71 (by decide) (fun c_11 => ?_) (fun c_11 => ?_)
      · have h := lf_t h c_11
        refine lv_iload_n hx hb d_Rd_closeParts_94 rfl (lv_at hl 2 rfl) ?_
        refine lv_iload_n hx hb d_Rd_closeParts_95 rfl (lv_at hl 1 rfl) ?_
        refine lv_bipush (v := 13) hx hb d_Rd_closeParts_96 (by decide) ?_
        refine lv_isub hx hb d_Rd_closeParts_98 ?_
        refine lv_icmp_le (tgt := 117) hx hb d_Rd_closeParts_99 (by decide) (fun c_12 => ?_) (fun c_12 => ?_)
        · have h := lf_t h c_12
          exact hB_117 S _ _ _ h hP hD hS (lv_sub hl [] rfl)
        · have h := lf_f h c_12
          refine lv_aload_n hx hb d_Rd_closeParts_102 rfl (lv_at hl 0 rfl) ?_
          refine va_get (D := (dC, dI)) (ci := 7) (v := .ref M.a_Rd_units) (C := R_Rd) (T := F_Rd) (N := 10) hx hb hts (fun w h => u_Vq_Rd w (i_Rd w h)) hown hK hP 5 rfl rfl 6 (by decide) (hts _ (u_Vq_Rd _ k_Rd_16)) (fun _ h9 => h9) rfl d_Rd_closeParts_103 ?_
          refine lv_iload_n hx hb d_Rd_closeParts_106 rfl (lv_at hl 2 rfl) ?_
          obtain ⟨r_13, S_13, hc_13, h⟩ := lf_cE h
          have hFc := lx_free hD hS hA
          refine va_calli (va_runS (As := [.ref M.a_Rd_units, .int y_3]) (rest := []) ⟨hx, hb, hml, hown, hts⟩ (l_Wo_isName_Rdunits l dC dI X _ hc_13) (va_cwS 2 hts (gwS good_Vq (u_Vq_Rd _ k_Rd_73) (u_Vq_Wo _ k_Wo_9) (u_Vq_Wo _ k_Wo_0) (wcs (u_Vq_Wo _ k_Wo_10) (fun _ h => h))) rfl rfl rfl (by decide +kernel) ⟨Nat.le_of_ble_eq_true rfl, Nat.le_of_ble_eq_true rfl⟩) (ps_ofE2 (X.same _) (fun U z1 z2 => X.mono _ _ U hFc (hEw _ _ hS U z1 z2)) hP hK hD) rfl rfl hl.1 rfl (lv_room (Nat.le_of_ble_eq_true rfl)) d_Rd_closeParts_107 ⟨by decide, by decide⟩) hS (fun q _ h => hFc q h) hFc (fun r_ u t H locs ht hvm hw hB hz1 hk1 hS => ?_)
          rw [hw]
          obtain ⟨hP, -, hD⟩ := hB
          rw [ht] at hP
          have hD := lx_dj hD hFc
          refine lv_if_eq (tgt := 117) hx hb d_Rd_closeParts_110 (by decide) (fun c_14 => ?_) (fun c_14 => ?_)
          · have h := lf_t h c_14
            exact hB_117 S_13 _ _ _ h hP hD hS (lv_sub hl [] rfl)
          · have h := lf_f h c_14
            refine lv_iload_n hx hb d_Rd_closeParts_113 rfl (lv_at hl 2 rfl) ?_
            refine lv_goto (tgt := 118) hx hb d_Rd_closeParts_114 (by decide) ?_
            rw [hQ]
            have e1 : y_3 = r := congrArg Prod.fst (Option.some.inj h)
            have e2 : S_13 = S' := congrArg Prod.snd (Option.some.inj h)
            have hP := ly_newP e2.symm hP
            have hD := ly_newD e2.symm hD
            exact W.iret (v := y_3) hx hb hr (fun t ht hW => ⟨⟨y_3, (), rfl, e1, by rw [ht]; exact hP, va_K.moved hW.alike hK, hD⟩, hS.F ht⟩) hS.2.2 d_Rd_closeParts_118
      · have h := lf_f h c_11
        refine lv_aload_n hx hb d_Rd_closeParts_74 rfl (lv_at hl 0 rfl) ?_
        refine va_get (D := (dC, dI)) (ci := 7) (v := .ref M.a_Rd_units) (C := R_Rd) (T := F_Rd) (N := 10) hx hb hts (fun w h => u_Vq_Rd w (i_Rd w h)) hown hK hP 5 rfl rfl 6 (by decide) (hts _ (u_Vq_Rd _ k_Rd_16)) (fun _ h9 => h9) rfl d_Rd_closeParts_75 ?_
        refine lv_iload hx hb d_Rd_closeParts_78 (lv_at hl 3 rfl) ?_
        obtain ⟨g_15, h⟩ := lf_gE h
        refine va_iald hx hb hK hP 35 2 rfl rfl g_15 d_Rd_closeParts_80 ?_
        refine lv_ldc (v := 65535) hx hb hown (hts _ (u_Vq_Rd _ k_Rd_72)) d_Rd_closeParts_81 ?_
        refine lv_icmp_eq (tgt := 88) hx hb d_Rd_closeParts_83 (by decide) (fun c_16 => ?_) (fun c_16 => ?_)
        · have h := lf_t h c_16
          obtain ⟨x_17, ex_17, h⟩ := lf_lX h
          refine lv_iinc (v := x_17) (lv' := [(4, .int x_17), (0, .ref M.o_Rd), (2, .int y_2), (3, .int y_3)]) hx hb d_Rd_closeParts_88 hl (k := 3) rfl (by rw [ex_17]; rfl) (by decide) rfl (fun ls hl => ?_)
          refine lv_goto (tgt := 68) hx hb d_Rd_closeParts_91 (by decide) ?_
          exact hr_68 y_2 y_3 x_17 S _ _ _ h hP hD hS (lv_sub hl [1, 2, 3, 0] rfl)
        · have h := lf_f h c_16
          refine lv_iconst (v := 0) hx hb d_Rd_closeParts_86 (by decide) ?_
          rw [hQ]
          have e1 : (0 : Int32) = r := congrArg Prod.fst (Option.some.inj h)
          have e2 : S = S' := congrArg Prod.snd (Option.some.inj h)
          have hP := ly_newP e2.symm hP
          have hD := ly_newD e2.symm hD
          exact W.iret (v := 0) hx hb hr (fun t ht hW => ⟨⟨0, (), rfl, e1, by rw [ht]; exact hP, va_K.moved hW.alike hK, hD⟩, hS.F ht⟩) hS.2.2 d_Rd_closeParts_87
  have hB_63 : ∀ (y_2 : Int32) (y_3 : Int32) (S : CS) (H : Heap) (locs : List Loc) (ls : Array Slot), f_Rd_closeParts_63 K G y_2 y_3 S = some (r, S') → va_P (dC, dI) classes (wV M Y G S) H → va_D A (wV M Y G S) → va_S A s.heap H locs → lv_has ls 5 [(0, .ref M.o_Rd), (2, .int y_2), (3, .int y_3)] → W p l e ({ frames := 2, cells := 0, slots := 0, locals := 44 }) s m ([.ref M.o_Rd, .int p0] : List Value).toArray below meth c H locs 0 0 Q (F0 m 63 ls []) := by
    intro y_2 y_3 S H locs ls h hP hD hS hl
    rw [f_Rd_closeParts_63] at h
    refine lv_iload_n hx hb d_Rd_closeParts_63 rfl (lv_at hl 2 rfl) ?_
    refine lv_iconst (v := 1) hx hb d_Rd_closeParts_64 (by decide) ?_
    refine lv_iadd hx hb d_Rd_closeParts_65 ?_
    refine lv_topi (fun x_10 ex_10 => ?_)
    have h := lf_lE h ex_10
    refine lv_istore (lv' := [(4, .int x_10), (0, .ref M.o_Rd), (2, .int y_2), (3, .int y_3)]) hx hb d_Rd_closeParts_66 hl (by decide) rfl (fun ls hl => ?_)
    exact hB_68 K y_2 y_3 x_10 S _ _ _ h hP hD hS (lv_sub hl [1, 2, 3, 0] rfl)
  have hB_43 : ∀ (k : Nat), ∀ (y_2 : Int32) (y_3 : Int32) (S : CS) (H : Heap) (locs : List Loc) (ls : Array Slot), f_Rd_closeParts_43 K G k y_2 y_3 S = some (r, S') → va_P (dC, dI) classes (wV M Y G S) H → va_D A (wV M Y G S) → va_S A s.heap H locs → lv_has ls 5 [(0, .ref M.o_Rd), (2, .int y_2), (3, .int y_3)] → W p l e ({ frames := 2, cells := 0, slots := 0, locals := 44 }) s m ([.ref M.o_Rd, .int p0] : List Value).toArray below meth c H locs 0 0 Q (F0 m 43 ls []) := by
    intro k
    induction k with
    | zero => intro y_2 y_3 S H locs ls h; exact lf_no h
    | succ k hr_43 =>
      intro y_2 y_3 S H locs ls h hP hD hS hl
      rw [f_Rd_closeParts_43] at h
      refine lv_iload_n hx hb d_Rd_closeParts_43 rfl (lv_at hl 2 rfl) ?_
      refine lv_iload_n hx hb d_Rd_closeParts_44 rfl (lv_at hl 1 rfl) ?_
      refine lv_icmp_ge (tgt := 63) hx hb d_Rd_closeParts_45 (by decide) (fun c_6 => ?_) (fun c_6 => ?_)
      · have h := lf_t h c_6
        exact hB_63 y_2 y_3 S _ _ _ h hP hD hS (lv_sub hl [0, 1, 2] rfl)
      · have h := lf_f h c_6
        refine lv_aload_n hx hb d_Rd_closeParts_48 rfl (lv_at hl 0 rfl) ?_
        refine va_get (D := (dC, dI)) (ci := 7) (v := .ref M.a_Rd_units) (C := R_Rd) (T := F_Rd) (N := 10) hx hb hts (fun w h => u_Vq_Rd w (i_Rd w h)) hown hK hP 5 rfl rfl 6 (by decide) (hts _ (u_Vq_Rd _ k_Rd_16)) (fun _ h9 => h9) rfl d_Rd_closeParts_49 ?_
        refine lv_iload_n hx hb d_Rd_closeParts_52 rfl (lv_at hl 2 rfl) ?_
        obtain ⟨g_7, h⟩ := lf_gE h
        refine va_iald hx hb hK hP 35 2 rfl rfl g_7 d_Rd_closeParts_53 ?_
        refine lv_if_eq (tgt := 63) hx hb d_Rd_closeParts_54 (by decide) (fun c_8 => ?_) (fun c_8 => ?_)
        · have h := lf_t h c_8
          exact hB_63 y_2 y_3 S _ _ _ h hP hD hS (lv_sub hl [0, 1, 2] rfl)
        · have h := lf_f h c_8
          obtain ⟨x_9, ex_9, h⟩ := lf_lX h
          refine lv_iinc (v := x_9) (lv' := [(3, .int x_9), (0, .ref M.o_Rd), (2, .int y_2)]) hx hb d_Rd_closeParts_57 hl (k := 2) rfl (by rw [ex_9]; rfl) (by decide) rfl (fun ls hl => ?_)
          refine lv_goto (tgt := 43) hx hb d_Rd_closeParts_60 (by decide) ?_
          exact hr_43 y_2 x_9 S _ _ _ h hP hD hS (lv_sub hl [1, 2, 0] rfl)
  rw [f_Rd_closeParts] at h
  refine lv_aload_n hx hb d_Rd_closeParts_0 rfl (lv_at hl 0 rfl) ?_
  refine va_get (D := (dC, dI)) (ci := 7) (v := .int S.v_Rd_parts) (C := R_Rd) (T := F_Rd) (N := 10) hx hb hts (fun w h => u_Vq_Rd w (i_Rd w h)) hown hK hP 5 rfl rfl 7 (by decide) (hts _ (u_Vq_Rd _ k_Rd_17)) (fun _ h9 => h9) rfl d_Rd_closeParts_1 ?_
  refine lv_bipush (v := 13) hx hb d_Rd_closeParts_4 (by decide) ?_
  refine lv_imul hx hb d_Rd_closeParts_6 ?_
  refine lv_topi (fun x_1 ex_1 => ?_)
  have h := lf_lE h ex_1
  refine lv_istore_n (lv' := [(2, .int x_1), (0, .ref M.o_Rd), (1, .int p0)]) hx hb d_Rd_closeParts_7 rfl hl (by decide) rfl (fun ls hl => ?_)
  refine lv_aload_n hx hb d_Rd_closeParts_8 rfl (lv_at hl 1 rfl) ?_
  refine va_get (D := (dC, dI)) (ci := 7) (v := .int S.v_Rd_toCome) (C := R_Rd) (T := F_Rd) (N := 10) hx hb hts (fun w h => u_Vq_Rd w (i_Rd w h)) hown hK hP 5 rfl rfl 8 (by decide) (hts _ (u_Vq_Rd _ k_Rd_18)) (fun _ h9 => h9) rfl d_Rd_closeParts_9 ?_
  refine lv_if_ne (tgt := 39) hx hb d_Rd_closeParts_12 (by decide) (fun c_2 => ?_) (fun c_2 => ?_)
  · have h := lf_f h c_2
    exact hB_39 S _ _ _ h hP hD hS (lv_sub hl [] rfl)
  · have h := lf_t h c_2
    refine lv_aload_n hx hb d_Rd_closeParts_15 rfl (lv_at hl 1 rfl) ?_
    refine va_get (D := (dC, dI)) (ci := 7) (v := .int S.v_Rd_sum) (C := R_Rd) (T := F_Rd) (N := 10) hx hb hts (fun w h => u_Vq_Rd w (i_Rd w h)) hown hK hP 5 rfl rfl 9 (by decide) (hts _ (u_Vq_Rd _ k_Rd_19)) (fun _ h9 => h9) rfl d_Rd_closeParts_16 ?_
    refine lv_aload_n hx hb d_Rd_closeParts_19 rfl (lv_at hl 1 rfl) ?_
    refine va_get (D := (dC, dI)) (ci := 7) (v := .ref M.o_Dk) (C := R_Rd) (T := F_Rd) (N := 10) hx hb hts (fun w h => u_Vq_Rd w (i_Rd w h)) hown hK hP 5 rfl rfl 0 (by decide) (hts _ (u_Vq_Rd _ k_Rd_10)) (fun _ h9 => h9) rfl d_Rd_closeParts_20 ?_
    refine lv_iload_n hx hb d_Rd_closeParts_23 rfl (lv_at hl 2 rfl) ?_
    obtain ⟨r_3, S_3, hc_3, h⟩ := lf_cE h
    have hFc := lx_free hD hS hA
    refine va_calli (va_runS (As := [.ref M.o_Dk, .int p0]) (rest := [.int S.v_Rd_sum]) ⟨hx, hb, hml, hown, hts⟩ (l_Wo_sum l dC dI X _ hc_3) (va_cwS 2 hts (gwS good_Vq (u_Vq_Rd _ k_Rd_71) (u_Vq_Wo _ k_Wo_7) (u_Vq_Wo _ k_Wo_0) (wcs (u_Vq_Wo _ k_Wo_8) (fun _ h => h))) rfl rfl rfl (by decide +kernel) ⟨Nat.le_of_ble_eq_true rfl, Nat.le_of_ble_eq_true rfl⟩) (ps_ofE2 (X.same _) (fun U z1 z2 => X.mono _ _ U hFc (hEw _ _ hS U z1 z2)) hP hK hD) rfl rfl hl.1 rfl (lv_room (Nat.le_of_ble_eq_true rfl)) d_Rd_closeParts_24 ⟨by decide, by decide⟩) hS (fun q _ h => hFc q h) hFc (fun r_ u t H locs ht hvm hw hB hz1 hk1 hS => ?_)
    rw [hw]
    obtain ⟨hP, -, hD⟩ := hB
    rw [ht] at hP
    have hD := lx_dj hD hFc
    refine lv_icmp_ne (tgt := 39) hx hb d_Rd_closeParts_27 (by decide) (fun c_4 => ?_) (fun c_4 => ?_)
    · have h := lf_f h c_4
      exact hB_39 S_3 _ _ _ h hP hD hS (lv_sub hl [] rfl)
    · have h := lf_t h c_4
      refine lv_iload_n hx hb d_Rd_closeParts_30 rfl (lv_at hl 0 rfl) ?_
      refine lv_aload_n hx hb d_Rd_closeParts_31 rfl (lv_at hl 1 rfl) ?_
      refine va_get (D := (dC, dI)) (ci := 7) (v := .ref M.a_Rd_units) (C := R_Rd) (T := F_Rd) (N := 10) hx hb hts (fun w h => u_Vq_Rd w (i_Rd w h)) hown hK hP 5 rfl rfl 6 (by decide) (hts _ (u_Vq_Rd _ k_Rd_16)) (fun _ h9 => h9) rfl d_Rd_closeParts_32 ?_
      refine va_alen (v := 260) hx hb hK hP 35 2 rfl rfl rfl d_Rd_closeParts_35 ?_
      refine lv_icmp_le (tgt := 41) hx hb d_Rd_closeParts_36 (by decide) (fun c_5 => ?_) (fun c_5 => ?_)
      · have h := lf_t h c_5
        refine lv_iconst (v := 0) hx hb d_Rd_closeParts_41 (by decide) ?_
        refine lv_istore_n (lv' := [(3, .int 0), (2, .int x_1), (0, .ref M.o_Rd), (1, .int p0)]) hx hb d_Rd_closeParts_42 rfl hl (by decide) rfl (fun ls hl => ?_)
        exact hB_43 K x_1 0 S_3 _ _ _ h hP hD hS (lv_sub hl [2, 1, 0] rfl)
      · have h := lf_f h c_5
        exact hB_39 S_3 _ _ _ h hP hD hS (lv_sub hl [] rfl)
set_option maxHeartbeats 4000000 in
set_option maxRecDepth 100000 in
theorem l_Rd_showShortName (l : Launch) (dC : Nat → ClassId) (dI : Nat → Nat → Nat) {K : Nat} {M : CA} {E : (Nat → Prop) → State → Prop} (X : ly_X l dC dI K M E) (sz : Nat) {Y : CT} {G : CG} {S S' : CS} {p0 : Int32} {r : Int32} (h : f_Rd_showShortName K G S p0 = some (r, S')) : Met l y_Rd_showShortName (.code y_Rd_showShortName cb_Rd_showShortName 5 (some .int) :: V_Vq) ({ frames := 1, cells := 0, slots := 0, locals := 21 }) (va_Pc [.ref M.o_Rd, .int p0] (fun U => U.heap.size = sz ∧ at_ (dC, dI) (fun _ => True) (wV M Y G S) (tV M) U ∧ E (va_A (wV M Y G S) sz) U)) (va_Qi (fun (r_ : Int32) (u : Unit) => r_ = r) (fun (u : Unit) t => at_ (dC, dI) (va_A (wV M Y G S) sz) (wV M Y G S') (tV M) t) (va_A (wV M Y G S) sz)) 0 0 (va_A (wV M Y G S) sz) := by
  refine Met.ofW (cc := cb_Rd_showShortName) (maxL := 5) (ret := (some .int)) (by decide) rfl ?_
  intro p e s m args below meth c s₁ B hml hv
  obtain ⟨rfl, hsz, ⟨hP, hK, hD0⟩, hE⟩ := hv
  have hx := B.exec
  have hb := B.bytes
  have hr := B.returns
  have hts0 := atoms_spec (ws := .code y_Rd_showShortName cb_Rd_showShortName 5 (some .int) :: V_Vq) B.pre
  have hts : ∀ w ∈ V_Vq, w.before ([.ref M.o_Rd, .int p0] : List Value).toArray s = true := fun w h => hts0 w (List.mem_cons_of_mem _ h)
  have hown : s.vm.findClass R_Rd = some m.cls := findClass_of_methodNamed B.named
  subst hsz
  have hD := hD0.self (sz := s.heap.size)
  generalize hAe : va_A (wV M Y G S) s.heap.size = A at hD hE ⊢
  have hA : ∀ q : Nat, s.heap.size ≤ q → A q := fun q h => by rw [← hAe]; exact Or.inr h
  have hS : va_S A s.heap s.heap [] := va_S.rf
  have hP : va_P (dC, dI) classes (wV M Y G S) s.heap := hP
  have hK : va_K (dC, dI) classes (tV M) s := hK
  have hEw : ∀ (H : Heap) (locs : List Loc), va_S A s.heap H locs → ∀ U : State, U.heap = H → s.WarmedH U.vm → E A U := fun H locs hS U hU hW => X.kept A s U H locs hE hS hU hW
  have hl := lv_entry ([.ref M.o_Rd, .int p0]) (n := 5) (Nat.le_of_ble_eq_true rfl)
  rw [lg_entry_eq]
  generalize (lg_sl ([.ref M.o_Rd, .int p0]) ++ List.replicate (5 - (lg_sl ([.ref M.o_Rd, .int p0])).length) Slot.unset).toArray = ls at hl ⊢
  have hl : lv_has ls 5 [(0, .ref M.o_Rd), (1, .int p0)] := hl
  refine qabs (fun Q hQ => ?_)
  have hB_64 : ∀ (rec_4 : Int32 → Int32 → Int32 → CS → Option (Int32 × CS)) (hr_4 : ∀ (y_1 : Int32) (y_2 : Int32) (y_3 : Int32) (S : CS) (H : Heap) (locs : List Loc) (ls : Array Slot), rec_4 y_1 y_2 y_3 S = some (r, S') → va_P (dC, dI) classes (wV M Y G S) H → va_D A (wV M Y G S) → va_S A s.heap H locs → lv_has ls 5 [(0, .ref M.o_Rd), (1, .int y_1), (2, .int y_2), (3, .int y_3)] → W p l e ({ frames := 1, cells := 0, slots := 0, locals := 21 }) s m ([.ref M.o_Rd, .int p0] : List Value).toArray below meth c H locs 0 0 Q (F0 m 4 ls [])), ∀ (y_1 : Int32) (y_2 : Int32) (y_3 : Int32) (S : CS) (H : Heap) (locs : List Loc) (ls : Array Slot), f_Rd_showShortName_64 K G rec_4 y_1 y_2 y_3 S = some (r, S') → va_P (dC, dI) classes (wV M Y G S) H → va_D A (wV M Y G S) → va_S A s.heap H locs → lv_has ls 5 [(0, .ref M.o_Rd), (1, .int y_1), (2, .int y_2), (3, .int y_3)] → W p l e ({ frames := 1, cells := 0, slots := 0, locals := 21 }) s m ([.ref M.o_Rd, .int p0] : List Value).toArray below meth c H locs 0 0 Q (F0 m 64 ls []) := by
    intro rec_4 hr_4 y_1 y_2 y_3 S H locs ls h hP hD hS hl
    rw [f_Rd_showShortName_64] at h
    obtain ⟨x_12, ex_12, h⟩ := lf_lX h
    refine lv_iinc (v := x_12) (lv' := [(3, .int x_12), (0, .ref M.o_Rd), (1, .int y_1), (2, .int y_2)]) hx hb d_Rd_showShortName_64 hl (k := 3) rfl (by rw [ex_12]; rfl) (by decide) rfl (fun ls hl => ?_)
    refine lv_goto (tgt := 4) hx hb d_Rd_showShortName_67 (by decide) ?_
    exact hr_4 y_1 y_2 x_12 S _ _ _ h hP hD hS (lv_sub hl [1, 2, 3, 0] rfl)
  have hB_46 : ∀ (rec_4 : Int32 → Int32 → Int32 → CS → Option (Int32 × CS)) (hr_4 : ∀ (y_1 : Int32) (y_2 : Int32) (y_3 : Int32) (S : CS) (H : Heap) (locs : List Loc) (ls : Array Slot), rec_4 y_1 y_2 y_3 S = some (r, S') → va_P (dC, dI) classes (wV M Y G S) H → va_D A (wV M Y G S) → va_S A s.heap H locs → lv_has ls 5 [(0, .ref M.o_Rd), (1, .int y_1), (2, .int y_2), (3, .int y_3)] → W p l e ({ frames := 1, cells := 0, slots := 0, locals := 21 }) s m ([.ref M.o_Rd, .int p0] : List Value).toArray below meth c H locs 0 0 Q (F0 m 4 ls [])), ∀ (y_1 : Int32) (y_2 : Int32) (y_3 : Int32) (y_4 : Int32) (S : CS) (H : Heap) (locs : List Loc) (ls : Array Slot), f_Rd_showShortName_46 K G rec_4 y_1 y_2 y_3 y_4 S = some (r, S') → va_P (dC, dI) classes (wV M Y G S) H → va_D A (wV M Y G S) → va_S A s.heap H locs → lv_has ls 5 [(0, .ref M.o_Rd), (1, .int y_1), (2, .int y_2), (3, .int y_3), (4, .int y_4)] → W p l e ({ frames := 1, cells := 0, slots := 0, locals := 21 }) s m ([.ref M.o_Rd, .int p0] : List Value).toArray below meth c H locs 0 0 Q (F0 m 46 ls []) := by
    intro rec_4 hr_4 y_1 y_2 y_3 y_4 S H locs ls h hP hD hS hl
    rw [f_Rd_showShortName_46] at h
    refine lv_iload hx hb d_Rd_showShortName_46 (lv_at hl 4 rfl) ?_
    refine lv_bipush (v := 32) hx hb d_Rd_showShortName_48 (by decide) ?_
    refine lv_icmp_eq (tgt := 64) hx hb d_Rd_showShortName_50 (by decide) (fun c_8 => ?_) (fun c_8 => ?_)
    · have h := lf_t h c_8
      exact hB_64 _ hr_4 y_1 y_2 y_3 S _ _ _ h hP hD hS (lv_sub hl [0, 1, 2, 3] rfl)
    · have h := lf_f h c_8
      refine lv_aload_n hx hb d_Rd_showShortName_53 rfl (lv_at hl 0 rfl) ?_
      refine va_get (D := (dC, dI)) (ci := 7) (v := .ref M.a_Rd_units) (C := R_Rd) (T := F_Rd) (N := 10) hx hb hts (fun w h => u_Vq_Rd w (i_Rd w h)) hown hK hP 5 rfl rfl 6 (by decide) (hts _ (u_Vq_Rd _ k_Rd_16)) (fun _ h9 => h9) rfl d_Rd_showShortName_54 ?_
      refine lv_iload_n hx hb d_Rd_showShortName_57 rfl (lv_at hl 2 rfl) ?_
      refine lv_iload hx hb d_Rd_showShortName_58 (lv_at hl 4 rfl) ?_
      obtain ⟨g_9, h⟩ := lf_gE h
      refine va_iast hx hb hK hP hD hS 35 2 rfl rfl g_9 d_Rd_showShortName_60 (fun H locs hP hD hS => ?_)
      obtain ⟨S_10, eS_10, h⟩ := lf_lX h
      have hP := ly_newP eS_10 hP
      have hD := ly_newD eS_10 hD
      obtain ⟨x_11, ex_11, h⟩ := lf_lX h
      refine lv_iinc (v := x_11) (lv' := [(2, .int x_11), (0, .ref M.o_Rd), (1, .int y_1), (3, .int y_3), (4, .int y_4)]) hx hb d_Rd_showShortName_61 hl (k := 2) rfl (by rw [ex_11]; rfl) (by decide) rfl (fun ls hl => ?_)
      exact hB_64 _ hr_4 y_1 x_11 y_3 S_10 _ _ _ h hP hD hS (lv_sub hl [1, 2, 0, 3] rfl)
  have hB_4 : ∀ (k : Nat), ∀ (y_1 : Int32) (y_2 : Int32) (y_3 : Int32) (S : CS) (H : Heap) (locs : List Loc) (ls : Array Slot), f_Rd_showShortName_4 K G k y_1 y_2 y_3 S = some (r, S') → va_P (dC, dI) classes (wV M Y G S) H → va_D A (wV M Y G S) → va_S A s.heap H locs → lv_has ls 5 [(0, .ref M.o_Rd), (1, .int y_1), (2, .int y_2), (3, .int y_3)] → W p l e ({ frames := 1, cells := 0, slots := 0, locals := 21 }) s m ([.ref M.o_Rd, .int p0] : List Value).toArray below meth c H locs 0 0 Q (F0 m 4 ls []) := by
    intro k
    induction k with
    | zero => intro y_1 y_2 y_3 S H locs ls h; exact lf_no h
    | succ k hr_4 =>
      intro y_1 y_2 y_3 S H locs ls h hP hD hS hl
      rw [f_Rd_showShortName_4] at h
      refine lv_iload_n hx hb d_Rd_showShortName_4 rfl (lv_at hl 3 rfl) ?_
      refine lv_bipush (v := 11) hx hb d_Rd_showShortName_5 (by decide) ?_
      refine lv_icmp_ge (tgt := 70) hx hb d_Rd_showShortName_7 (by decide) (fun c_1 => ?_) (fun c_1 => ?_)
      · have h := lf_t h c_1
        refine lv_iload_n hx hb d_Rd_showShortName_70 rfl (lv_at hl 2 rfl) ?_
        rw [hQ]
        have e1 : y_2 = r := congrArg Prod.fst (Option.some.inj h)
        have e2 : S = S' := congrArg Prod.snd (Option.some.inj h)
        have hP := ly_newP e2.symm hP
        have hD := ly_newD e2.symm hD
        exact W.iret (v := y_2) hx hb hr (fun t ht hW => ⟨⟨y_2, (), rfl, e1, by rw [ht]; exact hP, va_K.moved hW.alike hK, hD⟩, hS.F ht⟩) hS.2.2 d_Rd_showShortName_71
      · have h := lf_f h c_1
        refine lv_aload_n hx hb d_Rd_showShortName_10 rfl (lv_at hl 0 rfl) ?_
        refine va_get (D := (dC, dI)) (ci := 7) (v := .ref M.o_Dk) (C := R_Rd) (T := F_Rd) (N := 10) hx hb hts (fun w h => u_Vq_Rd w (i_Rd w h)) hown hK hP 5 rfl rfl 0 (by decide) (hts _ (u_Vq_Rd _ k_Rd_10)) (fun _ h9 => h9) rfl d_Rd_showShortName_11 ?_
        refine lv_iload_n hx hb d_Rd_showShortName_14 rfl (lv_at hl 1 rfl) ?_
        refine lv_iload_n hx hb d_Rd_showShortName_15 rfl (lv_at hl 3 rfl) ?_
        refine lv_iadd hx hb d_Rd_showShortName_16 ?_
        obtain ⟨r_2, S_2, hc_2, h⟩ := lf_cE h
        have hFc := lx_free hD hS hA
        refine va_calli (va_runV (As := [.int (y_1 + y_3)]) (rest := []) ⟨hx, hb, hml, hown, hts⟩ (l_Dk_one l dC dI X _ hc_2) (cwV 1 hts (gwV good_Vq (u_Vq_Rd _ k_Rd_41) (u_Vq_Dk _ k_Dk_20) (u_Vq_Dk _ k_Dk_21) (u_Vq_Dk _ k_Dk_0) (wcs (u_Vq_Dk _ k_Dk_22) (fun _ h => h))) rfl rfl rfl (by decide +kernel) ⟨Nat.le_of_ble_eq_true rfl, Nat.le_of_ble_eq_true rfl⟩) (pv_ofE (X.same _) (fun U z1 z2 => X.mono _ _ U hFc (hEw _ _ hS U z1 z2)) hP hK hD (va_recv hK hP (ci := 0) (q0 := 1) rfl rfl)) rfl rfl hl.1 rfl (lv_room (Nat.le_of_ble_eq_true rfl)) d_Rd_showShortName_17 ⟨by decide, by decide⟩) hS (fun q _ h => hFc q h) hFc (fun r_ u t H locs ht hvm hw hB hz1 hk1 hS => ?_)
        rw [hw]
        obtain ⟨hP, -, hD⟩ := hB
        rw [ht] at hP
        have hD := lx_dj hD hFc
        refine lv_istore (lv' := [(4, .int r_2), (0, .ref M.o_Rd), (1, .int y_1), (2, .int y_2), (3, .int y_3)]) hx hb d_Rd_showShortName_20 hl (by decide) rfl (fun ls hl => ?_)
        refine lv_iload_n hx hb d_Rd_showShortName_22 rfl (lv_at hl 4 rfl) ?_
        refine lv_bipush (v := 8) hx hb d_Rd_showShortName_23 (by decide) ?_
        refine lv_icmp_ne (tgt := 46) hx hb d_Rd_showShortName_25 (by decide) (fun c_3 => ?_) (fun c_3 => ?_)
        · have h := lf_f h c_3
          exact hB_46 _ hr_4 y_1 y_2 y_3 r_2 S_2 _ _ _ h hP hD hS (lv_sub hl [1, 2, 3, 4, 0] rfl)
        · have h := lf_t h c_3
          refine lv_iload hx hb d_Rd_showShortName_28 (lv_at hl 0 rfl) ?_
          refine lv_bipush (v := 32) hx hb d_Rd_showShortName_30 (by decide) ?_
          refine lv_icmp_eq (tgt := 46) hx hb d_Rd_showShortName_32 (by decide) (fun c_4 => ?_) (fun c_4 => ?_)
          · have h := lf_t h c_4
            exact hB_46 _ hr_4 y_1 y_2 y_3 r_2 S_2 _ _ _ h hP hD hS (lv_sub hl [1, 2, 3, 4, 0] rfl)
          · have h := lf_f h c_4
            refine lv_aload_n hx hb d_Rd_showShortName_35 rfl (lv_at hl 1 rfl) ?_
            refine va_get (D := (dC, dI)) (ci := 7) (v := .ref M.a_Rd_units) (C := R_Rd) (T := F_Rd) (N := 10) hx hb hts (fun w h => u_Vq_Rd w (i_Rd w h)) hown hK hP 5 rfl rfl 6 (by decide) (hts _ (u_Vq_Rd _ k_Rd_16)) (fun _ h9 => h9) rfl d_Rd_showShortName_36 ?_
            refine lv_iload_n hx hb d_Rd_showShortName_39 rfl (lv_at hl 3 rfl) ?_
            refine lv_bipush (v := 46) hx hb d_Rd_showShortName_40 (by decide) ?_
            obtain ⟨g_5, h⟩ := lf_gE h
            refine va_iast hx hb hK hP hD hS 35 2 rfl rfl g_5 d_Rd_showShortName_42 (fun H locs hP hD hS => ?_)
            obtain ⟨S_6, eS_6, h⟩ := lf_lX h
            have hP := ly_newP eS_6 hP
            have hD := ly_newD eS_6 hD
            obtain ⟨x_7, ex_7, h⟩ := lf_lX h
            refine lv_iinc (v := x_7) (lv' := [(2, .int x_7), (4, .int r_2), (0, .ref M.o_Rd), (1, .int y_1), (3, .int y_3)]) hx hb d_Rd_showShortName_43 hl (k := 3) rfl (by rw [ex_7]; rfl) (by decide) rfl (fun ls hl => ?_)
            exact hB_46 _ hr_4 y_1 x_7 y_3 r_2 S_6 _ _ _ h hP hD hS (lv_sub hl [2, 3, 0, 4, 1] rfl)
  rw [f_Rd_showShortName] at h
  refine lv_iconst (v := 0) hx hb d_Rd_showShortName_0 (by decide) ?_
  refine lv_istore_n (lv' := [(2, .int 0), (0, .ref M.o_Rd), (1, .int p0)]) hx hb d_Rd_showShortName_1 rfl hl (by decide) rfl (fun ls hl => ?_)
  refine lv_iconst (v := 0) hx hb d_Rd_showShortName_2 (by decide) ?_
  refine lv_istore_n (lv' := [(3, .int 0), (2, .int 0), (0, .ref M.o_Rd), (1, .int p0)]) hx hb d_Rd_showShortName_3 rfl hl (by decide) rfl (fun ls hl => ?_)
  exact hB_4 K p0 0 0 S _ _ _ h hP hD hS (lv_sub hl [2, 3, 1, 0] rfl)
set_option maxHeartbeats 4000000 in
set_option maxRecDepth 100000 in
theorem l_Rd_sameShortName (l : Launch) (dC : Nat → ClassId) (dI : Nat → Nat → Nat) {K : Nat} {M : CA} {E : (Nat → Prop) → State → Prop} (X : ly_X l dC dI K M E) (sz : Nat) {Y : CT} {G : CG} {S S' : CS} {p0 : Int32} {p1 : Int32} {r : Int32} (h : f_Rd_sameShortName K G S p0 p1 = some (r, S')) : Met l y_Rd_sameShortName (.code y_Rd_sameShortName cb_Rd_sameShortName 4 (some .boolean) :: V_Vq) ({ frames := 1, cells := 0, slots := 0, locals := 21 }) (va_Pc [.ref M.o_Rd, .int p0, .int p1] (fun U => U.heap.size = sz ∧ at_ (dC, dI) (fun _ => True) (wV M Y G S) (tV M) U ∧ E (va_A (wV M Y G S) sz) U)) (va_Qi (fun (r_ : Int32) (u : Unit) => r_ = r) (fun (u : Unit) t => at_ (dC, dI) (va_A (wV M Y G S) sz) (wV M Y G S') (tV M) t) (va_A (wV M Y G S) sz)) 0 0 (va_A (wV M Y G S) sz) := by
  refine Met.ofW (cc := cb_Rd_sameShortName) (maxL := 4) (ret := (some .boolean)) (by decide) rfl ?_
  intro p e s m args below meth c s₁ B hml hv
  obtain ⟨rfl, hsz, ⟨hP, hK, hD0⟩, hE⟩ := hv
  have hx := B.exec
  have hb := B.bytes
  have hr := B.returns
  have hts0 := atoms_spec (ws := .code y_Rd_sameShortName cb_Rd_sameShortName 4 (some .boolean) :: V_Vq) B.pre
  have hts : ∀ w ∈ V_Vq, w.before ([.ref M.o_Rd, .int p0, .int p1] : List Value).toArray s = true := fun w h => hts0 w (List.mem_cons_of_mem _ h)
  have hown : s.vm.findClass R_Rd = some m.cls := findClass_of_methodNamed B.named
  subst hsz
  have hD := hD0.self (sz := s.heap.size)
  generalize hAe : va_A (wV M Y G S) s.heap.size = A at hD hE ⊢
  have hA : ∀ q : Nat, s.heap.size ≤ q → A q := fun q h => by rw [← hAe]; exact Or.inr h
  have hS : va_S A s.heap s.heap [] := va_S.rf
  have hP : va_P (dC, dI) classes (wV M Y G S) s.heap := hP
  have hK : va_K (dC, dI) classes (tV M) s := hK
  have hEw : ∀ (H : Heap) (locs : List Loc), va_S A s.heap H locs → ∀ U : State, U.heap = H → s.WarmedH U.vm → E A U := fun H locs hS U hU hW => X.kept A s U H locs hE hS hU hW
  have hl := lv_entry ([.ref M.o_Rd, .int p0, .int p1]) (n := 4) (Nat.le_of_ble_eq_true rfl)
  rw [lg_entry_eq]
  generalize (lg_sl ([.ref M.o_Rd, .int p0, .int p1]) ++ List.replicate (4 - (lg_sl ([.ref M.o_Rd, .int p0, .int p1])).length) Slot.unset).toArray = ls at hl ⊢
  have hl : lv_has ls 4 [(0, .ref M.o_Rd), (1, .int p0), (2, .int p1)] := hl
  refine qabs (fun Q hQ => ?_)
  have hB_2 : ∀ (k : Nat), ∀ (y_1 : Int32) (y_2 : Int32) (y_3 : Int32) (S : CS) (H : Heap) (locs : List Loc) (ls : Array Slot), f_Rd_sameShortName_2 K G k y_1 y_2 y_3 S = some (r, S') → va_P (dC, dI) classes (wV M Y G S) H → va_D A (wV M Y G S) → va_S A s.heap H locs → lv_has ls 4 [(0, .ref M.o_Rd), (1, .int y_1), (2, .int y_2), (3, .int y_3)] → W p l e ({ frames := 1, cells := 0, slots := 0, locals := 21 }) s m ([.ref M.o_Rd, .int p0, .int p1] : List Value).toArray below meth c H locs 0 0 Q (F0 m 2 ls []) := by
    intro k
    induction k with
    | zero => intro y_1 y_2 y_3 S H locs ls h; exact lf_no h
    | succ k hr_2 =>
      intro y_1 y_2 y_3 S H locs ls h hP hD hS hl
      rw [f_Rd_sameShortName_2] at h
      refine lv_iload_n hx hb d_Rd_sameShortName_2 rfl (lv_at hl 3 rfl) ?_
      refine lv_bipush (v := 11) hx hb d_Rd_sameShortName_3 (by decide) ?_
      refine lv_icmp_ge (tgt := 39) hx hb d_Rd_sameShortName_5 (by decide) (fun c_1 => ?_) (fun c_1 => ?_)
      · have h := lf_t h c_1
        refine lv_iconst (v := 1) hx hb d_Rd_sameShortName_39 (by decide) ?_
        rw [hQ]
        have e1 : (1 : Int32) = r := congrArg Prod.fst (Option.some.inj h)
        have e2 : S = S' := congrArg Prod.snd (Option.some.inj h)
        have hP := ly_newP e2.symm hP
        have hD := ly_newD e2.symm hD
        exact W.zret (v := 1) hx hb hr rfl (fun t ht hW => ⟨⟨1, (), rfl, e1, by rw [ht]; exact hP, va_K.moved hW.alike hK, hD⟩, hS.F ht⟩) hS.2.2 d_Rd_sameShortName_40
      · have h := lf_f h c_1
        refine lv_aload_n hx hb d_Rd_sameShortName_8 rfl (lv_at hl 0 rfl) ?_
        refine va_get (D := (dC, dI)) (ci := 7) (v := .ref M.o_Dk) (C := R_Rd) (T := F_Rd) (N := 10) hx hb hts (fun w h => u_Vq_Rd w (i_Rd w h)) hown hK hP 5 rfl rfl 0 (by decide) (hts _ (u_Vq_Rd _ k_Rd_10)) (fun _ h9 => h9) rfl d_Rd_sameShortName_9 ?_
        refine lv_iload_n hx hb d_Rd_sameShortName_12 rfl (lv_at hl 1 rfl) ?_
        refine lv_iload_n hx hb d_Rd_sameShortName_13 rfl (lv_at hl 3 rfl) ?_
        refine lv_iadd hx hb d_Rd_sameShortName_14 ?_
        obtain ⟨r_2, S_2, hc_2, h⟩ := lf_cE h
        have hFc := lx_free hD hS hA
        refine va_calli (va_runV (As := [.int (y_1 + y_3)]) (rest := []) ⟨hx, hb, hml, hown, hts⟩ (l_Dk_one l dC dI X _ hc_2) (cwV 1 hts (gwV good_Vq (u_Vq_Rd _ k_Rd_41) (u_Vq_Dk _ k_Dk_20) (u_Vq_Dk _ k_Dk_21) (u_Vq_Dk _ k_Dk_0) (wcs (u_Vq_Dk _ k_Dk_22) (fun _ h => h))) rfl rfl rfl (by decide +kernel) ⟨Nat.le_of_ble_eq_true rfl, Nat.le_of_ble_eq_true rfl⟩) (pv_ofE (X.same _) (fun U z1 z2 => X.mono _ _ U hFc (hEw _ _ hS U z1 z2)) hP hK hD (va_recv hK hP (ci := 0) (q0 := 1) rfl rfl)) rfl rfl hl.1 rfl (lv_room (Nat.le_of_ble_eq_true rfl)) d_Rd_sameShortName_15 ⟨by decide, by decide⟩) hS (fun q _ h => hFc q h) hFc (fun r_ u t H locs ht hvm hw hB hz1 hk1 hS => ?_)
        rw [hw]
        obtain ⟨hP, -, hD⟩ := hB
        rw [ht] at hP
        have hD := lx_dj hD hFc
        refine lv_aload_n hx hb d_Rd_sameShortName_18 rfl (lv_at hl 0 rfl) ?_
        refine va_get (D := (dC, dI)) (ci := 7) (v := .ref M.o_Dk) (C := R_Rd) (T := F_Rd) (N := 10) hx hb hts (fun w h => u_Vq_Rd w (i_Rd w h)) hown hK hP 5 rfl rfl 0 (by decide) (hts _ (u_Vq_Rd _ k_Rd_10)) (fun _ h9 => h9) rfl d_Rd_sameShortName_19 ?_
        refine lv_iload_n hx hb d_Rd_sameShortName_22 rfl (lv_at hl 2 rfl) ?_
        refine lv_iload_n hx hb d_Rd_sameShortName_23 rfl (lv_at hl 3 rfl) ?_
        refine lv_iadd hx hb d_Rd_sameShortName_24 ?_
        obtain ⟨r_3, S_3, hc_3, h⟩ := lf_cE h
        have hFc := lx_free hD hS hA
        refine va_calli (va_runV (As := [.int (y_2 + y_3)]) (rest := [.int r_2]) ⟨hx, hb, hml, hown, hts⟩ (l_Dk_one l dC dI X _ hc_3) (cwV 1 hts (gwV good_Vq (u_Vq_Rd _ k_Rd_41) (u_Vq_Dk _ k_Dk_20) (u_Vq_Dk _ k_Dk_21) (u_Vq_Dk _ k_Dk_0) (wcs (u_Vq_Dk _ k_Dk_22) (fun _ h => h))) rfl rfl rfl (by decide +kernel) ⟨Nat.le_of_ble_eq_true rfl, Nat.le_of_ble_eq_true rfl⟩) (pv_ofE (X.same _) (fun U z1 z2 => X.mono _ _ U hFc (hEw _ _ hS U z1 z2)) hP hK hD (va_recv hK hP (ci := 0) (q0 := 1) rfl rfl)) rfl rfl hl.1 rfl (lv_room (Nat.le_of_ble_eq_true rfl)) d_Rd_sameShortName_25 ⟨by decide, by decide⟩) hS (fun q _ h => hFc q h) hFc (fun r_ u t H locs ht hvm hw hB hz1 hk1 hS => ?_)
        rw [hw]
        obtain ⟨hP, -, hD⟩ := hB
        rw [ht] at hP
        have hD := lx_dj hD hFc
        refine lv_icmp_eq (tgt := 33) hx hb d_Rd_sameShortName_28 (by decide) (fun c_4 => ?_) (fun c_4 => ?_)
        · have h := lf_t h c_4
          obtain ⟨x_5, ex_5, h⟩ := lf_lX h
          refine lv_iinc (v := x_5) (lv' := [(3, .int x_5), (0, .ref M.o_Rd), (1, .int y_1), (2, .int y_2)]) hx hb d_Rd_sameShortName_33 hl (k := 3) rfl (by rw [ex_5]; rfl) (by decide) rfl (fun ls hl => ?_)
          refine lv_goto (tgt := 2) hx hb d_Rd_sameShortName_36 (by decide) ?_
          exact hr_2 y_1 y_2 x_5 S_3 _ _ _ h hP hD hS (lv_sub hl [1, 2, 3, 0] rfl)
        · have h := lf_f h c_4
          refine lv_iconst (v := 0) hx hb d_Rd_sameShortName_31 (by decide) ?_
          rw [hQ]
          have e1 : (0 : Int32) = r := congrArg Prod.fst (Option.some.inj h)
          have e2 : S_3 = S' := congrArg Prod.snd (Option.some.inj h)
          have hP := ly_newP e2.symm hP
          have hD := ly_newD e2.symm hD
          exact W.zret (v := 0) hx hb hr rfl (fun t ht hW => ⟨⟨0, (), rfl, e1, by rw [ht]; exact hP, va_K.moved hW.alike hK, hD⟩, hS.F ht⟩) hS.2.2 d_Rd_sameShortName_32
  rw [f_Rd_sameShortName] at h
  refine lv_iconst (v := 0) hx hb d_Rd_sameShortName_0 (by decide) ?_
  refine lv_istore_n (lv' := [(3, .int 0), (0, .ref M.o_Rd), (1, .int p0), (2, .int p1)]) hx hb d_Rd_sameShortName_1 rfl hl (by decide) rfl (fun ls hl => ?_)
  exact hB_2 K p0 p1 0 S _ _ _ h hP hD hS (lv_sub hl [1, 2, 3, 0] rfl)
set_option maxHeartbeats 4000000 in
set_option maxRecDepth 100000 in
theorem l_Tr_isNamed_Rdunits (l : Launch) (dC : Nat → ClassId) (dI : Nat → Nat → Nat) {K : Nat} {M : CA} {E : (Nat → Prop) → State → Prop} (X : ly_X l dC dI K M E) (sz : Nat) {Y : CT} {G : CG} {S S' : CS} {p0 : Int32} {p2 : Int32} {r : Int32} (h : f_Tr_isNamed_Rdunits K G S p0 p2 = some (r, S')) : Met l y_Tr_isNamed (.code y_Tr_isNamed b_Tr_isNamed 6 (some .boolean) :: V_Vq) ({ frames := 1, cells := 0, slots := 0, locals := 21 }) (va_Pc [.ref M.o_Tr, .int p0, .ref M.a_Rd_units, .int p2] (fun U => U.heap.size = sz ∧ at_ (dC, dI) (fun _ => True) (wV M Y G S) (tV M) U ∧ E (va_A (wV M Y G S) sz) U)) (va_Qi (fun (r_ : Int32) (u : Unit) => r_ = r) (fun (u : Unit) t => at_ (dC, dI) (va_A (wV M Y G S) sz) (wV M Y G S') (tV M) t) (va_A (wV M Y G S) sz)) 0 0 (va_A (wV M Y G S) sz) := by
  refine Met.ofW (cc := b_Tr_isNamed) (maxL := 6) (ret := (some .boolean)) (by decide) rfl ?_
  intro p e s m args below meth c s₁ B hml hv
  obtain ⟨rfl, hsz, ⟨hP, hK, hD0⟩, hE⟩ := hv
  have hx := B.exec
  have hb := B.bytes
  have hr := B.returns
  have hts0 := atoms_spec (ws := .code y_Tr_isNamed b_Tr_isNamed 6 (some .boolean) :: V_Vq) B.pre
  have hts : ∀ w ∈ V_Vq, w.before ([.ref M.o_Tr, .int p0, .ref M.a_Rd_units, .int p2] : List Value).toArray s = true := fun w h => hts0 w (List.mem_cons_of_mem _ h)
  have hown : s.vm.findClass R_Tr = some m.cls := findClass_of_methodNamed B.named
  subst hsz
  have hD := hD0.self (sz := s.heap.size)
  generalize hAe : va_A (wV M Y G S) s.heap.size = A at hD hE ⊢
  have hA : ∀ q : Nat, s.heap.size ≤ q → A q := fun q h => by rw [← hAe]; exact Or.inr h
  have hS : va_S A s.heap s.heap [] := va_S.rf
  have hP : va_P (dC, dI) classes (wV M Y G S) s.heap := hP
  have hK : va_K (dC, dI) classes (tV M) s := hK
  have hEw : ∀ (H : Heap) (locs : List Loc), va_S A s.heap H locs → ∀ U : State, U.heap = H → s.WarmedH U.vm → E A U := fun H locs hS U hU hW => X.kept A s U H locs hE hS hU hW
  have hl := lv_entry ([.ref M.o_Tr, .int p0, .ref M.a_Rd_units, .int p2]) (n := 6) (Nat.le_of_ble_eq_true rfl)
  rw [lg_entry_eq]
  generalize (lg_sl ([.ref M.o_Tr, .int p0, .ref M.a_Rd_units, .int p2]) ++ List.replicate (6 - (lg_sl ([.ref M.o_Tr, .int p0, .ref M.a_Rd_units, .int p2])).length) Slot.unset).toArray = ls at hl ⊢
  have hl : lv_has ls 6 [(0, .ref M.o_Tr), (1, .int p0), (2, .ref M.a_Rd_units), (3, .int p2)] := hl
  refine qabs (fun Q hQ => ?_)
  have hB_24 : ∀ (S : CS) (H : Heap) (locs : List Loc) (ls : Array Slot), f_Tr_isNamed_Rdunits_24 K G S = some (r, S') → va_P (dC, dI) classes (wV M Y G S) H → va_D A (wV M Y G S) → va_S A s.heap H locs → lv_has ls 6 [] → W p l e ({ frames := 1, cells := 0, slots := 0, locals := 21 }) s m ([.ref M.o_Tr, .int p0, .ref M.a_Rd_units, .int p2] : List Value).toArray below meth c H locs 0 0 Q (F0 m 24 ls []) := by
    intro S H locs ls h hP hD hS hl
    rw [f_Tr_isNamed_Rdunits_24] at h
    refine lv_iconst (v := 0) hx hb d_Tr_isNamed_24 (by decide) ?_
    rw [hQ]
    have e1 : (0 : Int32) = r := congrArg Prod.fst (Option.some.inj h)
    have e2 : S = S' := congrArg Prod.snd (Option.some.inj h)
    have hP := ly_newP e2.symm hP
    have hD := ly_newD e2.symm hD
    exact W.zret (v := 0) hx hb hr rfl (fun t ht hW => ⟨⟨0, (), rfl, e1, by rw [ht]; exact hP, va_K.moved hW.alike hK, hD⟩, hS.F ht⟩) hS.2.2 d_Tr_isNamed_25
  have hB_85 : ∀ (rec_37 : Int32 → Int32 → Int32 → CS → Option (Int32 × CS)) (hr_37 : ∀ (y_3 : Int32) (y_4 : Int32) (y_5 : Int32) (S : CS) (H : Heap) (locs : List Loc) (ls : Array Slot), rec_37 y_3 y_4 y_5 S = some (r, S') → va_P (dC, dI) classes (wV M Y G S) H → va_D A (wV M Y G S) → va_S A s.heap H locs → lv_has ls 6 [(0, .ref M.o_Tr), (2, .ref M.a_Rd_units), (3, .int y_3), (4, .int y_4), (5, .int y_5)] → W p l e ({ frames := 1, cells := 0, slots := 0, locals := 21 }) s m ([.ref M.o_Tr, .int p0, .ref M.a_Rd_units, .int p2] : List Value).toArray below meth c H locs 0 0 Q (F0 m 37 ls [])), ∀ (y_3 : Int32) (y_4 : Int32) (y_5 : Int32) (S : CS) (H : Heap) (locs : List Loc) (ls : Array Slot), f_Tr_isNamed_Rdunits_85 K G rec_37 y_3 y_4 y_5 S = some (r, S') → va_P (dC, dI) classes (wV M Y G S) H → va_D A (wV M Y G S) → va_S A s.heap H locs → lv_has ls 6 [(0, .ref M.o_Tr), (2, .ref M.a_Rd_units), (3, .int y_3), (4, .int y_4), (5, .int y_5)] → W p l e ({ frames := 1, cells := 0, slots := 0, locals := 21 }) s m ([.ref M.o_Tr, .int p0, .ref M.a_Rd_units, .int p2] : List Value).toArray below meth c H locs 0 0 Q (F0 m 85 ls []) := by
    intro rec_37 hr_37 y_3 y_4 y_5 S H locs ls h hP hD hS hl
    rw [f_Tr_isNamed_Rdunits_85] at h
    obtain ⟨x_17, ex_17, h⟩ := lf_lX h
    refine lv_iinc (v := x_17) (lv' := [(5, .int x_17), (0, .ref M.o_Tr), (2, .ref M.a_Rd_units), (3, .int y_3), (4, .int y_4)]) hx hb d_Tr_isNamed_85 hl (k := 4) rfl (by rw [ex_17]; rfl) (by decide) rfl (fun ls hl => ?_)
    refine lv_goto (tgt := 37) hx hb d_Tr_isNamed_88 (by decide) ?_
    exact hr_37 y_3 y_4 x_17 S _ _ _ h hP hD hS (lv_sub hl [1, 2, 3, 4, 0] rfl)
  have hB_37 : ∀ (k : Nat), ∀ (y_3 : Int32) (y_4 : Int32) (y_5 : Int32) (S : CS) (H : Heap) (locs : List Loc) (ls : Array Slot), f_Tr_isNamed_Rdunits_37 K G k y_3 y_4 y_5 S = some (r, S') → va_P (dC, dI) classes (wV M Y G S) H → va_D A (wV M Y G S) → va_S A s.heap H locs → lv_has ls 6 [(0, .ref M.o_Tr), (2, .ref M.a_Rd_units), (3, .int y_3), (4, .int y_4), (5, .int y_5)] → W p l e ({ frames := 1, cells := 0, slots := 0, locals := 21 }) s m ([.ref M.o_Tr, .int p0, .ref M.a_Rd_units, .int p2] : List Value).toArray below meth c H locs 0 0 Q (F0 m 37 ls []) := by
    intro k
    induction k with
    | zero => intro y_3 y_4 y_5 S H locs ls h; exact lf_no h
    | succ k hr_37 =>
      intro y_3 y_4 y_5 S H locs ls h hP hD hS hl
      rw [f_Tr_isNamed_Rdunits_37] at h
      refine lv_iload hx hb d_Tr_isNamed_37 (lv_at hl 4 rfl) ?_
      refine lv_iload_n hx hb d_Tr_isNamed_39 rfl (lv_at hl 2 rfl) ?_
      refine lv_icmp_ge (tgt := 91) hx hb d_Tr_isNamed_40 (by decide) (fun c_8 => ?_) (fun c_8 => ?_)
      · have h := lf_t h c_8
        refine lv_iconst (v := 1) hx hb d_Tr_isNamed_91 (by decide) ?_
        rw [hQ]
        have e1 : (1 : Int32) = r := congrArg Prod.fst (Option.some.inj h)
        have e2 : S = S' := congrArg Prod.snd (Option.some.inj h)
        have hP := ly_newP e2.symm hP
        have hD := ly_newD e2.symm hD
        exact W.zret (v := 1) hx hb hr rfl (fun t ht hW => ⟨⟨1, (), rfl, e1, by rw [ht]; exact hP, va_K.moved hW.alike hK, hD⟩, hS.F ht⟩) hS.2.2 d_Tr_isNamed_92
      · have h := lf_f h c_8
        refine lv_aload_n hx hb d_Tr_isNamed_43 rfl (lv_at hl 0 rfl) ?_
        refine va_get (D := (dC, dI)) (ci := 5) (v := .ref Y.a_pool) (C := R_Tr) (T := F_Tr) (N := 18) hx hb hts (fun w h => u_Vq_Tr w (i_Tr w h)) hown hK hP 4 rfl rfl 16 (by decide) (hts _ (u_Vq_Tr _ k_Tr_21)) (fun _ h9 => h9) rfl d_Tr_isNamed_44 ?_
        refine lv_iload hx hb d_Tr_isNamed_47 (lv_at hl 3 rfl) ?_
        refine lv_iload hx hb d_Tr_isNamed_49 (lv_at hl 4 rfl) ?_
        refine lv_iadd hx hb d_Tr_isNamed_51 ?_
        obtain ⟨g_9, h⟩ := lf_gE h
        refine va_iald hx hb hK hP 31 2 rfl rfl g_9 d_Tr_isNamed_52 ?_
        refine lv_aload_n hx hb d_Tr_isNamed_53 rfl (lv_at hl 1 rfl) ?_
        refine lv_iload hx hb d_Tr_isNamed_54 (lv_at hl 4 rfl) ?_
        obtain ⟨g_10, h⟩ := lf_gE h
        refine va_iald hx hb hK hP 35 2 rfl rfl g_10 d_Tr_isNamed_56 ?_
        refine lv_icmp_eq (tgt := 85) hx hb d_Tr_isNamed_57 (by decide) (fun c_11 => ?_) (fun c_11 => ?_)
        · have h := lf_t h c_11
          exact hB_85 _ hr_37 y_3 y_4 y_5 S _ _ _ h hP hD hS (lv_sub hl [0, 1, 2, 3, 4] rfl)
        · have h := lf_f h c_11
          refine lv_aload_n hx hb d_Tr_isNamed_60 rfl (lv_at hl 0 rfl) ?_
          refine va_get (D := (dC, dI)) (ci := 5) (v := .ref Y.a_pool) (C := R_Tr) (T := F_Tr) (N := 18) hx hb hts (fun w h => u_Vq_Tr w (i_Tr w h)) hown hK hP 4 rfl rfl 16 (by decide) (hts _ (u_Vq_Tr _ k_Tr_21)) (fun _ h9 => h9) rfl d_Tr_isNamed_61 ?_
          refine lv_iload hx hb d_Tr_isNamed_64 (lv_at hl 3 rfl) ?_
          refine lv_iload hx hb d_Tr_isNamed_66 (lv_at hl 4 rfl) ?_
          refine lv_iadd hx hb d_Tr_isNamed_68 ?_
          obtain ⟨g_12, h⟩ := lf_gE h
          refine va_iald hx hb hK hP 31 2 rfl rfl g_12 d_Tr_isNamed_69 ?_
          obtain ⟨r_13, hc_13, h⟩ := lf_bE h
          have hFc := lx_free0 hS hA
          refine va_calli (va_runS (As := [.int (S.w_Tr_pool (y_4 + y_5).toNatClampNeg)]) (rest := []) ⟨hx, hb, hml, hown, hts⟩ (l_Wo_capital l dC dI  _ hc_13) (va_cwS 1 hts (gwS good_Vq (u_Vq_Tr _ k_Tr_63) (u_Vq_Wo _ k_Wo_17) (u_Vq_Wo _ k_Wo_0) (wcs (u_Vq_Wo _ k_Wo_18) (fun _ h => h))) rfl rfl rfl (by decide +kernel) ⟨Nat.le_of_ble_eq_true rfl, Nat.le_of_ble_eq_true rfl⟩) (ps_of (W := []) (tys := []) (hP.sub (ws' := []) [] rfl) (hK.sub [] rfl) (hD.sub (ws' := []) [] (by decide) rfl)) rfl rfl hl.1 rfl (lv_room (Nat.le_of_ble_eq_true rfl)) d_Tr_isNamed_70 ⟨by decide, by decide⟩) hS (fun q _ h => hFc q h) hFc (fun r_ u t H locs ht hvm hw hB hz1 hk1 hS => ?_)
          rw [hw]
          have hP := lx_stat (A := A) hP hk1
          refine lv_aload_n hx hb d_Tr_isNamed_73 rfl (lv_at hl 1 rfl) ?_
          refine lv_iload hx hb d_Tr_isNamed_74 (lv_at hl 4 rfl) ?_
          obtain ⟨g_14, h⟩ := lf_gE h
          refine va_iald hx hb hK hP 35 2 rfl rfl g_14 d_Tr_isNamed_76 ?_
          obtain ⟨r_15, hc_15, h⟩ := lf_bE h
          have hFc := lx_free0 hS hA
          refine va_calli (va_runS (As := [.int (S.w_Rd_units y_5.toNatClampNeg)]) (rest := [.int r_13]) ⟨hx, hb, hml, hown, hts⟩ (l_Wo_capital l dC dI  _ hc_15) (va_cwS 1 hts (gwS good_Vq (u_Vq_Tr _ k_Tr_63) (u_Vq_Wo _ k_Wo_17) (u_Vq_Wo _ k_Wo_0) (wcs (u_Vq_Wo _ k_Wo_18) (fun _ h => h))) rfl rfl rfl (by decide +kernel) ⟨Nat.le_of_ble_eq_true rfl, Nat.le_of_ble_eq_true rfl⟩) (ps_of (W := []) (tys := []) (hP.sub (ws' := []) [] rfl) (hK.sub [] rfl) (hD.sub (ws' := []) [] (by decide) rfl)) rfl rfl hl.1 rfl (lv_room (Nat.le_of_ble_eq_true rfl)) d_Tr_isNamed_77 ⟨by decide, by decide⟩) hS (fun q _ h => hFc q h) hFc (fun r_ u t H locs ht hvm hw hB hz1 hk1 hS => ?_)
          rw [hw]
          have hP := lx_stat (A := A) hP hk1
          refine lv_icmp_eq (tgt := 85) hx hb d_Tr_isNamed_80 (by decide) (fun c_16 => ?_) (fun c_16 => ?_)
          · have h := lf_t h c_16
            exact hB_85 _ hr_37 y_3 y_4 y_5 S _ _ _ h hP hD hS (lv_sub hl [0, 1, 2, 3, 4] rfl)
          · have h := lf_f h c_16
            refine lv_iconst (v := 0) hx hb d_Tr_isNamed_83 (by decide) ?_
            rw [hQ]
            have e1 : (0 : Int32) = r := congrArg Prod.fst (Option.some.inj h)
            have e2 : S = S' := congrArg Prod.snd (Option.some.inj h)
            have hP := ly_newP e2.symm hP
            have hD := ly_newD e2.symm hD
            exact W.zret (v := 0) hx hb hr rfl (fun t ht hW => ⟨⟨0, (), rfl, e1, by rw [ht]; exact hP, va_K.moved hW.alike hK, hD⟩, hS.F ht⟩) hS.2.2 d_Tr_isNamed_84
  rw [f_Tr_isNamed_Rdunits] at h
  refine lv_aload_n hx hb d_Tr_isNamed_0 rfl (lv_at hl 0 rfl) ?_
  refine lv_iload_n hx hb d_Tr_isNamed_1 rfl (lv_at hl 1 rfl) ?_
  obtain ⟨r_1, S_1, hc_1, h⟩ := lf_cE h
  have hFc := lx_free hD hS hA
  refine va_calli (va_runV (As := [.int p0]) (rest := []) ⟨hx, hb, hml, hown, hts⟩ (l_Tr_has l dC dI X _ hc_1) (cwV 1 hts (gwV good_Vq (u_Vq_Tr _ k_Tr_38) (u_Vq_Tr _ k_Tr_39) (u_Vq_Tr _ k_Tr_40) (u_Vq_Tr _ k_Tr_0) (wcs (u_Vq_Tr _ k_Tr_41) (fun _ h => h))) rfl rfl rfl (by decide +kernel) ⟨Nat.le_of_ble_eq_true rfl, Nat.le_of_ble_eq_true rfl⟩) (pv_ofE (X.same _) (fun U z1 z2 => X.mono _ _ U hFc (hEw _ _ hS U z1 z2)) hP hK hD (va_recv hK hP (ci := 5) (q0 := 4) rfl rfl)) rfl rfl hl.1 rfl (lv_room (Nat.le_of_ble_eq_true rfl)) d_Tr_isNamed_2 ⟨by decide, by decide⟩) hS (fun q _ h => hFc q h) hFc (fun r_ u t H locs ht hvm hw hB hz1 hk1 hS => ?_)
  rw [hw]
  obtain ⟨hP, -, hD⟩ := hB
  rw [ht] at hP
  have hD := lx_dj hD hFc
  refine lv_if_eq (tgt := 24) hx hb d_Tr_isNamed_5 (by decide) (fun c_2 => ?_) (fun c_2 => ?_)
  · have h := lf_t h c_2
    exact hB_24 S_1 _ _ _ h hP hD hS (lv_sub hl [] rfl)
  · have h := lf_f h c_2
    refine lv_aload_n hx hb d_Tr_isNamed_8 rfl (lv_at hl 0 rfl) ?_
    refine va_get (D := (dC, dI)) (ci := 5) (v := .ref Y.a_nameLength) (C := R_Tr) (T := F_Tr) (N := 18) hx hb hts (fun w h => u_Vq_Tr w (i_Tr w h)) hown hK hP 4 rfl rfl 12 (by decide) (hts _ (u_Vq_Tr _ k_Tr_17)) (fun _ h9 => h9) rfl d_Tr_isNamed_9 ?_
    refine lv_iload_n hx hb d_Tr_isNamed_12 rfl (lv_at hl 1 rfl) ?_
    obtain ⟨g_3, h⟩ := lf_gE h
    refine va_iald hx hb hK hP 27 2 rfl rfl g_3 d_Tr_isNamed_13 ?_
    refine lv_iload_n hx hb d_Tr_isNamed_14 rfl (lv_at hl 3 rfl) ?_
    refine lv_icmp_ne (tgt := 24) hx hb d_Tr_isNamed_15 (by decide) (fun c_4 => ?_) (fun c_4 => ?_)
    · have h := lf_f h c_4
      exact hB_24 S_1 _ _ _ h hP hD hS (lv_sub hl [] rfl)
    · have h := lf_t h c_4
      refine lv_iload_n hx hb d_Tr_isNamed_18 rfl (lv_at hl 3 rfl) ?_
      refine lv_aload_n hx hb d_Tr_isNamed_19 rfl (lv_at hl 2 rfl) ?_
      refine va_alen (v := 260) hx hb hK hP 35 2 rfl rfl rfl d_Tr_isNamed_20 ?_
      refine lv_icmp_le (tgt := 26) hx hb d_Tr_isNamed_21 (by decide) (fun c_5 => ?_) (fun c_5 => ?_)
      · have h := lf_t h c_5
        refine lv_aload_n hx hb d_Tr_isNamed_26 rfl (lv_at hl 0 rfl) ?_
        refine va_get (D := (dC, dI)) (ci := 5) (v := .ref Y.a_nameAt) (C := R_Tr) (T := F_Tr) (N := 18) hx hb hts (fun w h => u_Vq_Tr w (i_Tr w h)) hown hK hP 4 rfl rfl 11 (by decide) (hts _ (u_Vq_Tr _ k_Tr_16)) (fun _ h9 => h9) rfl d_Tr_isNamed_27 ?_
        refine lv_iload_n hx hb d_Tr_isNamed_30 rfl (lv_at hl 1 rfl) ?_
        obtain ⟨g_6, h⟩ := lf_gE h
        refine va_iald hx hb hK hP 26 2 rfl rfl g_6 d_Tr_isNamed_31 ?_
        refine lv_topi (fun x_7 ex_7 => ?_)
        have h := lf_lE h ex_7
        refine lv_istore (lv' := [(4, .int x_7), (0, .ref M.o_Tr), (1, .int p0), (2, .ref M.a_Rd_units), (3, .int p2)]) hx hb d_Tr_isNamed_32 hl (by decide) rfl (fun ls hl => ?_)
        refine lv_iconst (v := 0) hx hb d_Tr_isNamed_34 (by decide) ?_
        refine lv_istore (lv' := [(5, .int 0), (4, .int x_7), (0, .ref M.o_Tr), (1, .int p0), (2, .ref M.a_Rd_units), (3, .int p2)]) hx hb d_Tr_isNamed_35 hl (by decide) rfl (fun ls hl => ?_)
        exact hB_37 K p2 x_7 0 S_1 _ _ _ h hP hD hS (lv_sub hl [2, 4, 5, 1, 0] rfl)
      · have h := lf_f h c_5
        exact hB_24 S_1 _ _ _ h hP hD hS (lv_sub hl [] rfl)
set_option maxHeartbeats 4000000 in
set_option maxRecDepth 100000 in
theorem l_Rd_hasTwin (l : Launch) (dC : Nat → ClassId) (dI : Nat → Nat → Nat) {K : Nat} {M : CA} {E : (Nat → Prop) → State → Prop} (X : ly_X l dC dI K M E) (sz : Nat) {Y : CT} {G : CG} {S S' : CS} {p0 : Int32} {p1 : Int32} {p2 : Int32} {r : Int32} (h : f_Rd_hasTwin K G S p0 p1 p2 = some (r, S')) : Met l y_Rd_hasTwin (.code y_Rd_hasTwin cb_Rd_hasTwin 5 (some .boolean) :: V_Vq) ({ frames := 2, cells := 0, slots := 0, locals := 46 }) (va_Pc [.ref M.o_Rd, .int p0, .int p1, .int p2] (fun U => U.heap.size = sz ∧ at_ (dC, dI) (fun _ => True) (wV M Y G S) (tV M) U ∧ E (va_A (wV M Y G S) sz) U)) (va_Qi (fun (r_ : Int32) (u : Unit) => r_ = r) (fun (u : Unit) t => at_ (dC, dI) (va_A (wV M Y G S) sz) (wV M Y G S') (tV M) t) (va_A (wV M Y G S) sz)) 0 0 (va_A (wV M Y G S) sz) := by
  refine Met.ofW (cc := cb_Rd_hasTwin) (maxL := 5) (ret := (some .boolean)) (by decide) rfl ?_
  intro p e s m args below meth c s₁ B hml hv
  obtain ⟨rfl, hsz, ⟨hP, hK, hD0⟩, hE⟩ := hv
  have hx := B.exec
  have hb := B.bytes
  have hr := B.returns
  have hts0 := atoms_spec (ws := .code y_Rd_hasTwin cb_Rd_hasTwin 5 (some .boolean) :: V_Vq) B.pre
  have hts : ∀ w ∈ V_Vq, w.before ([.ref M.o_Rd, .int p0, .int p1, .int p2] : List Value).toArray s = true := fun w h => hts0 w (List.mem_cons_of_mem _ h)
  have hown : s.vm.findClass R_Rd = some m.cls := findClass_of_methodNamed B.named
  subst hsz
  have hD := hD0.self (sz := s.heap.size)
  generalize hAe : va_A (wV M Y G S) s.heap.size = A at hD hE ⊢
  have hA : ∀ q : Nat, s.heap.size ≤ q → A q := fun q h => by rw [← hAe]; exact Or.inr h
  have hS : va_S A s.heap s.heap [] := va_S.rf
  have hP : va_P (dC, dI) classes (wV M Y G S) s.heap := hP
  have hK : va_K (dC, dI) classes (tV M) s := hK
  have hEw : ∀ (H : Heap) (locs : List Loc), va_S A s.heap H locs → ∀ U : State, U.heap = H → s.WarmedH U.vm → E A U := fun H locs hS U hU hW => X.kept A s U H locs hE hS hU hW
  have hl := lv_entry ([.ref M.o_Rd, .int p0, .int p1, .int p2]) (n := 5) (Nat.le_of_ble_eq_true rfl)
  rw [lg_entry_eq]
  generalize (lg_sl ([.ref M.o_Rd, .int p0, .int p1, .int p2]) ++ List.replicate (5 - (lg_sl ([.ref M.o_Rd, .int p0, .int p1, .int p2])).length) Slot.unset).toArray = ls at hl ⊢
  have hl : lv_has ls 5 [(0, .ref M.o_Rd), (1, .int p0), (2, .int p1), (3, .int p2)] := hl
  refine qabs (fun Q hQ => ?_)
  have hB_57 : ∀ (S : CS) (H : Heap) (locs : List Loc) (ls : Array Slot), f_Rd_hasTwin_57 K G S = some (r, S') → va_P (dC, dI) classes (wV M Y G S) H → va_D A (wV M Y G S) → va_S A s.heap H locs → lv_has ls 5 [] → W p l e ({ frames := 2, cells := 0, slots := 0, locals := 46 }) s m ([.ref M.o_Rd, .int p0, .int p1, .int p2] : List Value).toArray below meth c H locs 0 0 Q (F0 m 57 ls []) := by
    intro S H locs ls h hP hD hS hl
    rw [f_Rd_hasTwin_57] at h
    refine lv_iconst (v := 1) hx hb d_Rd_hasTwin_57 (by decide) ?_
    rw [hQ]
    have e1 : (1 : Int32) = r := congrArg Prod.fst (Option.some.inj h)
    have e2 : S = S' := congrArg Prod.snd (Option.some.inj h)
    have hP := ly_newP e2.symm hP
    have hD := ly_newD e2.symm hD
    exact W.zret (v := 1) hx hb hr rfl (fun t ht hW => ⟨⟨1, (), rfl, e1, by rw [ht]; exact hP, va_K.moved hW.alike hK, hD⟩, hS.F ht⟩) hS.2.2 d_Rd_hasTwin_58
  have hB_11 : ∀ (k : Nat), ∀ (y_2 : Int32) (y_3 : Int32) (y_4 : Int32) (S : CS) (H : Heap) (locs : List Loc) (ls : Array Slot), f_Rd_hasTwin_11 K G k y_2 y_3 y_4 S = some (r, S') → va_P (dC, dI) classes (wV M Y G S) H → va_D A (wV M Y G S) → va_S A s.heap H locs → lv_has ls 5 [(0, .ref M.o_Rd), (2, .int y_2), (3, .int y_3), (4, .int y_4)] → W p l e ({ frames := 2, cells := 0, slots := 0, locals := 46 }) s m ([.ref M.o_Rd, .int p0, .int p1, .int p2] : List Value).toArray below meth c H locs 0 0 Q (F0 m 11 ls []) := by
    intro k
    induction k with
    | zero => intro y_2 y_3 y_4 S H locs ls h; exact lf_no h
    | succ k hr_11 =>
      intro y_2 y_3 y_4 S H locs ls h hP hD hS hl
      rw [f_Rd_hasTwin_11] at h
      refine lv_iload hx hb d_Rd_hasTwin_11 (lv_at hl 3 rfl) ?_
      refine lv_aload_n hx hb d_Rd_hasTwin_13 rfl (lv_at hl 0 rfl) ?_
      refine va_get (D := (dC, dI)) (ci := 7) (v := .ref M.o_Tr) (C := R_Rd) (T := F_Rd) (N := 10) hx hb hts (fun w h => u_Vq_Rd w (i_Rd w h)) hown hK hP 5 rfl rfl 2 (by decide) (hts _ (u_Vq_Rd _ k_Rd_12)) (fun _ h9 => h9) rfl d_Rd_hasTwin_14 ?_
      refine va_get (D := (dC, dI)) (ci := 5) (v := .int S.v_Tr_count) (C := R_Tr) (T := F_Tr) (N := 18) hx hb hts (fun w h => u_Vq_Tr w (i_Tr w h)) hown hK hP 4 rfl rfl 0 (by decide) (hts _ (u_Vq_Rd _ k_Rd_3)) (fun _ h9 => h9) rfl d_Rd_hasTwin_17 ?_
      refine lv_icmp_ge (tgt := 65) hx hb d_Rd_hasTwin_20 (by decide) (fun c_2 => ?_) (fun c_2 => ?_)
      · have h := lf_t h c_2
        refine lv_iconst (v := 0) hx hb d_Rd_hasTwin_65 (by decide) ?_
        rw [hQ]
        have e1 : (0 : Int32) = r := congrArg Prod.fst (Option.some.inj h)
        have e2 : S = S' := congrArg Prod.snd (Option.some.inj h)
        have hP := ly_newP e2.symm hP
        have hD := ly_newD e2.symm hD
        exact W.zret (v := 0) hx hb hr rfl (fun t ht hW => ⟨⟨0, (), rfl, e1, by rw [ht]; exact hP, va_K.moved hW.alike hK, hD⟩, hS.F ht⟩) hS.2.2 d_Rd_hasTwin_66
      · have h := lf_f h c_2
        refine lv_aload_n hx hb d_Rd_hasTwin_23 rfl (lv_at hl 0 rfl) ?_
        refine lv_aload_n hx hb d_Rd_hasTwin_24 rfl (lv_at hl 0 rfl) ?_
        refine va_get (D := (dC, dI)) (ci := 7) (v := .ref M.o_Tr) (C := R_Rd) (T := F_Rd) (N := 10) hx hb hts (fun w h => u_Vq_Rd w (i_Rd w h)) hown hK hP 5 rfl rfl 2 (by decide) (hts _ (u_Vq_Rd _ k_Rd_12)) (fun _ h9 => h9) rfl d_Rd_hasTwin_25 ?_
        refine lv_iload hx hb d_Rd_hasTwin_28 (lv_at hl 3 rfl) ?_
        obtain ⟨r_3, S_3, hc_3, h⟩ := lf_cE h
        have hFc := lx_free hD hS hA
        refine va_calli (va_runV (As := [.int y_4]) (rest := [.ref M.o_Rd]) ⟨hx, hb, hml, hown, hts⟩ (l_Tr_spotOf l dC dI X _ hc_3) (cwV 1 hts (gwV good_Vq (u_Vq_Rd _ k_Rd_78) (u_Vq_Tr _ k_Tr_57) (u_Vq_Tr _ k_Tr_58) (u_Vq_Tr _ k_Tr_0) (wcs (u_Vq_Tr _ k_Tr_59) (fun _ h => h))) rfl rfl rfl (by decide +kernel) ⟨Nat.le_of_ble_eq_true rfl, Nat.le_of_ble_eq_true rfl⟩) (pv_ofE (X.same _) (fun U z1 z2 => X.mono _ _ U hFc (hEw _ _ hS U z1 z2)) hP hK hD (va_recv hK hP (ci := 5) (q0 := 4) rfl rfl)) rfl rfl hl.1 rfl (lv_room (Nat.le_of_ble_eq_true rfl)) d_Rd_hasTwin_30 ⟨by decide, by decide⟩) hS (fun q _ h => hFc q h) hFc (fun r_ u t H locs ht hvm hw hB hz1 hk1 hS => ?_)
        rw [hw]
        obtain ⟨hP, -, hD⟩ := hB
        rw [ht] at hP
        have hD := lx_dj hD hFc
        refine lv_iload_n hx hb d_Rd_hasTwin_33 rfl (lv_at hl 1 rfl) ?_
        obtain ⟨r_4, S_4, hc_4, h⟩ := lf_cE h
        have hFc := lx_free hD hS hA
        refine va_calli (va_runV (As := [.int r_3, .int y_2]) (rest := []) ⟨hx, hb, hml, hown, hts⟩ (l_Rd_sameShortName l dC dI X _ hc_4) (cwV 2 hts (gwV good_Vq (u_Vq_Rd _ k_Rd_79) (u_Vq_Rd _ k_Rd_80) (u_Vq_Rd _ k_Rd_108) (u_Vq_Rd _ k_Rd_0) (wcs (u_Vq_Rd _ k_Rd_81) (fun _ h => h))) rfl rfl rfl (by decide +kernel) ⟨Nat.le_of_ble_eq_true rfl, Nat.le_of_ble_eq_true rfl⟩) (pv_ofE (X.same _) (fun U z1 z2 => X.mono _ _ U hFc (hEw _ _ hS U z1 z2)) hP hK hD (va_recv hK hP (ci := 7) (q0 := 5) rfl rfl)) rfl rfl hl.1 rfl (lv_room (Nat.le_of_ble_eq_true rfl)) d_Rd_hasTwin_34 ⟨by decide, by decide⟩) hS (fun q _ h => hFc q h) hFc (fun r_ u t H locs ht hvm hw hB hz1 hk1 hS => ?_)
        rw [hw]
        obtain ⟨hP, -, hD⟩ := hB
        rw [ht] at hP
        have hD := lx_dj hD hFc
        refine lv_if_ne (tgt := 57) hx hb d_Rd_hasTwin_37 (by decide) (fun c_5 => ?_) (fun c_5 => ?_)
        · have h := lf_f h c_5
          exact hB_57 S_4 _ _ _ h hP hD hS (lv_sub hl [] rfl)
        · have h := lf_t h c_5
          refine lv_aload_n hx hb d_Rd_hasTwin_40 rfl (lv_at hl 0 rfl) ?_
          refine va_get (D := (dC, dI)) (ci := 7) (v := .ref M.o_Tr) (C := R_Rd) (T := F_Rd) (N := 10) hx hb hts (fun w h => u_Vq_Rd w (i_Rd w h)) hown hK hP 5 rfl rfl 2 (by decide) (hts _ (u_Vq_Rd _ k_Rd_12)) (fun _ h9 => h9) rfl d_Rd_hasTwin_41 ?_
          refine lv_iload hx hb d_Rd_hasTwin_44 (lv_at hl 3 rfl) ?_
          refine lv_aload_n hx hb d_Rd_hasTwin_46 rfl (lv_at hl 0 rfl) ?_
          refine va_get (D := (dC, dI)) (ci := 7) (v := .ref M.a_Rd_units) (C := R_Rd) (T := F_Rd) (N := 10) hx hb hts (fun w h => u_Vq_Rd w (i_Rd w h)) hown hK hP 5 rfl rfl 6 (by decide) (hts _ (u_Vq_Rd _ k_Rd_16)) (fun _ h9 => h9) rfl d_Rd_hasTwin_47 ?_
          refine lv_iload_n hx hb d_Rd_hasTwin_50 rfl (lv_at hl 2 rfl) ?_
          obtain ⟨r_6, S_6, hc_6, h⟩ := lf_cE h
          have hFc := lx_free hD hS hA
          refine va_calli (va_runV (As := [.int y_4, .ref M.a_Rd_units, .int y_3]) (rest := []) ⟨hx, hb, hml, hown, hts⟩ (l_Tr_isNamed_Rdunits l dC dI X _ hc_6) (cwV 3 hts (gwV good_Vq (u_Vq_Rd _ k_Rd_82) (u_Vq_Tr _ k_Tr_60) (u_Vq_Tr _ k_Tr_61) (u_Vq_Tr _ k_Tr_0) (wcs (u_Vq_Tr _ k_Tr_62) (fun _ h => h))) rfl rfl rfl (by decide +kernel) ⟨Nat.le_of_ble_eq_true rfl, Nat.le_of_ble_eq_true rfl⟩) (pv_ofE (X.same _) (fun U z1 z2 => X.mono _ _ U hFc (hEw _ _ hS U z1 z2)) hP hK hD (va_recv hK hP (ci := 5) (q0 := 4) rfl rfl)) rfl rfl hl.1 rfl (lv_room (Nat.le_of_ble_eq_true rfl)) d_Rd_hasTwin_51 ⟨by decide, by decide⟩) hS (fun q _ h => hFc q h) hFc (fun r_ u t H locs ht hvm hw hB hz1 hk1 hS => ?_)
          rw [hw]
          obtain ⟨hP, -, hD⟩ := hB
          rw [ht] at hP
          have hD := lx_dj hD hFc
          refine lv_if_eq (tgt := 59) hx hb d_Rd_hasTwin_54 (by decide) (fun c_7 => ?_) (fun c_7 => ?_)
          · have h := lf_t h c_7
            obtain ⟨x_8, ex_8, h⟩ := lf_lX h
            refine lv_iinc (v := x_8) (lv' := [(4, .int x_8), (0, .ref M.o_Rd), (2, .int y_2), (3, .int y_3)]) hx hb d_Rd_hasTwin_59 hl (k := 3) rfl (by rw [ex_8]; rfl) (by decide) rfl (fun ls hl => ?_)
            refine lv_goto (tgt := 11) hx hb d_Rd_hasTwin_62 (by decide) ?_
            exact hr_11 y_2 y_3 x_8 S_6 _ _ _ h hP hD hS (lv_sub hl [1, 2, 3, 0] rfl)
          · have h := lf_f h c_7
            exact hB_57 S_6 _ _ _ h hP hD hS (lv_sub hl [] rfl)
  rw [f_Rd_hasTwin] at h
  refine lv_aload_n hx hb d_Rd_hasTwin_0 rfl (lv_at hl 0 rfl) ?_
  refine va_get (D := (dC, dI)) (ci := 7) (v := .ref M.o_Tr) (C := R_Rd) (T := F_Rd) (N := 10) hx hb hts (fun w h => u_Vq_Rd w (i_Rd w h)) hown hK hP 5 rfl rfl 2 (by decide) (hts _ (u_Vq_Rd _ k_Rd_12)) (fun _ h9 => h9) rfl d_Rd_hasTwin_1 ?_
  refine lv_iload_n hx hb d_Rd_hasTwin_4 rfl (lv_at hl 1 rfl) ?_
  refine lv_iconst (v := 0) hx hb d_Rd_hasTwin_5 (by decide) ?_
  obtain ⟨r_1, S_1, hc_1, h⟩ := lf_cE h
  have hFc := lx_free hD hS hA
  refine va_calli (va_runV (As := [.int p0, .int 0]) (rest := []) ⟨hx, hb, hml, hown, hts⟩ (l_Tr_kid l dC dI X _ hc_1) (cwV 2 hts (gwV good_Vq (u_Vq_Rd _ k_Rd_77) (u_Vq_Tr _ k_Tr_54) (u_Vq_Tr _ k_Tr_55) (u_Vq_Tr _ k_Tr_0) (wcs (u_Vq_Tr _ k_Tr_56) (fun _ h => h))) rfl rfl rfl (by decide +kernel) ⟨Nat.le_of_ble_eq_true rfl, Nat.le_of_ble_eq_true rfl⟩) (pv_ofE (X.same _) (fun U z1 z2 => X.mono _ _ U hFc (hEw _ _ hS U z1 z2)) hP hK hD (va_recv hK hP (ci := 5) (q0 := 4) rfl rfl)) rfl rfl hl.1 rfl (lv_room (Nat.le_of_ble_eq_true rfl)) d_Rd_hasTwin_6 ⟨by decide, by decide⟩) hS (fun q _ h => hFc q h) hFc (fun r_ u t H locs ht hvm hw hB hz1 hk1 hS => ?_)
  rw [hw]
  obtain ⟨hP, -, hD⟩ := hB
  rw [ht] at hP
  have hD := lx_dj hD hFc
  refine lv_istore (lv' := [(4, .int r_1), (0, .ref M.o_Rd), (1, .int p0), (2, .int p1), (3, .int p2)]) hx hb d_Rd_hasTwin_9 hl (by decide) rfl (fun ls hl => ?_)
  exact hB_11 K p1 p2 r_1 S_1 _ _ _ h hP hD hS (lv_sub hl [1, 3, 4, 0] rfl)
set_option maxHeartbeats 4000000 in
set_option maxRecDepth 100000 in
theorem l_Rd_unitPlace (l : Launch) (dC : Nat → ClassId) (dI : Nat → Nat → Nat) {K : Nat} (sz : Nat) {p0 : Int32} {r : Int32} (h : f_Rd_unitPlace K p0 = some r) : Met l y_Rd_unitPlace (.code y_Rd_unitPlace b_Rd_unitPlace 1 (some .int) :: V_Vq) ({ frames := 0, cells := 0, slots := 0, locals := 0 }) (va_Pc [.int p0] (fun U => U.heap.size = sz ∧ at_ (dC, dI) (fun _ => True) [] [] U)) (va_Qi (fun (r_ : Int32) (u : Unit) => r_ = r) (fun (u : Unit) t => at_ (dC, dI) (va_A [] sz) [] [] t) (va_A [] sz)) 0 0 (va_A [] sz) := by
  refine Met.ofW (cc := b_Rd_unitPlace) (maxL := 1) (ret := (some .int)) (by decide) rfl ?_
  intro p e s m args below meth c s₁ B hml hv
  obtain ⟨rfl, hsz, hP, hK, hD0⟩ := hv
  have hx := B.exec
  have hb := B.bytes
  have hr := B.returns
  have hts0 := atoms_spec (ws := .code y_Rd_unitPlace b_Rd_unitPlace 1 (some .int) :: V_Vq) B.pre
  have hts : ∀ w ∈ V_Vq, w.before ([.int p0] : List Value).toArray s = true := fun w h => hts0 w (List.mem_cons_of_mem _ h)
  have hown : s.vm.findClass R_Rd = some m.cls := findClass_of_methodNamed B.named
  subst hsz
  have hD := hD0.self (sz := s.heap.size)
  generalize hAe : va_A [] s.heap.size = A at hD ⊢
  have hA : ∀ q : Nat, s.heap.size ≤ q → A q := fun q h => by rw [← hAe]; exact Or.inr h
  have hS : va_S A s.heap s.heap [] := va_S.rf
  have hP : va_P (dC, dI) classes [] s.heap := hP
  have hK : va_K (dC, dI) classes [] s := hK
  have hl := lv_entry ([.int p0]) (n := 1) (Nat.le_of_ble_eq_true rfl)
  rw [lg_entry_eq]
  generalize (lg_sl ([.int p0]) ++ List.replicate (1 - (lg_sl ([.int p0])).length) Slot.unset).toArray = ls at hl ⊢
  have hl : lv_has ls 1 [(0, .int p0)] := hl
  refine qabs (fun Q hQ => ?_)
  rw [f_Rd_unitPlace] at h
  refine lv_iload_n hx hb d_Rd_unitPlace_0 rfl (lv_at hl 0 rfl) ?_
  refine lv_iconst (v := 5) hx hb d_Rd_unitPlace_1 (by decide) ?_
  refine lv_icmp_ge (tgt := 13) hx hb d_Rd_unitPlace_2 (by decide) (fun c_1 => ?_) (fun c_1 => ?_)
  · have h := lf_t h c_1
    refine lv_iload_n hx hb d_Rd_unitPlace_13 rfl (lv_at hl 0 rfl) ?_
    refine lv_bipush (v := 11) hx hb d_Rd_unitPlace_14 (by decide) ?_
    refine lv_icmp_ge (tgt := 27) hx hb d_Rd_unitPlace_16 (by decide) (fun c_2 => ?_) (fun c_2 => ?_)
    · have h := lf_t h c_2
      refine lv_bipush (v := 6) hx hb d_Rd_unitPlace_27 (by decide) ?_
      refine lv_iconst (v := 2) hx hb d_Rd_unitPlace_29 (by decide) ?_
      refine lv_iload_n hx hb d_Rd_unitPlace_30 rfl (lv_at hl 0 rfl) ?_
      refine lv_imul hx hb d_Rd_unitPlace_31 ?_
      refine lv_iadd hx hb d_Rd_unitPlace_32 ?_
      rw [hQ]
      have e1 : (6 + (2 * p0)) = r := Option.some.inj h
      exact W.iret (v := (6 + (2 * p0))) hx hb hr (fun t ht hW => ⟨⟨(6 + (2 * p0)), (), rfl, e1, by rw [ht]; exact hP, va_K.moved hW.alike hK, hD⟩, hS.F ht⟩) hS.2.2 d_Rd_unitPlace_33
    · have h := lf_f h c_2
      refine lv_iconst (v := 4) hx hb d_Rd_unitPlace_19 (by decide) ?_
      refine lv_iconst (v := 2) hx hb d_Rd_unitPlace_20 (by decide) ?_
      refine lv_iload_n hx hb d_Rd_unitPlace_21 rfl (lv_at hl 0 rfl) ?_
      refine lv_imul hx hb d_Rd_unitPlace_22 ?_
      refine lv_iadd hx hb d_Rd_unitPlace_23 ?_
      refine lv_goto (tgt := 33) hx hb d_Rd_unitPlace_24 (by decide) ?_
      rw [hQ]
      have e1 : (4 + (2 * p0)) = r := Option.some.inj h
      exact W.iret (v := (4 + (2 * p0))) hx hb hr (fun t ht hW => ⟨⟨(4 + (2 * p0)), (), rfl, e1, by rw [ht]; exact hP, va_K.moved hW.alike hK, hD⟩, hS.F ht⟩) hS.2.2 d_Rd_unitPlace_33
  · have h := lf_f h c_1
    refine lv_iconst (v := 1) hx hb d_Rd_unitPlace_5 (by decide) ?_
    refine lv_iconst (v := 2) hx hb d_Rd_unitPlace_6 (by decide) ?_
    refine lv_iload_n hx hb d_Rd_unitPlace_7 rfl (lv_at hl 0 rfl) ?_
    refine lv_imul hx hb d_Rd_unitPlace_8 ?_
    refine lv_iadd hx hb d_Rd_unitPlace_9 ?_
    refine lv_goto (tgt := 33) hx hb d_Rd_unitPlace_10 (by decide) ?_
    rw [hQ]
    have e1 : (1 + (2 * p0)) = r := Option.some.inj h
    exact W.iret (v := (1 + (2 * p0))) hx hb hr (fun t ht hW => ⟨⟨(1 + (2 * p0)), (), rfl, e1, by rw [ht]; exact hP, va_K.moved hW.alike hK, hD⟩, hS.F ht⟩) hS.2.2 d_Rd_unitPlace_33
set_option maxHeartbeats 4000000 in
set_option maxRecDepth 100000 in
theorem l_Rd_readPart (l : Launch) (dC : Nat → ClassId) (dI : Nat → Nat → Nat) {K : Nat} {M : CA} {E : (Nat → Prop) → State → Prop} (X : ly_X l dC dI K M E) (sz : Nat) {Y : CT} {G : CG} {S S' : CS} {p0 : Int32} {r : Int32} (h : f_Rd_readPart K G S p0 = some (r, S')) : Met l y_Rd_readPart (.code y_Rd_readPart cb_Rd_readPart 4 (some .boolean) :: V_Vq) ({ frames := 1, cells := 0, slots := 0, locals := 21 }) (va_Pc [.ref M.o_Rd, .int p0] (fun U => U.heap.size = sz ∧ at_ (dC, dI) (fun _ => True) (wV M Y G S) (tV M) U ∧ E (va_A (wV M Y G S) sz) U)) (va_Qi (fun (r_ : Int32) (u : Unit) => r_ = r) (fun (u : Unit) t => at_ (dC, dI) (va_A (wV M Y G S) sz) (wV M Y G S') (tV M) t) (va_A (wV M Y G S) sz)) 0 0 (va_A (wV M Y G S) sz) := by
  refine Met.ofW (cc := cb_Rd_readPart) (maxL := 4) (ret := (some .boolean)) (by decide) rfl ?_
  intro p e s m args below meth c s₁ B hml hv
  obtain ⟨rfl, hsz, ⟨hP, hK, hD0⟩, hE⟩ := hv
  have hx := B.exec
  have hb := B.bytes
  have hr := B.returns
  have hts0 := atoms_spec (ws := .code y_Rd_readPart cb_Rd_readPart 4 (some .boolean) :: V_Vq) B.pre
  have hts : ∀ w ∈ V_Vq, w.before ([.ref M.o_Rd, .int p0] : List Value).toArray s = true := fun w h => hts0 w (List.mem_cons_of_mem _ h)
  have hown : s.vm.findClass R_Rd = some m.cls := findClass_of_methodNamed B.named
  subst hsz
  have hD := hD0.self (sz := s.heap.size)
  generalize hAe : va_A (wV M Y G S) s.heap.size = A at hD hE ⊢
  have hA : ∀ q : Nat, s.heap.size ≤ q → A q := fun q h => by rw [← hAe]; exact Or.inr h
  have hS : va_S A s.heap s.heap [] := va_S.rf
  have hP : va_P (dC, dI) classes (wV M Y G S) s.heap := hP
  have hK : va_K (dC, dI) classes (tV M) s := hK
  have hEw : ∀ (H : Heap) (locs : List Loc), va_S A s.heap H locs → ∀ U : State, U.heap = H → s.WarmedH U.vm → E A U := fun H locs hS U hU hW => X.kept A s U H locs hE hS hU hW
  have hl := lv_entry ([.ref M.o_Rd, .int p0]) (n := 4) (Nat.le_of_ble_eq_true rfl)
  rw [lg_entry_eq]
  generalize (lg_sl ([.ref M.o_Rd, .int p0]) ++ List.replicate (4 - (lg_sl ([.ref M.o_Rd, .int p0])).length) Slot.unset).toArray = ls at hl ⊢
  have hl : lv_has ls 4 [(0, .ref M.o_Rd), (1, .int p0)] := hl
  refine qabs (fun Q hQ => ?_)
  have hB_30 : ∀ (S : CS) (H : Heap) (locs : List Loc) (ls : Array Slot), f_Rd_readPart_30 K G S = some (r, S') → va_P (dC, dI) classes (wV M Y G S) H → va_D A (wV M Y G S) → va_S A s.heap H locs → lv_has ls 4 [] → W p l e ({ frames := 1, cells := 0, slots := 0, locals := 21 }) s m ([.ref M.o_Rd, .int p0] : List Value).toArray below meth c H locs 0 0 Q (F0 m 30 ls []) := by
    intro S H locs ls h hP hD hS hl
    rw [f_Rd_readPart_30] at h
    refine lv_iconst (v := 0) hx hb d_Rd_readPart_30 (by decide) ?_
    rw [hQ]
    have e1 : (0 : Int32) = r := congrArg Prod.fst (Option.some.inj h)
    have e2 : S = S' := congrArg Prod.snd (Option.some.inj h)
    have hP := ly_newP e2.symm hP
    have hD := ly_newD e2.symm hD
    exact W.zret (v := 0) hx hb hr rfl (fun t ht hW => ⟨⟨0, (), rfl, e1, by rw [ht]; exact hP, va_K.moved hW.alike hK, hD⟩, hS.F ht⟩) hS.2.2 d_Rd_readPart_31
  have hB_111 : ∀ (S : CS) (H : Heap) (locs : List Loc) (ls : Array Slot), f_Rd_readPart_111 K G S = some (r, S') → va_P (dC, dI) classes (wV M Y G S) H → va_D A (wV M Y G S) → va_S A s.heap H locs → lv_has ls 4 [] → W p l e ({ frames := 1, cells := 0, slots := 0, locals := 21 }) s m ([.ref M.o_Rd, .int p0] : List Value).toArray below meth c H locs 0 0 Q (F0 m 111 ls []) := by
    intro S H locs ls h hP hD hS hl
    rw [f_Rd_readPart_111] at h
    refine lv_iconst (v := 0) hx hb d_Rd_readPart_111 (by decide) ?_
    rw [hQ]
    have e1 : (0 : Int32) = r := congrArg Prod.fst (Option.some.inj h)
    have e2 : S = S' := congrArg Prod.snd (Option.some.inj h)
    have hP := ly_newP e2.symm hP
    have hD := ly_newD e2.symm hD
    exact W.zret (v := 0) hx hb hr rfl (fun t ht hW => ⟨⟨0, (), rfl, e1, by rw [ht]; exact hP, va_K.moved hW.alike hK, hD⟩, hS.F ht⟩) hS.2.2 d_Rd_readPart_112
  have hB_125 : ∀ (k : Nat), ∀ (y_1 : Int32) (y_3 : Int32) (S : CS) (H : Heap) (locs : List Loc) (ls : Array Slot), f_Rd_readPart_125 K G k y_1 y_3 S = some (r, S') → va_P (dC, dI) classes (wV M Y G S) H → va_D A (wV M Y G S) → va_S A s.heap H locs → lv_has ls 4 [(0, .ref M.o_Rd), (1, .int y_1), (3, .int y_3)] → W p l e ({ frames := 1, cells := 0, slots := 0, locals := 21 }) s m ([.ref M.o_Rd, .int p0] : List Value).toArray below meth c H locs 0 0 Q (F0 m 125 ls []) := by
    intro k
    induction k with
    | zero => intro y_1 y_3 S H locs ls h; exact lf_no h
    | succ k hr_125 =>
      intro y_1 y_3 S H locs ls h hP hD hS hl
      rw [f_Rd_readPart_125] at h
      refine lv_iload_n hx hb d_Rd_readPart_125 rfl (lv_at hl 2 rfl) ?_
      refine lv_bipush (v := 13) hx hb d_Rd_readPart_126 (by decide) ?_
      refine lv_icmp_ge (tgt := 164) hx hb d_Rd_readPart_128 (by decide) (fun c_18 => ?_) (fun c_18 => ?_)
      · have h := lf_t h c_18
        refine lv_iconst (v := 1) hx hb d_Rd_readPart_164 (by decide) ?_
        rw [hQ]
        have e1 : (1 : Int32) = r := congrArg Prod.fst (Option.some.inj h)
        have e2 : S = S' := congrArg Prod.snd (Option.some.inj h)
        have hP := ly_newP e2.symm hP
        have hD := ly_newD e2.symm hD
        exact W.zret (v := 1) hx hb hr rfl (fun t ht hW => ⟨⟨1, (), rfl, e1, by rw [ht]; exact hP, va_K.moved hW.alike hK, hD⟩, hS.F ht⟩) hS.2.2 d_Rd_readPart_165
      · have h := lf_f h c_18
        refine lv_aload_n hx hb d_Rd_readPart_131 rfl (lv_at hl 0 rfl) ?_
        refine va_get (D := (dC, dI)) (ci := 7) (v := .ref M.a_Rd_units) (C := R_Rd) (T := F_Rd) (N := 10) hx hb hts (fun w h => u_Vq_Rd w (i_Rd w h)) hown hK hP 5 rfl rfl 6 (by decide) (hts _ (u_Vq_Rd _ k_Rd_16)) (fun _ h9 => h9) rfl d_Rd_readPart_132 ?_
        refine lv_aload_n hx hb d_Rd_readPart_135 rfl (lv_at hl 0 rfl) ?_
        refine va_get (D := (dC, dI)) (ci := 7) (v := .int S.v_Rd_toCome) (C := R_Rd) (T := F_Rd) (N := 10) hx hb hts (fun w h => u_Vq_Rd w (i_Rd w h)) hown hK hP 5 rfl rfl 8 (by decide) (hts _ (u_Vq_Rd _ k_Rd_18)) (fun _ h9 => h9) rfl d_Rd_readPart_136 ?_
        refine lv_bipush (v := 13) hx hb d_Rd_readPart_139 (by decide) ?_
        refine lv_imul hx hb d_Rd_readPart_141 ?_
        refine lv_iload_n hx hb d_Rd_readPart_142 rfl (lv_at hl 2 rfl) ?_
        refine lv_iadd hx hb d_Rd_readPart_143 ?_
        refine lv_aload_n hx hb d_Rd_readPart_144 rfl (lv_at hl 0 rfl) ?_
        refine va_get (D := (dC, dI)) (ci := 7) (v := .ref M.o_Dk) (C := R_Rd) (T := F_Rd) (N := 10) hx hb hts (fun w h => u_Vq_Rd w (i_Rd w h)) hown hK hP 5 rfl rfl 0 (by decide) (hts _ (u_Vq_Rd _ k_Rd_10)) (fun _ h9 => h9) rfl d_Rd_readPart_145 ?_
        refine lv_iload_n hx hb d_Rd_readPart_148 rfl (lv_at hl 1 rfl) ?_
        refine lv_iload_n hx hb d_Rd_readPart_149 rfl (lv_at hl 2 rfl) ?_
        obtain ⟨r_19, hc_19, h⟩ := lf_bE h
        have hFc := lx_free0 hS hA
        refine va_calli (va_runS (As := [.int y_3]) (rest := [.int y_1, .ref M.o_Dk, .int ((S.v_Rd_toCome * 13) + y_3), .ref M.a_Rd_units]) ⟨hx, hb, hml, hown, hts⟩ (l_Rd_unitPlace l dC dI  _ hc_19) (va_cwS 1 hts (gwS good_Vq (u_Vq_Rd _ k_Rd_53) (u_Vq_Rd _ k_Rd_54) (u_Vq_Rd _ k_Rd_0) (wcs (u_Vq_Rd _ k_Rd_55) (fun _ h => h))) rfl rfl rfl (by decide +kernel) ⟨Nat.le_of_ble_eq_true rfl, Nat.le_of_ble_eq_true rfl⟩) (ps_of (W := []) (tys := []) (hP.sub (ws' := []) [] rfl) (hK.sub [] rfl) (hD.sub (ws' := []) [] (by decide) rfl)) rfl rfl hl.1 rfl (lv_room (Nat.le_of_ble_eq_true rfl)) d_Rd_readPart_150 ⟨by decide, by decide⟩) hS (fun q _ h => hFc q h) hFc (fun r_ u t H locs ht hvm hw hB hz1 hk1 hS => ?_)
        rw [hw]
        have hP := lx_stat (A := A) hP hk1
        refine lv_iadd hx hb d_Rd_readPart_153 ?_
        obtain ⟨r_20, S_20, hc_20, h⟩ := lf_cE h
        have hFc := lx_free hD hS hA
        refine va_calli (va_runV (As := [.int (y_1 + r_19)]) (rest := [.int ((S.v_Rd_toCome * 13) + y_3), .ref M.a_Rd_units]) ⟨hx, hb, hml, hown, hts⟩ (l_Dk_two l dC dI X _ hc_20) (cwV 1 hts (gwV good_Vq (u_Vq_Rd _ k_Rd_49) (u_Vq_Dk _ k_Dk_17) (u_Vq_Dk _ k_Dk_18) (u_Vq_Dk _ k_Dk_0) (wcs (u_Vq_Dk _ k_Dk_19) (fun _ h => h))) rfl rfl rfl (by decide +kernel) ⟨Nat.le_of_ble_eq_true rfl, Nat.le_of_ble_eq_true rfl⟩) (pv_ofE (X.same _) (fun U z1 z2 => X.mono _ _ U hFc (hEw _ _ hS U z1 z2)) hP hK hD (va_recv hK hP (ci := 0) (q0 := 1) rfl rfl)) rfl rfl hl.1 rfl (lv_room (Nat.le_of_ble_eq_true rfl)) d_Rd_readPart_154 ⟨by decide, by decide⟩) hS (fun q _ h => hFc q h) hFc (fun r_ u t H locs ht hvm hw hB hz1 hk1 hS => ?_)
        rw [hw]
        obtain ⟨hP, -, hD⟩ := hB
        rw [ht] at hP
        have hD := lx_dj hD hFc
        obtain ⟨g_21, h⟩ := lf_gE h
        refine va_iast hx hb hK hP hD hS 35 2 rfl rfl g_21 d_Rd_readPart_157 (fun H locs hP hD hS => ?_)
        obtain ⟨S_22, eS_22, h⟩ := lf_lX h
        have hP := ly_newP eS_22 hP
        have hD := ly_newD eS_22 hD
        obtain ⟨x_23, ex_23, h⟩ := lf_lX h
        refine lv_iinc (v := x_23) (lv' := [(3, .int x_23), (0, .ref M.o_Rd), (1, .int y_1)]) hx hb d_Rd_readPart_158 hl (k := 2) rfl (by rw [ex_23]; rfl) (by decide) rfl (fun ls hl => ?_)
        refine lv_goto (tgt := 125) hx hb d_Rd_readPart_161 (by decide) ?_
        exact hr_125 y_1 x_23 S_22 _ _ _ h hP hD hS (lv_sub hl [1, 2, 0] rfl)
  have hB_57 : ∀ (y_1 : Int32) (y_2 : Int32) (S : CS) (H : Heap) (locs : List Loc) (ls : Array Slot), f_Rd_readPart_57 K G y_1 y_2 S = some (r, S') → va_P (dC, dI) classes (wV M Y G S) H → va_D A (wV M Y G S) → va_S A s.heap H locs → lv_has ls 4 [(0, .ref M.o_Rd), (1, .int y_1), (2, .int y_2)] → W p l e ({ frames := 1, cells := 0, slots := 0, locals := 21 }) s m ([.ref M.o_Rd, .int p0] : List Value).toArray below meth c H locs 0 0 Q (F0 m 57 ls []) := by
    intro y_1 y_2 S H locs ls h hP hD hS hl
    rw [f_Rd_readPart_57] at h
    refine lv_iload_n hx hb d_Rd_readPart_57 rfl (lv_at hl 2 rfl) ?_
    refine lv_aload_n hx hb d_Rd_readPart_58 rfl (lv_at hl 0 rfl) ?_
    refine va_get (D := (dC, dI)) (ci := 7) (v := .int S.v_Rd_toCome) (C := R_Rd) (T := F_Rd) (N := 10) hx hb hts (fun w h => u_Vq_Rd w (i_Rd w h)) hown hK hP 5 rfl rfl 8 (by decide) (hts _ (u_Vq_Rd _ k_Rd_18)) (fun _ h9 => h9) rfl d_Rd_readPart_59 ?_
    refine lv_icmp_ne (tgt := 111) hx hb d_Rd_readPart_62 (by decide) (fun c_10 => ?_) (fun c_10 => ?_)
    · have h := lf_f h c_10
      exact hB_111 S _ _ _ h hP hD hS (lv_sub hl [] rfl)
    · have h := lf_t h c_10
      refine lv_aload_n hx hb d_Rd_readPart_65 rfl (lv_at hl 0 rfl) ?_
      refine va_get (D := (dC, dI)) (ci := 7) (v := .ref M.o_Dk) (C := R_Rd) (T := F_Rd) (N := 10) hx hb hts (fun w h => u_Vq_Rd w (i_Rd w h)) hown hK hP 5 rfl rfl 0 (by decide) (hts _ (u_Vq_Rd _ k_Rd_10)) (fun _ h9 => h9) rfl d_Rd_readPart_66 ?_
      refine lv_iload_n hx hb d_Rd_readPart_69 rfl (lv_at hl 1 rfl) ?_
      refine lv_bipush (v := 12) hx hb d_Rd_readPart_70 (by decide) ?_
      refine lv_iadd hx hb d_Rd_readPart_72 ?_
      obtain ⟨r_11, S_11, hc_11, h⟩ := lf_cE h
      have hFc := lx_free hD hS hA
      refine va_calli (va_runV (As := [.int (y_1 + 12)]) (rest := []) ⟨hx, hb, hml, hown, hts⟩ (l_Dk_one l dC dI X _ hc_11) (cwV 1 hts (gwV good_Vq (u_Vq_Rd _ k_Rd_41) (u_Vq_Dk _ k_Dk_20) (u_Vq_Dk _ k_Dk_21) (u_Vq_Dk _ k_Dk_0) (wcs (u_Vq_Dk _ k_Dk_22) (fun _ h => h))) rfl rfl rfl (by decide +kernel) ⟨Nat.le_of_ble_eq_true rfl, Nat.le_of_ble_eq_true rfl⟩) (pv_ofE (X.same _) (fun U z1 z2 => X.mono _ _ U hFc (hEw _ _ hS U z1 z2)) hP hK hD (va_recv hK hP (ci := 0) (q0 := 1) rfl rfl)) rfl rfl hl.1 rfl (lv_room (Nat.le_of_ble_eq_true rfl)) d_Rd_readPart_73 ⟨by decide, by decide⟩) hS (fun q _ h => hFc q h) hFc (fun r_ u t H locs ht hvm hw hB hz1 hk1 hS => ?_)
      rw [hw]
      obtain ⟨hP, -, hD⟩ := hB
      rw [ht] at hP
      have hD := lx_dj hD hFc
      refine lv_if_ne (tgt := 111) hx hb d_Rd_readPart_76 (by decide) (fun c_12 => ?_) (fun c_12 => ?_)
      · have h := lf_f h c_12
        exact hB_111 S_11 _ _ _ h hP hD hS (lv_sub hl [] rfl)
      · have h := lf_t h c_12
        refine lv_aload_n hx hb d_Rd_readPart_79 rfl (lv_at hl 0 rfl) ?_
        refine va_get (D := (dC, dI)) (ci := 7) (v := .ref M.o_Dk) (C := R_Rd) (T := F_Rd) (N := 10) hx hb hts (fun w h => u_Vq_Rd w (i_Rd w h)) hown hK hP 5 rfl rfl 0 (by decide) (hts _ (u_Vq_Rd _ k_Rd_10)) (fun _ h9 => h9) rfl d_Rd_readPart_80 ?_
        refine lv_iload_n hx hb d_Rd_readPart_83 rfl (lv_at hl 1 rfl) ?_
        refine lv_bipush (v := 26) hx hb d_Rd_readPart_84 (by decide) ?_
        refine lv_iadd hx hb d_Rd_readPart_86 ?_
        obtain ⟨r_13, S_13, hc_13, h⟩ := lf_cE h
        have hFc := lx_free hD hS hA
        refine va_calli (va_runV (As := [.int (y_1 + 26)]) (rest := []) ⟨hx, hb, hml, hown, hts⟩ (l_Dk_two l dC dI X _ hc_13) (cwV 1 hts (gwV good_Vq (u_Vq_Rd _ k_Rd_49) (u_Vq_Dk _ k_Dk_17) (u_Vq_Dk _ k_Dk_18) (u_Vq_Dk _ k_Dk_0) (wcs (u_Vq_Dk _ k_Dk_19) (fun _ h => h))) rfl rfl rfl (by decide +kernel) ⟨Nat.le_of_ble_eq_true rfl, Nat.le_of_ble_eq_true rfl⟩) (pv_ofE (X.same _) (fun U z1 z2 => X.mono _ _ U hFc (hEw _ _ hS U z1 z2)) hP hK hD (va_recv hK hP (ci := 0) (q0 := 1) rfl rfl)) rfl rfl hl.1 rfl (lv_room (Nat.le_of_ble_eq_true rfl)) d_Rd_readPart_87 ⟨by decide, by decide⟩) hS (fun q _ h => hFc q h) hFc (fun r_ u t H locs ht hvm hw hB hz1 hk1 hS => ?_)
        rw [hw]
        obtain ⟨hP, -, hD⟩ := hB
        rw [ht] at hP
        have hD := lx_dj hD hFc
        refine lv_if_ne (tgt := 111) hx hb d_Rd_readPart_90 (by decide) (fun c_14 => ?_) (fun c_14 => ?_)
        · have h := lf_f h c_14
          exact hB_111 S_13 _ _ _ h hP hD hS (lv_sub hl [] rfl)
        · have h := lf_t h c_14
          refine lv_aload_n hx hb d_Rd_readPart_93 rfl (lv_at hl 0 rfl) ?_
          refine va_get (D := (dC, dI)) (ci := 7) (v := .ref M.o_Dk) (C := R_Rd) (T := F_Rd) (N := 10) hx hb hts (fun w h => u_Vq_Rd w (i_Rd w h)) hown hK hP 5 rfl rfl 0 (by decide) (hts _ (u_Vq_Rd _ k_Rd_10)) (fun _ h9 => h9) rfl d_Rd_readPart_94 ?_
          refine lv_iload_n hx hb d_Rd_readPart_97 rfl (lv_at hl 1 rfl) ?_
          refine lv_bipush (v := 13) hx hb d_Rd_readPart_98 (by decide) ?_
          refine lv_iadd hx hb d_Rd_readPart_100 ?_
          obtain ⟨r_15, S_15, hc_15, h⟩ := lf_cE h
          have hFc := lx_free hD hS hA
          refine va_calli (va_runV (As := [.int (y_1 + 13)]) (rest := []) ⟨hx, hb, hml, hown, hts⟩ (l_Dk_one l dC dI X _ hc_15) (cwV 1 hts (gwV good_Vq (u_Vq_Rd _ k_Rd_41) (u_Vq_Dk _ k_Dk_20) (u_Vq_Dk _ k_Dk_21) (u_Vq_Dk _ k_Dk_0) (wcs (u_Vq_Dk _ k_Dk_22) (fun _ h => h))) rfl rfl rfl (by decide +kernel) ⟨Nat.le_of_ble_eq_true rfl, Nat.le_of_ble_eq_true rfl⟩) (pv_ofE (X.same _) (fun U z1 z2 => X.mono _ _ U hFc (hEw _ _ hS U z1 z2)) hP hK hD (va_recv hK hP (ci := 0) (q0 := 1) rfl rfl)) rfl rfl hl.1 rfl (lv_room (Nat.le_of_ble_eq_true rfl)) d_Rd_readPart_101 ⟨by decide, by decide⟩) hS (fun q _ h => hFc q h) hFc (fun r_ u t H locs ht hvm hw hB hz1 hk1 hS => ?_)
          rw [hw]
          obtain ⟨hP, -, hD⟩ := hB
          rw [ht] at hP
          have hD := lx_dj hD hFc
          refine lv_aload_n hx hb d_Rd_readPart_104 rfl (lv_at hl 0 rfl) ?_
          refine va_get (D := (dC, dI)) (ci := 7) (v := .int S_15.v_Rd_sum) (C := R_Rd) (T := F_Rd) (N := 10) hx hb hts (fun w h => u_Vq_Rd w (i_Rd w h)) hown hK hP 5 rfl rfl 9 (by decide) (hts _ (u_Vq_Rd _ k_Rd_19)) (fun _ h9 => h9) rfl d_Rd_readPart_105 ?_
          refine lv_icmp_eq (tgt := 113) hx hb d_Rd_readPart_108 (by decide) (fun c_16 => ?_) (fun c_16 => ?_)
          · have h := lf_t h c_16
            refine lv_aload_n hx hb d_Rd_readPart_113 rfl (lv_at hl 0 rfl) ?_
            refine lv_dup hx hb d_Rd_readPart_114 rfl ?_
            refine va_get (D := (dC, dI)) (ci := 7) (v := .int S_15.v_Rd_toCome) (C := R_Rd) (T := F_Rd) (N := 10) hx hb hts (fun w h => u_Vq_Rd w (i_Rd w h)) hown hK hP 5 rfl rfl 8 (by decide) (hts _ (u_Vq_Rd _ k_Rd_18)) (fun _ h9 => h9) rfl d_Rd_readPart_115 ?_
            refine lv_iconst (v := 1) hx hb d_Rd_readPart_118 (by decide) ?_
            refine lv_isub hx hb d_Rd_readPart_119 ?_
            refine va_put (D := (dC, dI)) (ci := 7) (v := .int (S_15.v_Rd_toCome - 1)) (ty := .int) (C := R_Rd) (T := F_Rd) (N := 10) hx hb hts (fun w h => u_Vq_Rd w (i_Rd w h)) t_Rd t_Rd_ok n_Rd hown hK hP hD hS 5 rfl rfl 8 (by decide) (hts _ (u_Vq_Rd _ k_Rd_18)) (fun _ h9 => h9) rfl (by decide +kernel) rfl rfl (Nat.le_of_ble_eq_true rfl) d_Rd_readPart_120 (fun H locs hP hD hS => ?_)
            obtain ⟨S_17, eS_17, h⟩ := lf_lX h
            have hP := ly_newP eS_17 hP
            have hD := ly_newD eS_17 hD
            refine lv_iconst (v := 0) hx hb d_Rd_readPart_123 (by decide) ?_
            refine lv_istore_n (lv' := [(3, .int 0), (0, .ref M.o_Rd), (1, .int y_1), (2, .int y_2)]) hx hb d_Rd_readPart_124 rfl hl (by decide) rfl (fun ls hl => ?_)
            exact hB_125 K y_1 0 S_17 _ _ _ h hP hD hS (lv_sub hl [1, 2, 0] rfl)
          · have h := lf_f h c_16
            exact hB_111 S_15 _ _ _ h hP hD hS (lv_sub hl [] rfl)
  rw [f_Rd_readPart] at h
  refine lv_aload_n hx hb d_Rd_readPart_0 rfl (lv_at hl 0 rfl) ?_
  refine va_get (D := (dC, dI)) (ci := 7) (v := .ref M.o_Dk) (C := R_Rd) (T := F_Rd) (N := 10) hx hb hts (fun w h => u_Vq_Rd w (i_Rd w h)) hown hK hP 5 rfl rfl 0 (by decide) (hts _ (u_Vq_Rd _ k_Rd_10)) (fun _ h9 => h9) rfl d_Rd_readPart_1 ?_
  refine lv_iload_n hx hb d_Rd_readPart_4 rfl (lv_at hl 1 rfl) ?_
  obtain ⟨r_1, S_1, hc_1, h⟩ := lf_cE h
  have hFc := lx_free hD hS hA
  refine va_calli (va_runV (As := [.int p0]) (rest := []) ⟨hx, hb, hml, hown, hts⟩ (l_Dk_one l dC dI X _ hc_1) (cwV 1 hts (gwV good_Vq (u_Vq_Rd _ k_Rd_41) (u_Vq_Dk _ k_Dk_20) (u_Vq_Dk _ k_Dk_21) (u_Vq_Dk _ k_Dk_0) (wcs (u_Vq_Dk _ k_Dk_22) (fun _ h => h))) rfl rfl rfl (by decide +kernel) ⟨Nat.le_of_ble_eq_true rfl, Nat.le_of_ble_eq_true rfl⟩) (pv_ofE (X.same _) (fun U z1 z2 => X.mono _ _ U hFc (hEw _ _ hS U z1 z2)) hP hK hD (va_recv hK hP (ci := 0) (q0 := 1) rfl rfl)) rfl rfl hl.1 rfl (lv_room (Nat.le_of_ble_eq_true rfl)) d_Rd_readPart_5 ⟨by decide, by decide⟩) hS (fun q _ h => hFc q h) hFc (fun r_ u t H locs ht hvm hw hB hz1 hk1 hS => ?_)
  rw [hw]
  obtain ⟨hP, -, hD⟩ := hB
  rw [ht] at hP
  have hD := lx_dj hD hFc
  refine lv_istore_n (lv' := [(2, .int r_1), (0, .ref M.o_Rd), (1, .int p0)]) hx hb d_Rd_readPart_8 rfl hl (by decide) rfl (fun ls hl => ?_)
  refine lv_aload_n hx hb d_Rd_readPart_9 rfl (lv_at hl 1 rfl) ?_
  refine va_get (D := (dC, dI)) (ci := 7) (v := .int S_1.v_Rd_parts) (C := R_Rd) (T := F_Rd) (N := 10) hx hb hts (fun w h => u_Vq_Rd w (i_Rd w h)) hown hK hP 5 rfl rfl 7 (by decide) (hts _ (u_Vq_Rd _ k_Rd_17)) (fun _ h9 => h9) rfl d_Rd_readPart_10 ?_
  refine lv_if_ne (tgt := 57) hx hb d_Rd_readPart_13 (by decide) (fun c_2 => ?_) (fun c_2 => ?_)
  · have h := lf_f h c_2
    exact hB_57 p0 r_1 S_1 _ _ _ h hP hD hS (lv_sub hl [1, 2, 0] rfl)
  · have h := lf_t h c_2
    obtain ⟨x_3, ex_3, h⟩ := lf_lX h
    refine lv_iinc (v := x_3) (lv' := [(2, .int x_3), (0, .ref M.o_Rd), (1, .int p0)]) hx hb d_Rd_readPart_16 hl (k := 0) rfl (by rw [ex_3]; rfl) (by decide) rfl (fun ls hl => ?_)
    refine lv_iload_n hx hb d_Rd_readPart_19 rfl (lv_at hl 0 rfl) ?_
    refine lv_iconst (v := 1) hx hb d_Rd_readPart_20 (by decide) ?_
    refine lv_icmp_lt (tgt := 30) hx hb d_Rd_readPart_21 (by decide) (fun c_4 => ?_) (fun c_4 => ?_)
    · have h := lf_t h c_4
      exact hB_30 S_1 _ _ _ h hP hD hS (lv_sub hl [] rfl)
    · have h := lf_f h c_4
      refine lv_iload_n hx hb d_Rd_readPart_24 rfl (lv_at hl 0 rfl) ?_
      refine lv_bipush (v := 20) hx hb d_Rd_readPart_25 (by decide) ?_
      refine lv_icmp_le (tgt := 32) hx hb d_Rd_readPart_27 (by decide) (fun c_5 => ?_) (fun c_5 => ?_)
      · have h := lf_t h c_5
        refine lv_aload_n hx hb d_Rd_readPart_32 rfl (lv_at hl 1 rfl) ?_
        refine lv_iload_n hx hb d_Rd_readPart_33 rfl (lv_at hl 0 rfl) ?_
        refine va_put (D := (dC, dI)) (ci := 7) (v := .int x_3) (ty := .int) (C := R_Rd) (T := F_Rd) (N := 10) hx hb hts (fun w h => u_Vq_Rd w (i_Rd w h)) t_Rd t_Rd_ok n_Rd hown hK hP hD hS 5 rfl rfl 7 (by decide) (hts _ (u_Vq_Rd _ k_Rd_17)) (fun _ h9 => h9) rfl (by decide +kernel) rfl rfl (Nat.le_of_ble_eq_true rfl) d_Rd_readPart_34 (fun H locs hP hD hS => ?_)
        obtain ⟨S_6, eS_6, h⟩ := lf_lX h
        have hP := ly_newP eS_6 hP
        have hD := ly_newD eS_6 hD
        refine lv_aload_n hx hb d_Rd_readPart_37 rfl (lv_at hl 1 rfl) ?_
        refine lv_iload_n hx hb d_Rd_readPart_38 rfl (lv_at hl 0 rfl) ?_
        refine va_put (D := (dC, dI)) (ci := 7) (v := .int x_3) (ty := .int) (C := R_Rd) (T := F_Rd) (N := 10) hx hb hts (fun w h => u_Vq_Rd w (i_Rd w h)) t_Rd t_Rd_ok n_Rd hown hK hP hD hS 5 rfl rfl 8 (by decide) (hts _ (u_Vq_Rd _ k_Rd_18)) (fun _ h9 => h9) rfl (by decide +kernel) rfl rfl (Nat.le_of_ble_eq_true rfl) d_Rd_readPart_39 (fun H locs hP hD hS => ?_)
        obtain ⟨S_7, eS_7, h⟩ := lf_lX h
        have hP := ly_newP eS_7 hP
        have hD := ly_newD eS_7 hD
        refine lv_aload_n hx hb d_Rd_readPart_42 rfl (lv_at hl 1 rfl) ?_
        refine lv_aload_n hx hb d_Rd_readPart_43 rfl (lv_at hl 1 rfl) ?_
        refine va_get (D := (dC, dI)) (ci := 7) (v := .ref M.o_Dk) (C := R_Rd) (T := F_Rd) (N := 10) hx hb hts (fun w h => u_Vq_Rd w (i_Rd w h)) hown hK hP 5 rfl rfl 0 (by decide) (hts _ (u_Vq_Rd _ k_Rd_10)) (fun _ h9 => h9) rfl d_Rd_readPart_44 ?_
        refine lv_iload_n hx hb d_Rd_readPart_47 rfl (lv_at hl 2 rfl) ?_
        refine lv_bipush (v := 13) hx hb d_Rd_readPart_48 (by decide) ?_
        refine lv_iadd hx hb d_Rd_readPart_50 ?_
        obtain ⟨r_8, S_8, hc_8, h⟩ := lf_cE h
        have hFc := lx_free hD hS hA
        refine va_calli (va_runV (As := [.int (p0 + 13)]) (rest := [.ref M.o_Rd]) ⟨hx, hb, hml, hown, hts⟩ (l_Dk_one l dC dI X _ hc_8) (cwV 1 hts (gwV good_Vq (u_Vq_Rd _ k_Rd_41) (u_Vq_Dk _ k_Dk_20) (u_Vq_Dk _ k_Dk_21) (u_Vq_Dk _ k_Dk_0) (wcs (u_Vq_Dk _ k_Dk_22) (fun _ h => h))) rfl rfl rfl (by decide +kernel) ⟨Nat.le_of_ble_eq_true rfl, Nat.le_of_ble_eq_true rfl⟩) (pv_ofE (X.same _) (fun U z1 z2 => X.mono _ _ U hFc (hEw _ _ hS U z1 z2)) hP hK hD (va_recv hK hP (ci := 0) (q0 := 1) rfl rfl)) rfl rfl hl.1 rfl (lv_room (Nat.le_of_ble_eq_true rfl)) d_Rd_readPart_51 ⟨by decide, by decide⟩) hS (fun q _ h => hFc q h) hFc (fun r_ u t H locs ht hvm hw hB hz1 hk1 hS => ?_)
        rw [hw]
        obtain ⟨hP, -, hD⟩ := hB
        rw [ht] at hP
        have hD := lx_dj hD hFc
        refine va_put (D := (dC, dI)) (ci := 7) (v := .int r_8) (ty := .int) (C := R_Rd) (T := F_Rd) (N := 10) hx hb hts (fun w h => u_Vq_Rd w (i_Rd w h)) t_Rd t_Rd_ok n_Rd hown hK hP hD hS 5 rfl rfl 9 (by decide) (hts _ (u_Vq_Rd _ k_Rd_19)) (fun _ h9 => h9) rfl (by decide +kernel) rfl rfl (Nat.le_of_ble_eq_true rfl) d_Rd_readPart_54 (fun H locs hP hD hS => ?_)
        obtain ⟨S_9, eS_9, h⟩ := lf_lX h
        have hP := ly_newP eS_9 hP
        have hD := ly_newD eS_9 hD
        exact hB_57 p0 x_3 S_9 _ _ _ h hP hD hS (lv_sub hl [1, 2, 0] rfl)
      · have h := lf_f h c_5
        exact hB_30 S_1 _ _ _ h hP hD hS (lv_sub hl [] rfl)
set_option maxHeartbeats 4000000 in
set_option maxRecDepth 100000 in
theorem l_Rd_follow_RdfileRoad (l : Launch) (dC : Nat → ClassId) (dI : Nat → Nat → Nat) {K : Nat} {M : CA} {E : (Nat → Prop) → State → Prop} (X : ly_X l dC dI K M E) (sz : Nat) {Y : CT} {G : CG} {S S' : CS} {p0 : Int32} {r : Int32} (h : f_Rd_follow_RdfileRoad K G S p0 = some (r, S')) : Met l y_Rd_follow (.code y_Rd_follow b_Rd_follow 5 (some .int) :: V_Vq) ({ frames := 1, cells := 0, slots := 0, locals := 21 }) (va_Pc [.ref M.o_Rd, .int p0, .ref M.a_Rd_fileRoad] (fun U => U.heap.size = sz ∧ at_ (dC, dI) (fun _ => True) (wV M Y G S) (tV M) U ∧ E (va_A (wV M Y G S) sz) U)) (va_Qi (fun (r_ : Int32) (u : Unit) => r_ = r) (fun (u : Unit) t => at_ (dC, dI) (va_A (wV M Y G S) sz) (wV M Y G S') (tV M) t) (va_A (wV M Y G S) sz)) 0 0 (va_A (wV M Y G S) sz) := by
  refine Met.ofW (cc := b_Rd_follow) (maxL := 5) (ret := (some .int)) (by decide) rfl ?_
  intro p e s m args below meth c s₁ B hml hv
  obtain ⟨rfl, hsz, ⟨hP, hK, hD0⟩, hE⟩ := hv
  have hx := B.exec
  have hb := B.bytes
  have hr := B.returns
  have hts0 := atoms_spec (ws := .code y_Rd_follow b_Rd_follow 5 (some .int) :: V_Vq) B.pre
  have hts : ∀ w ∈ V_Vq, w.before ([.ref M.o_Rd, .int p0, .ref M.a_Rd_fileRoad] : List Value).toArray s = true := fun w h => hts0 w (List.mem_cons_of_mem _ h)
  have hown : s.vm.findClass R_Rd = some m.cls := findClass_of_methodNamed B.named
  subst hsz
  have hD := hD0.self (sz := s.heap.size)
  generalize hAe : va_A (wV M Y G S) s.heap.size = A at hD hE ⊢
  have hA : ∀ q : Nat, s.heap.size ≤ q → A q := fun q h => by rw [← hAe]; exact Or.inr h
  have hS : va_S A s.heap s.heap [] := va_S.rf
  have hP : va_P (dC, dI) classes (wV M Y G S) s.heap := hP
  have hK : va_K (dC, dI) classes (tV M) s := hK
  have hEw : ∀ (H : Heap) (locs : List Loc), va_S A s.heap H locs → ∀ U : State, U.heap = H → s.WarmedH U.vm → E A U := fun H locs hS U hU hW => X.kept A s U H locs hE hS hU hW
  have hl := lv_entry ([.ref M.o_Rd, .int p0, .ref M.a_Rd_fileRoad]) (n := 5) (Nat.le_of_ble_eq_true rfl)
  rw [lg_entry_eq]
  generalize (lg_sl ([.ref M.o_Rd, .int p0, .ref M.a_Rd_fileRoad]) ++ List.replicate (5 - (lg_sl ([.ref M.o_Rd, .int p0, .ref M.a_Rd_fileRoad])).length) Slot.unset).toArray = ls at hl ⊢
  have hl : lv_has ls 5 [(0, .ref M.o_Rd), (1, .int p0), (2, .ref M.a_Rd_fileRoad)] := hl
  refine qabs (fun Q hQ => ?_)
  have hB_41 : ∀ (S : CS) (H : Heap) (locs : List Loc) (ls : Array Slot), f_Rd_follow_RdfileRoad_41 K G S = some (r, S') → va_P (dC, dI) classes (wV M Y G S) H → va_D A (wV M Y G S) → va_S A s.heap H locs → lv_has ls 5 [] → W p l e ({ frames := 1, cells := 0, slots := 0, locals := 21 }) s m ([.ref M.o_Rd, .int p0, .ref M.a_Rd_fileRoad] : List Value).toArray below meth c H locs 0 0 Q (F0 m 41 ls []) := by
    intro S H locs ls h hP hD hS hl
    rw [f_Rd_follow_RdfileRoad_41] at h
    refine lv_iconst (v := (-1)) hx hb d_Rd_follow_41 (by decide) ?_
    rw [hQ]
    have e1 : ((-1)) = r := congrArg Prod.fst (Option.some.inj h)
    have e2 : S = S' := congrArg Prod.snd (Option.some.inj h)
    have hP := ly_newP e2.symm hP
    have hD := ly_newD e2.symm hD
    exact W.iret (v := ((-1))) hx hb hr (fun t ht hW => ⟨⟨((-1)), (), rfl, e1, by rw [ht]; exact hP, va_K.moved hW.alike hK, hD⟩, hS.F ht⟩) hS.2.2 d_Rd_follow_42
  have hB_5 : ∀ (k : Nat), ∀ (y_3 : Int32) (y_4 : Int32) (S : CS) (H : Heap) (locs : List Loc) (ls : Array Slot), f_Rd_follow_RdfileRoad_5 K G k y_3 y_4 S = some (r, S') → va_P (dC, dI) classes (wV M Y G S) H → va_D A (wV M Y G S) → va_S A s.heap H locs → lv_has ls 5 [(0, .ref M.o_Rd), (2, .ref M.a_Rd_fileRoad), (3, .int y_3), (4, .int y_4)] → W p l e ({ frames := 1, cells := 0, slots := 0, locals := 21 }) s m ([.ref M.o_Rd, .int p0, .ref M.a_Rd_fileRoad] : List Value).toArray below meth c H locs 0 0 Q (F0 m 5 ls []) := by
    intro k
    induction k with
    | zero => intro y_3 y_4 S H locs ls h; exact lf_no h
    | succ k hr_5 =>
      intro y_3 y_4 S H locs ls h hP hD hS hl
      rw [f_Rd_follow_RdfileRoad_5] at h
      refine lv_iload hx hb d_Rd_follow_5 (lv_at hl 3 rfl) ?_
      refine lv_aload_n hx hb d_Rd_follow_7 rfl (lv_at hl 1 rfl) ?_
      refine va_alen (v := nI (G.n / 2 + 2)) hx hb hK hP 34 2 rfl rfl rfl d_Rd_follow_8 ?_
      refine lv_icmp_ge (tgt := 81) hx hb d_Rd_follow_9 (by decide) (fun c_1 => ?_) (fun c_1 => ?_)
      · have h := lf_t h c_1
        refine lv_iconst (v := (-1)) hx hb d_Rd_follow_81 (by decide) ?_
        rw [hQ]
        have e1 : ((-1)) = r := congrArg Prod.fst (Option.some.inj h)
        have e2 : S = S' := congrArg Prod.snd (Option.some.inj h)
        have hP := ly_newP e2.symm hP
        have hD := ly_newD e2.symm hD
        exact W.iret (v := ((-1))) hx hb hr (fun t ht hW => ⟨⟨((-1)), (), rfl, e1, by rw [ht]; exact hP, va_K.moved hW.alike hK, hD⟩, hS.F ht⟩) hS.2.2 d_Rd_follow_82
      · have h := lf_f h c_1
        refine lv_aload_n hx hb d_Rd_follow_12 rfl (lv_at hl 0 rfl) ?_
        refine va_get (D := (dC, dI)) (ci := 7) (v := .ref M.o_Tb) (C := R_Rd) (T := F_Rd) (N := 10) hx hb hts (fun w h => u_Vq_Rd w (i_Rd w h)) hown hK hP 5 rfl rfl 1 (by decide) (hts _ (u_Vq_Rd _ k_Rd_11)) (fun _ h9 => h9) rfl d_Rd_follow_13 ?_
        refine lv_iload_n hx hb d_Rd_follow_16 rfl (lv_at hl 2 rfl) ?_
        obtain ⟨r_2, S_2, hc_2, h⟩ := lf_cE h
        have hFc := lx_free hD hS hA
        refine va_calli (va_runV (As := [.int y_3]) (rest := []) ⟨hx, hb, hml, hown, hts⟩ (l_Tb_nextOf l dC dI X _ hc_2) (cwV 1 hts (gwV good_Vq (u_Vq_Rd _ k_Rd_35) (u_Vq_Tb _ k_Tb_43) (u_Vq_Tb _ k_Tb_44) (u_Vq_Tb _ k_Tb_0) (wcs (u_Vq_Tb _ k_Tb_45) (fun _ h => h))) rfl rfl rfl (by decide +kernel) ⟨Nat.le_of_ble_eq_true rfl, Nat.le_of_ble_eq_true rfl⟩) (pv_ofE (X.same _) (fun U z1 z2 => X.mono _ _ U hFc (hEw _ _ hS U z1 z2)) hP hK hD (va_recv hK hP (ci := 4) (q0 := 3) rfl rfl)) rfl rfl hl.1 rfl (lv_room (Nat.le_of_ble_eq_true rfl)) d_Rd_follow_17 ⟨by decide, by decide⟩) hS (fun q _ h => hFc q h) hFc (fun r_ u t H locs ht hvm hw hB hz1 hk1 hS => ?_)
        rw [hw]
        obtain ⟨hP, -, hD⟩ := hB
        rw [ht] at hP
        have hD := lx_dj hD hFc
        refine lv_if_eq (tgt := 41) hx hb d_Rd_follow_20 (by decide) (fun c_3 => ?_) (fun c_3 => ?_)
        · have h := lf_t h c_3
          exact hB_41 S_2 _ _ _ h hP hD hS (lv_sub hl [] rfl)
        · have h := lf_f h c_3
          refine lv_iload_n hx hb d_Rd_follow_23 rfl (lv_at hl 2 rfl) ?_
          refine lv_aload_n hx hb d_Rd_follow_24 rfl (lv_at hl 0 rfl) ?_
          refine va_get (D := (dC, dI)) (ci := 7) (v := .ref M.a_Rd_taken) (C := R_Rd) (T := F_Rd) (N := 10) hx hb hts (fun w h => u_Vq_Rd w (i_Rd w h)) hown hK hP 5 rfl rfl 3 (by decide) (hts _ (u_Vq_Rd _ k_Rd_13)) (fun _ h9 => h9) rfl d_Rd_follow_25 ?_
          refine va_alen (v := nI (G.n / 2 + 2)) hx hb hK hP 32 1 rfl rfl rfl d_Rd_follow_28 ?_
          refine lv_icmp_ge (tgt := 41) hx hb d_Rd_follow_29 (by decide) (fun c_4 => ?_) (fun c_4 => ?_)
          · have h := lf_t h c_4
            exact hB_41 S_2 _ _ _ h hP hD hS (lv_sub hl [] rfl)
          · have h := lf_f h c_4
            refine lv_aload_n hx hb d_Rd_follow_32 rfl (lv_at hl 0 rfl) ?_
            refine va_get (D := (dC, dI)) (ci := 7) (v := .ref M.a_Rd_taken) (C := R_Rd) (T := F_Rd) (N := 10) hx hb hts (fun w h => u_Vq_Rd w (i_Rd w h)) hown hK hP 5 rfl rfl 3 (by decide) (hts _ (u_Vq_Rd _ k_Rd_13)) (fun _ h9 => h9) rfl d_Rd_follow_33 ?_
            refine lv_iload_n hx hb d_Rd_follow_36 rfl (lv_at hl 2 rfl) ?_
            obtain ⟨g_5, h⟩ := lf_gE h
            refine va_zald hx hb hK hP 32 1 rfl rfl g_5 d_Rd_follow_37 ?_
            refine lv_if_eq (tgt := 43) hx hb d_Rd_follow_38 (by decide) (fun c_6 => ?_) (fun c_6 => ?_)
            · have h := lf_t h c_6
              refine lv_aload_n hx hb d_Rd_follow_43 rfl (lv_at hl 0 rfl) ?_
              refine va_get (D := (dC, dI)) (ci := 7) (v := .ref M.a_Rd_taken) (C := R_Rd) (T := F_Rd) (N := 10) hx hb hts (fun w h => u_Vq_Rd w (i_Rd w h)) hown hK hP 5 rfl rfl 3 (by decide) (hts _ (u_Vq_Rd _ k_Rd_13)) (fun _ h9 => h9) rfl d_Rd_follow_44 ?_
              refine lv_iload_n hx hb d_Rd_follow_47 rfl (lv_at hl 2 rfl) ?_
              refine lv_iconst (v := 1) hx hb d_Rd_follow_48 (by decide) ?_
              obtain ⟨g_7, h⟩ := lf_gE h
              refine va_zast hx hb hK hP hD hS 32 1 rfl rfl g_7 d_Rd_follow_49 (fun H locs hP hD hS => ?_)
              obtain ⟨S_8, eS_8, h⟩ := lf_lX h
              have hP := ly_newP eS_8 hP
              have hD := ly_newD eS_8 hD
              refine lv_aload_n hx hb d_Rd_follow_50 rfl (lv_at hl 1 rfl) ?_
              refine lv_iload hx hb d_Rd_follow_51 (lv_at hl 3 rfl) ?_
              refine lv_iload_n hx hb d_Rd_follow_53 rfl (lv_at hl 2 rfl) ?_
              obtain ⟨g_9, h⟩ := lf_gE h
              refine va_iast hx hb hK hP hD hS 34 2 rfl rfl g_9 d_Rd_follow_54 (fun H locs hP hD hS => ?_)
              obtain ⟨S_10, eS_10, h⟩ := lf_lX h
              have hP := ly_newP eS_10 hP
              have hD := ly_newD eS_10 hD
              refine lv_aload_n hx hb d_Rd_follow_55 rfl (lv_at hl 0 rfl) ?_
              refine va_get (D := (dC, dI)) (ci := 7) (v := .ref M.o_Tb) (C := R_Rd) (T := F_Rd) (N := 10) hx hb hts (fun w h => u_Vq_Rd w (i_Rd w h)) hown hK hP 5 rfl rfl 1 (by decide) (hts _ (u_Vq_Rd _ k_Rd_11)) (fun _ h9 => h9) rfl d_Rd_follow_56 ?_
              refine lv_iload_n hx hb d_Rd_follow_59 rfl (lv_at hl 2 rfl) ?_
              obtain ⟨r_11, S_11, hc_11, h⟩ := lf_cE h
              have hFc := lx_free hD hS hA
              refine va_calli (va_runV (As := [.int y_3]) (rest := []) ⟨hx, hb, hml, hown, hts⟩ (l_Tb_nextOf l dC dI X _ hc_11) (cwV 1 hts (gwV good_Vq (u_Vq_Rd _ k_Rd_35) (u_Vq_Tb _ k_Tb_43) (u_Vq_Tb _ k_Tb_44) (u_Vq_Tb _ k_Tb_0) (wcs (u_Vq_Tb _ k_Tb_45) (fun _ h => h))) rfl rfl rfl (by decide +kernel) ⟨Nat.le_of_ble_eq_true rfl, Nat.le_of_ble_eq_true rfl⟩) (pv_ofE (X.same _) (fun U z1 z2 => X.mono _ _ U hFc (hEw _ _ hS U z1 z2)) hP hK hD (va_recv hK hP (ci := 4) (q0 := 3) rfl rfl)) rfl rfl hl.1 rfl (lv_room (Nat.le_of_ble_eq_true rfl)) d_Rd_follow_60 ⟨by decide, by decide⟩) hS (fun q _ h => hFc q h) hFc (fun r_ u t H locs ht hvm hw hB hz1 hk1 hS => ?_)
              rw [hw]
              obtain ⟨hP, -, hD⟩ := hB
              rw [ht] at hP
              have hD := lx_dj hD hFc
              refine lv_istore_n (lv' := [(3, .int r_11), (0, .ref M.o_Rd), (2, .ref M.a_Rd_fileRoad), (4, .int y_4)]) hx hb d_Rd_follow_63 rfl hl (by decide) rfl (fun ls hl => ?_)
              refine lv_iload_n hx hb d_Rd_follow_64 rfl (lv_at hl 0 rfl) ?_
              refine lv_ldc (v := 268435448) hx hb hown (hts _ (u_Vq_Rd _ k_Rd_36)) d_Rd_follow_65 ?_
              refine lv_icmp_lt (tgt := 75) hx hb d_Rd_follow_67 (by decide) (fun c_12 => ?_) (fun c_12 => ?_)
              · have h := lf_t h c_12
                obtain ⟨x_13, ex_13, h⟩ := lf_lX h
                refine lv_iinc (v := x_13) (lv' := [(4, .int x_13), (3, .int r_11), (0, .ref M.o_Rd), (2, .ref M.a_Rd_fileRoad)]) hx hb d_Rd_follow_75 hl (k := 3) rfl (by rw [ex_13]; rfl) (by decide) rfl (fun ls hl => ?_)
                refine lv_goto (tgt := 5) hx hb d_Rd_follow_78 (by decide) ?_
                exact hr_5 r_11 x_13 S_11 _ _ _ h hP hD hS (lv_sub hl [2, 3, 1, 0] rfl)
              · have h := lf_f h c_12
                refine lv_iload hx hb d_Rd_follow_70 (lv_at hl 3 rfl) ?_
                refine lv_iconst (v := 1) hx hb d_Rd_follow_72 (by decide) ?_
                refine lv_iadd hx hb d_Rd_follow_73 ?_
                rw [hQ]
                have e1 : (y_4 + 1) = r := congrArg Prod.fst (Option.some.inj h)
                have e2 : S_11 = S' := congrArg Prod.snd (Option.some.inj h)
                have hP := ly_newP e2.symm hP
                have hD := ly_newD e2.symm hD
                exact W.iret (v := (y_4 + 1)) hx hb hr (fun t ht hW => ⟨⟨(y_4 + 1), (), rfl, e1, by rw [ht]; exact hP, va_K.moved hW.alike hK, hD⟩, hS.F ht⟩) hS.2.2 d_Rd_follow_74
            · have h := lf_f h c_6
              exact hB_41 S_2 _ _ _ h hP hD hS (lv_sub hl [] rfl)
  rw [f_Rd_follow_RdfileRoad] at h
  refine lv_iload_n hx hb d_Rd_follow_0 rfl (lv_at hl 1 rfl) ?_
  refine lv_istore_n (lv' := [(3, .int p0), (0, .ref M.o_Rd), (1, .int p0), (2, .ref M.a_Rd_fileRoad)]) hx hb d_Rd_follow_1 rfl hl (by decide) rfl (fun ls hl => ?_)
  refine lv_iconst (v := 0) hx hb d_Rd_follow_2 (by decide) ?_
  refine lv_istore (lv' := [(4, .int 0), (3, .int p0), (0, .ref M.o_Rd), (1, .int p0), (2, .ref M.a_Rd_fileRoad)]) hx hb d_Rd_follow_3 hl (by decide) rfl (fun ls hl => ?_)
  exact hB_5 K p0 0 S _ _ _ h hP hD hS (lv_sub hl [2, 4, 1, 0] rfl)
set_option maxHeartbeats 4000000 in
set_option maxRecDepth 100000 in
theorem l_Rd_followFile (l : Launch) (dC : Nat → ClassId) (dI : Nat → Nat → Nat) {K : Nat} {M : CA} {E : (Nat → Prop) → State → Prop} (X : ly_X l dC dI K M E) (sz : Nat) {Y : CT} {G : CG} {S S' : CS} {p0 : Int32} {p1 : Int64} {r : Int32} (h : f_Rd_followFile K G S p0 p1 = some (r, S')) : Met l y_Rd_followFile (.code y_Rd_followFile cb_Rd_followFile 6 (some .boolean) :: V_Vq) ({ frames := 2, cells := 0, slots := 0, locals := 45 }) (va_Pc [.ref M.o_Rd, .int p0, .long p1] (fun U => U.heap.size = sz ∧ at_ (dC, dI) (fun _ => True) (wV M Y G S) (tV M) U ∧ E (va_A (wV M Y G S) sz) U)) (va_Qi (fun (r_ : Int32) (u : Unit) => r_ = r) (fun (u : Unit) t => at_ (dC, dI) (va_A (wV M Y G S) sz) (wV M Y G S') (tV M) t) (va_A (wV M Y G S) sz)) 0 0 (va_A (wV M Y G S) sz) := by
  refine Met.ofW (cc := cb_Rd_followFile) (maxL := 6) (ret := (some .boolean)) (by decide) rfl ?_
  intro p e s m args below meth c s₁ B hml hv
  obtain ⟨rfl, hsz, ⟨hP, hK, hD0⟩, hE⟩ := hv
  have hx := B.exec
  have hb := B.bytes
  have hr := B.returns
  have hts0 := atoms_spec (ws := .code y_Rd_followFile cb_Rd_followFile 6 (some .boolean) :: V_Vq) B.pre
  have hts : ∀ w ∈ V_Vq, w.before ([.ref M.o_Rd, .int p0, .long p1] : List Value).toArray s = true := fun w h => hts0 w (List.mem_cons_of_mem _ h)
  have hown : s.vm.findClass R_Rd = some m.cls := findClass_of_methodNamed B.named
  subst hsz
  have hD := hD0.self (sz := s.heap.size)
  generalize hAe : va_A (wV M Y G S) s.heap.size = A at hD hE ⊢
  have hA : ∀ q : Nat, s.heap.size ≤ q → A q := fun q h => by rw [← hAe]; exact Or.inr h
  have hS : va_S A s.heap s.heap [] := va_S.rf
  have hP : va_P (dC, dI) classes (wV M Y G S) s.heap := hP
  have hK : va_K (dC, dI) classes (tV M) s := hK
  have hEw : ∀ (H : Heap) (locs : List Loc), va_S A s.heap H locs → ∀ U : State, U.heap = H → s.WarmedH U.vm → E A U := fun H locs hS U hU hW => X.kept A s U H locs hE hS hU hW
  have hl := lv_entry ([.ref M.o_Rd, .int p0, .long p1]) (n := 6) (Nat.le_of_ble_eq_true rfl)
  rw [lg_entry_eq]
  generalize (lg_sl ([.ref M.o_Rd, .int p0, .long p1]) ++ List.replicate (6 - (lg_sl ([.ref M.o_Rd, .int p0, .long p1])).length) Slot.unset).toArray = ls at hl ⊢
  have hl : lv_has ls 6 [(0, .ref M.o_Rd), (1, .int p0), (2, .long p1)] := hl
  refine qabs (fun Q hQ => ?_)
  have hB_83 : ∀ (S : CS) (H : Heap) (locs : List Loc) (ls : Array Slot), f_Rd_followFile_83 K G S = some (r, S') → va_P (dC, dI) classes (wV M Y G S) H → va_D A (wV M Y G S) → va_S A s.heap H locs → lv_has ls 6 [] → W p l e ({ frames := 2, cells := 0, slots := 0, locals := 45 }) s m ([.ref M.o_Rd, .int p0, .long p1] : List Value).toArray below meth c H locs 0 0 Q (F0 m 83 ls []) := by
    intro S H locs ls h hP hD hS hl
    rw [f_Rd_followFile_83] at h
    refine lv_iconst (v := 0) hx hb d_Rd_followFile_83 (by decide) ?_
    rw [hQ]
    have e1 : (0 : Int32) = r := congrArg Prod.fst (Option.some.inj h)
    have e2 : S = S' := congrArg Prod.snd (Option.some.inj h)
    have hP := ly_newP e2.symm hP
    have hD := ly_newD e2.symm hD
    exact W.zret (v := 0) hx hb hr rfl (fun t ht hW => ⟨⟨0, (), rfl, e1, by rw [ht]; exact hP, va_K.moved hW.alike hK, hD⟩, hS.F ht⟩) hS.2.2 d_Rd_followFile_84
  rw [f_Rd_followFile] at h
  refine lv_aload_n hx hb d_Rd_followFile_0 rfl (lv_at hl 0 rfl) ?_
  refine va_get (D := (dC, dI)) (ci := 7) (v := .ref M.o_Tr) (C := R_Rd) (T := F_Rd) (N := 10) hx hb hts (fun w h => u_Vq_Rd w (i_Rd w h)) hown hK hP 5 rfl rfl 2 (by decide) (hts _ (u_Vq_Rd _ k_Rd_12)) (fun _ h9 => h9) rfl d_Rd_followFile_1 ?_
  refine lv_iload_n hx hb d_Rd_followFile_4 rfl (lv_at hl 1 rfl) ?_
  obtain ⟨r_1, S_1, hc_1, h⟩ := lf_cE h
  have hFc := lx_free hD hS hA
  refine va_calli (va_runV (As := [.int p0]) (rest := []) ⟨hx, hb, hml, hown, hts⟩ (l_Tr_isDirectory l dC dI X _ hc_1) (cwV 1 hts (gwV good_Vq (u_Vq_Rd _ k_Rd_27) (u_Vq_Tr _ k_Tr_42) (u_Vq_Tr _ k_Tr_43) (u_Vq_Tr _ k_Tr_0) (wcs (u_Vq_Tr _ k_Tr_44) (fun _ h => h))) rfl rfl rfl (by decide +kernel) ⟨Nat.le_of_ble_eq_true rfl, Nat.le_of_ble_eq_true rfl⟩) (pv_ofE (X.same _) (fun U z1 z2 => X.mono _ _ U hFc (hEw _ _ hS U z1 z2)) hP hK hD (va_recv hK hP (ci := 5) (q0 := 4) rfl rfl)) rfl rfl hl.1 rfl (lv_room (Nat.le_of_ble_eq_true rfl)) d_Rd_followFile_5 ⟨by decide, by decide⟩) hS (fun q _ h => hFc q h) hFc (fun r_ u t H locs ht hvm hw hB hz1 hk1 hS => ?_)
  rw [hw]
  obtain ⟨hP, -, hD⟩ := hB
  rw [ht] at hP
  have hD := lx_dj hD hFc
  refine lv_if_eq (tgt := 13) hx hb d_Rd_followFile_8 (by decide) (fun c_2 => ?_) (fun c_2 => ?_)
  · have h := lf_t h c_2
    refine lv_lload_n hx hb d_Rd_followFile_13 rfl (lv_at hl 2 rfl) ?_
    refine lv_lconst (v := 0) hx hb d_Rd_followFile_14 (by decide) ?_
    refine W.lcmp hx hb d_Rd_followFile_15 ?_
    refine lv_if_ne (tgt := 36) hx hb d_Rd_followFile_16 (by decide) (fun c_3 => ?_) (fun c_3 => ?_)
    · have h := lf_f h c_3
      refine lv_aload_n hx hb d_Rd_followFile_36 rfl (lv_at hl 0 rfl) ?_
      refine va_get (D := (dC, dI)) (ci := 7) (v := .ref M.o_Tb) (C := R_Rd) (T := F_Rd) (N := 10) hx hb hts (fun w h => u_Vq_Rd w (i_Rd w h)) hown hK hP 5 rfl rfl 1 (by decide) (hts _ (u_Vq_Rd _ k_Rd_11)) (fun _ h9 => h9) rfl d_Rd_followFile_37 ?_
      obtain ⟨r_4, S_4, hc_4, h⟩ := lf_cE h
      have hFc := lx_free hD hS hA
      refine va_calli (va_runV (As := []) (rest := []) ⟨hx, hb, hml, hown, hts⟩ (l_Tb_clusterBytes l dC dI X _ hc_4) (cwV 0 hts (gwV good_Vq (u_Vq_Rd _ k_Rd_90) (u_Vq_Tb _ k_Tb_60) (u_Vq_Tb _ k_Tb_61) (u_Vq_Tb _ k_Tb_0) (wcs (u_Vq_Tb _ k_Tb_62) (fun _ h => h))) rfl rfl rfl (by decide +kernel) ⟨Nat.le_of_ble_eq_true rfl, Nat.le_of_ble_eq_true rfl⟩) (pv_ofE (X.same _) (fun U z1 z2 => X.mono _ _ U hFc (hEw _ _ hS U z1 z2)) hP hK hD (va_recv hK hP (ci := 4) (q0 := 3) rfl rfl)) rfl rfl hl.1 rfl (lv_room (Nat.le_of_ble_eq_true rfl)) d_Rd_followFile_40 ⟨by decide, by decide⟩) hS (fun q _ h => hFc q h) hFc (fun r_ u t H locs ht hvm hw hB hz1 hk1 hS => ?_)
      rw [hw]
      obtain ⟨hP, -, hD⟩ := hB
      rw [ht] at hP
      have hD := lx_dj hD hFc
      refine lv_i2l hx hb d_Rd_followFile_43 rfl ?_
      refine lv_topl (fun x_5 ex_5 => ?_)
      have h := lf_lE h ex_5
      refine lv_lstore (lv' := [(4, .long x_5), (0, .ref M.o_Rd), (1, .int p0), (2, .long p1)]) hx hb d_Rd_followFile_44 hl (by decide) rfl (fun ls hl => ?_)
      refine lv_lload hx hb d_Rd_followFile_46 (lv_at hl 0 rfl) ?_
      refine lv_lconst (v := 1) hx hb d_Rd_followFile_48 (by decide) ?_
      refine W.lcmp hx hb d_Rd_followFile_49 ?_
      refine lv_if_lt (tgt := 83) hx hb d_Rd_followFile_50 (by decide) (fun c_6 => ?_) (fun c_6 => ?_)
      · have h := lf_t h c_6
        exact hB_83 S_4 _ _ _ h hP hD hS (lv_sub hl [] rfl)
      · have h := lf_f h c_6
        refine lv_aload_n hx hb d_Rd_followFile_53 rfl (lv_at hl 1 rfl) ?_
        refine lv_aload_n hx hb d_Rd_followFile_54 rfl (lv_at hl 1 rfl) ?_
        refine va_get (D := (dC, dI)) (ci := 7) (v := .ref M.o_Tr) (C := R_Rd) (T := F_Rd) (N := 10) hx hb hts (fun w h => u_Vq_Rd w (i_Rd w h)) hown hK hP 5 rfl rfl 2 (by decide) (hts _ (u_Vq_Rd _ k_Rd_12)) (fun _ h9 => h9) rfl d_Rd_followFile_55 ?_
        refine lv_iload_n hx hb d_Rd_followFile_58 rfl (lv_at hl 2 rfl) ?_
        obtain ⟨r_7, S_7, hc_7, h⟩ := lf_cE h
        have hFc := lx_free hD hS hA
        refine va_calli (va_runV (As := [.int p0]) (rest := [.ref M.o_Rd]) ⟨hx, hb, hml, hown, hts⟩ (l_Tr_firstOf l dC dI X _ hc_7) (cwV 1 hts (gwV good_Vq (u_Vq_Rd _ k_Rd_31) (u_Vq_Tr _ k_Tr_45) (u_Vq_Tr _ k_Tr_46) (u_Vq_Tr _ k_Tr_0) (wcs (u_Vq_Tr _ k_Tr_47) (fun _ h => h))) rfl rfl rfl (by decide +kernel) ⟨Nat.le_of_ble_eq_true rfl, Nat.le_of_ble_eq_true rfl⟩) (pv_ofE (X.same _) (fun U z1 z2 => X.mono _ _ U hFc (hEw _ _ hS U z1 z2)) hP hK hD (va_recv hK hP (ci := 5) (q0 := 4) rfl rfl)) rfl rfl hl.1 rfl (lv_room (Nat.le_of_ble_eq_true rfl)) d_Rd_followFile_59 ⟨by decide, by decide⟩) hS (fun q _ h => hFc q h) hFc (fun r_ u t H locs ht hvm hw hB hz1 hk1 hS => ?_)
        rw [hw]
        obtain ⟨hP, -, hD⟩ := hB
        rw [ht] at hP
        have hD := lx_dj hD hFc
        refine lv_aload_n hx hb d_Rd_followFile_62 rfl (lv_at hl 1 rfl) ?_
        refine va_get (D := (dC, dI)) (ci := 7) (v := .ref M.a_Rd_fileRoad) (C := R_Rd) (T := F_Rd) (N := 10) hx hb hts (fun w h => u_Vq_Rd w (i_Rd w h)) hown hK hP 5 rfl rfl 5 (by decide) (hts _ (u_Vq_Rd _ k_Rd_15)) (fun _ h9 => h9) rfl d_Rd_followFile_63 ?_
        obtain ⟨r_8, S_8, hc_8, h⟩ := lf_cE h
        have hFc := lx_free hD hS hA
        refine va_calli (va_runV (As := [.int r_7, .ref M.a_Rd_fileRoad]) (rest := []) ⟨hx, hb, hml, hown, hts⟩ (l_Rd_follow_RdfileRoad l dC dI X _ hc_8) (cwV 2 hts (gwV good_Vq (u_Vq_Rd _ k_Rd_32) (u_Vq_Rd _ k_Rd_33) (u_Vq_Rd _ k_Rd_98) (u_Vq_Rd _ k_Rd_0) (wcs (u_Vq_Rd _ k_Rd_34) (fun _ h => h))) rfl rfl rfl (by decide +kernel) ⟨Nat.le_of_ble_eq_true rfl, Nat.le_of_ble_eq_true rfl⟩) (pv_ofE (X.same _) (fun U z1 z2 => X.mono _ _ U hFc (hEw _ _ hS U z1 z2)) hP hK hD (va_recv hK hP (ci := 7) (q0 := 5) rfl rfl)) rfl rfl hl.1 rfl (lv_room (Nat.le_of_ble_eq_true rfl)) d_Rd_followFile_66 ⟨by decide, by decide⟩) hS (fun q _ h => hFc q h) hFc (fun r_ u t H locs ht hvm hw hB hz1 hk1 hS => ?_)
        rw [hw]
        obtain ⟨hP, -, hD⟩ := hB
        rw [ht] at hP
        have hD := lx_dj hD hFc
        refine lv_i2l hx hb d_Rd_followFile_69 rfl ?_
        refine lv_lload_n hx hb d_Rd_followFile_70 rfl (lv_at hl 3 rfl) ?_
        refine lv_lload hx hb d_Rd_followFile_71 (lv_at hl 0 rfl) ?_
        refine lv_ladd hx hb d_Rd_followFile_73 ?_
        refine lv_lconst (v := 1) hx hb d_Rd_followFile_74 (by decide) ?_
        refine lv_lsub hx hb d_Rd_followFile_75 ?_
        refine lv_lload hx hb d_Rd_followFile_76 (lv_at hl 0 rfl) ?_
        obtain ⟨g_9, h⟩ := lf_gE h
        refine lv_ldiv hx hb d_Rd_followFile_78 g_9 ?_
        refine W.lcmp hx hb d_Rd_followFile_79 ?_
        refine lv_if_eq (tgt := 85) hx hb d_Rd_followFile_80 (by decide) (fun c_10 => ?_) (fun c_10 => ?_)
        · have h := lf_t h c_10
          refine lv_aload_n hx hb d_Rd_followFile_85 rfl (lv_at hl 1 rfl) ?_
          refine va_get (D := (dC, dI)) (ci := 7) (v := .ref M.o_Tr) (C := R_Rd) (T := F_Rd) (N := 10) hx hb hts (fun w h => u_Vq_Rd w (i_Rd w h)) hown hK hP 5 rfl rfl 2 (by decide) (hts _ (u_Vq_Rd _ k_Rd_12)) (fun _ h9 => h9) rfl d_Rd_followFile_86 ?_
          refine lv_iload_n hx hb d_Rd_followFile_89 rfl (lv_at hl 2 rfl) ?_
          refine lv_lload_n hx hb d_Rd_followFile_90 rfl (lv_at hl 3 rfl) ?_
          refine lv_l2i hx hb d_Rd_followFile_91 rfl ?_
          obtain ⟨S_11, hc_11, h⟩ := lf_bE h
          have hFc := lx_free hD hS hA
          refine va_callv (va_runV (As := [.int p0, .int p1.toInt32]) (rest := []) ⟨hx, hb, hml, hown, hts⟩ (l_Tr_setSize l dC dI X _ hc_11) (cwV 2 hts (gwV good_Vq (u_Vq_Rd _ k_Rd_91) (u_Vq_Tr _ k_Tr_68) (u_Vq_Tr _ k_Tr_69) (u_Vq_Tr _ k_Tr_0) (wcs (u_Vq_Tr _ k_Tr_70) (fun _ h => h))) rfl rfl rfl (by decide +kernel) ⟨Nat.le_of_ble_eq_true rfl, Nat.le_of_ble_eq_true rfl⟩) (pv_ofE (X.same _) (fun U z1 z2 => X.mono _ _ U hFc (hEw _ _ hS U z1 z2)) hP hK hD (va_recv hK hP (ci := 5) (q0 := 4) rfl rfl)) rfl rfl hl.1 rfl (lv_room (Nat.le_of_ble_eq_true rfl)) d_Rd_followFile_92 ⟨by decide, by decide⟩) hS (fun q _ h => hFc q h) hFc (fun u t H locs ht hvm hw hB hz1 hk1 hS => ?_)
          obtain ⟨hP, -, hD⟩ := hB
          rw [ht] at hP
          have hD := lx_dj hD hFc
          refine lv_iconst (v := 1) hx hb d_Rd_followFile_95 (by decide) ?_
          rw [hQ]
          have e1 : (1 : Int32) = r := congrArg Prod.fst (Option.some.inj h)
          have e2 : S_11 = S' := congrArg Prod.snd (Option.some.inj h)
          have hP := ly_newP e2.symm hP
          have hD := ly_newD e2.symm hD
          exact W.zret (v := 1) hx hb hr rfl (fun t ht hW => ⟨⟨1, (), rfl, e1, by rw [ht]; exact hP, va_K.moved hW.alike hK, hD⟩, hS.F ht⟩) hS.2.2 d_Rd_followFile_96
        · have h := lf_f h c_10
          exact hB_83 S_8 _ _ _ h hP hD hS (lv_sub hl [] rfl)
    · have h := lf_t h c_3
      refine lv_aload_n hx hb d_Rd_followFile_19 rfl (lv_at hl 0 rfl) ?_
      refine va_get (D := (dC, dI)) (ci := 7) (v := .ref M.o_Tr) (C := R_Rd) (T := F_Rd) (N := 10) hx hb hts (fun w h => u_Vq_Rd w (i_Rd w h)) hown hK hP 5 rfl rfl 2 (by decide) (hts _ (u_Vq_Rd _ k_Rd_12)) (fun _ h9 => h9) rfl d_Rd_followFile_20 ?_
      refine lv_iload_n hx hb d_Rd_followFile_23 rfl (lv_at hl 1 rfl) ?_
      obtain ⟨r_12, S_12, hc_12, h⟩ := lf_cE h
      have hFc := lx_free hD hS hA
      refine va_calli (va_runV (As := [.int p0]) (rest := []) ⟨hx, hb, hml, hown, hts⟩ (l_Tr_firstOf l dC dI X _ hc_12) (cwV 1 hts (gwV good_Vq (u_Vq_Rd _ k_Rd_31) (u_Vq_Tr _ k_Tr_45) (u_Vq_Tr _ k_Tr_46) (u_Vq_Tr _ k_Tr_0) (wcs (u_Vq_Tr _ k_Tr_47) (fun _ h => h))) rfl rfl rfl (by decide +kernel) ⟨Nat.le_of_ble_eq_true rfl, Nat.le_of_ble_eq_true rfl⟩) (pv_ofE (X.same _) (fun U z1 z2 => X.mono _ _ U hFc (hEw _ _ hS U z1 z2)) hP hK hD (va_recv hK hP (ci := 5) (q0 := 4) rfl rfl)) rfl rfl hl.1 rfl (lv_room (Nat.le_of_ble_eq_true rfl)) d_Rd_followFile_24 ⟨by decide, by decide⟩) hS (fun q _ h => hFc q h) hFc (fun r_ u t H locs ht hvm hw hB hz1 hk1 hS => ?_)
      rw [hw]
      obtain ⟨hP, -, hD⟩ := hB
      rw [ht] at hP
      have hD := lx_dj hD hFc
      refine lv_if_ne (tgt := 34) hx hb d_Rd_followFile_27 (by decide) (fun c_13 => ?_) (fun c_13 => ?_)
      · have h := lf_f h c_13
        refine lv_iconst (v := 0) hx hb d_Rd_followFile_34 (by decide) ?_
        rw [hQ]
        have e1 : (0 : Int32) = r := congrArg Prod.fst (Option.some.inj h)
        have e2 : S_12 = S' := congrArg Prod.snd (Option.some.inj h)
        have hP := ly_newP e2.symm hP
        have hD := ly_newD e2.symm hD
        exact W.zret (v := 0) hx hb hr rfl (fun t ht hW => ⟨⟨0, (), rfl, e1, by rw [ht]; exact hP, va_K.moved hW.alike hK, hD⟩, hS.F ht⟩) hS.2.2 d_Rd_followFile_35
      · have h := lf_t h c_13
        refine lv_iconst (v := 1) hx hb d_Rd_followFile_30 (by decide) ?_
        refine lv_goto (tgt := 35) hx hb d_Rd_followFile_31 (by decide) ?_
        rw [hQ]
        have e1 : (1 : Int32) = r := congrArg Prod.fst (Option.some.inj h)
        have e2 : S_12 = S' := congrArg Prod.snd (Option.some.inj h)
        have hP := ly_newP e2.symm hP
        have hD := ly_newD e2.symm hD
        exact W.zret (v := 1) hx hb hr rfl (fun t ht hW => ⟨⟨1, (), rfl, e1, by rw [ht]; exact hP, va_K.moved hW.alike hK, hD⟩, hS.F ht⟩) hS.2.2 d_Rd_followFile_35
  · have h := lf_f h c_2
    refine lv_iconst (v := 1) hx hb d_Rd_followFile_11 (by decide) ?_
    rw [hQ]
    have e1 : (1 : Int32) = r := congrArg Prod.fst (Option.some.inj h)
    have e2 : S_1 = S' := congrArg Prod.snd (Option.some.inj h)
    have hP := ly_newP e2.symm hP
    have hD := ly_newD e2.symm hD
    exact W.zret (v := 1) hx hb hr rfl (fun t ht hW => ⟨⟨1, (), rfl, e1, by rw [ht]; exact hP, va_K.moved hW.alike hK, hD⟩, hS.F ht⟩) hS.2.2 d_Rd_followFile_12
