set_option maxHeartbeats 4000000 in
set_option maxRecDepth 100000 in
theorem l_Ed_putFirstCluster (l : Launch) (dC : Nat → ClassId) (dI : Nat → Nat → Nat) {K : Nat} {M : CA} {E : (Nat → Prop) → State → Prop} (X : ly_X l dC dI K M E) (sz : Nat) {Y : CT} {G : CG} {S S' : CS} {p0 : Int32} {p1 : Int32} (h : f_Ed_putFirstCluster K G S p0 p1 = some S') : Met l y_Ed_putFirstCluster (.code y_Ed_putFirstCluster cb_Ed_putFirstCluster 3 none :: V_Vq) ({ frames := 1, cells := 0, slots := 0, locals := 22 }) (va_Pc [.ref M.o_Ed, .int p0, .int p1] (fun U => U.heap.size = sz ∧ at_ (dC, dI) (fun _ => True) (wV M Y G S) (tV M) U ∧ E (va_A (wV M Y G S) sz) U)) (va_Qv (fun (u : Unit) => True) (fun (u : Unit) t => at_ (dC, dI) (va_A (wV M Y G S) sz) (wV M Y G S') (tV M) t) (va_A (wV M Y G S) sz)) 0 0 (va_A (wV M Y G S) sz) := by
  refine Met.ofW (cc := cb_Ed_putFirstCluster) (maxL := 3) (ret := none) (by decide) rfl ?_
  intro p e s m args below meth c s₁ B hml hv
  obtain ⟨rfl, hsz, ⟨hP, hK, hD0⟩, hE⟩ := hv
  have hx := B.exec
  have hb := B.bytes
  have hr := B.returns
  have hts0 := atoms_spec (ws := .code y_Ed_putFirstCluster cb_Ed_putFirstCluster 3 none :: V_Vq) B.pre
  have hts : ∀ w ∈ V_Vq, w.before ([.ref M.o_Ed, .int p0, .int p1] : List Value).toArray s = true := fun w h => hts0 w (List.mem_cons_of_mem _ h)
  have hown : s.vm.findClass R_Ed = some m.cls := findClass_of_methodNamed B.named
  subst hsz
  have hD := hD0.self (sz := s.heap.size)
  generalize hAe : va_A (wV M Y G S) s.heap.size = A at hD hE ⊢
  have hA : ∀ q : Nat, s.heap.size ≤ q → A q := fun q h => by rw [← hAe]; exact Or.inr h
  have hS : va_S A s.heap s.heap [] := va_S.rf
  have hP : va_P (dC, dI) classes (wV M Y G S) s.heap := hP
  have hK : va_K (dC, dI) classes (tV M) s := hK
  have hEw : ∀ (H : Heap) (locs : List Loc), va_S A s.heap H locs → ∀ U : State, U.heap = H → s.WarmedH U.vm → E A U := fun H locs hS U hU hW => X.kept A s U H locs hE hS hU hW
  have hl := lv_entry ([.ref M.o_Ed, .int p0, .int p1]) (n := 3) (Nat.le_of_ble_eq_true rfl)
  rw [lg_entry_eq]
  generalize (lg_sl ([.ref M.o_Ed, .int p0, .int p1]) ++ List.replicate (3 - (lg_sl ([.ref M.o_Ed, .int p0, .int p1])).length) Slot.unset).toArray = ls at hl ⊢
  have hl : lv_has ls 3 [(0, .ref M.o_Ed), (1, .int p0), (2, .int p1)] := hl
  refine qabs (fun Q hQ => ?_)
  rw [f_Ed_putFirstCluster] at h
  refine lv_aload_n hx hb d_Ed_putFirstCluster_0 rfl (lv_at hl 0 rfl) ?_
  refine va_get (D := (dC, dI)) (ci := 8) (v := .ref M.o_Dk) (C := R_Ed) (T := F_Ed) (N := 13) hx hb hts (fun w h => u_Vq_Ed w (i_Ed w h)) hown hK hP 6 rfl rfl 0 (by decide) (hts _ (u_Vq_Ed _ k_Ed_7)) (fun _ h9 => h9) rfl d_Ed_putFirstCluster_1 ?_
  refine lv_iload_n hx hb d_Ed_putFirstCluster_4 rfl (lv_at hl 1 rfl) ?_
  refine lv_bipush (v := 20) hx hb d_Ed_putFirstCluster_5 (by decide) ?_
  refine lv_iadd hx hb d_Ed_putFirstCluster_7 ?_
  refine lv_iload_n hx hb d_Ed_putFirstCluster_8 rfl (lv_at hl 2 rfl) ?_
  refine lv_bipush (v := 16) hx hb d_Ed_putFirstCluster_9 (by decide) ?_
  refine lv_ishr hx hb d_Ed_putFirstCluster_11 ?_
  obtain ⟨S_1, hc_1, h⟩ := lf_bE h
  have hFc := lx_free hD hS hA
  refine va_callv (va_runV (As := [.int (p0 + 20), .int (p1 >>> ((16 : Int32) &&& 31))]) (rest := []) ⟨hx, hb, hml, hown, hts⟩ (l_Dk_putTwo l dC dI X _ hc_1) (cwV 2 hts (gwV good_Vq (u_Vq_Ed _ k_Ed_26) (u_Vq_Dk _ k_Dk_27) (u_Vq_Dk _ k_Dk_28) (u_Vq_Dk _ k_Dk_0) (wcs (u_Vq_Dk _ k_Dk_29) (fun _ h => h))) rfl rfl rfl (by decide +kernel) ⟨Nat.le_of_ble_eq_true rfl, Nat.le_of_ble_eq_true rfl⟩) (pv_ofE (X.same _) (fun U z1 z2 => X.mono _ _ U hFc (hEw _ _ hS U z1 z2)) hP hK hD (va_recv hK hP (ci := 0) (q0 := 1) rfl rfl)) rfl rfl hl.1 rfl (lv_room (Nat.le_of_ble_eq_true rfl)) d_Ed_putFirstCluster_12 ⟨by decide, by decide⟩) hS (fun q _ h => hFc q h) hFc (fun u t H locs ht hvm hw hB hz1 hk1 hS => ?_)
  obtain ⟨hP, -, hD⟩ := hB
  rw [ht] at hP
  have hD := lx_dj hD hFc
  refine lv_aload_n hx hb d_Ed_putFirstCluster_15 rfl (lv_at hl 0 rfl) ?_
  refine va_get (D := (dC, dI)) (ci := 8) (v := .ref M.o_Dk) (C := R_Ed) (T := F_Ed) (N := 13) hx hb hts (fun w h => u_Vq_Ed w (i_Ed w h)) hown hK hP 6 rfl rfl 0 (by decide) (hts _ (u_Vq_Ed _ k_Ed_7)) (fun _ h9 => h9) rfl d_Ed_putFirstCluster_16 ?_
  refine lv_iload_n hx hb d_Ed_putFirstCluster_19 rfl (lv_at hl 1 rfl) ?_
  refine lv_bipush (v := 26) hx hb d_Ed_putFirstCluster_20 (by decide) ?_
  refine lv_iadd hx hb d_Ed_putFirstCluster_22 ?_
  refine lv_iload_n hx hb d_Ed_putFirstCluster_23 rfl (lv_at hl 2 rfl) ?_
  obtain ⟨S_2, hc_2, h⟩ := lf_bE h
  have hFc := lx_free hD hS hA
  refine va_callv (va_runV (As := [.int (p0 + 26), .int p1]) (rest := []) ⟨hx, hb, hml, hown, hts⟩ (l_Dk_putTwo l dC dI X _ hc_2) (cwV 2 hts (gwV good_Vq (u_Vq_Ed _ k_Ed_26) (u_Vq_Dk _ k_Dk_27) (u_Vq_Dk _ k_Dk_28) (u_Vq_Dk _ k_Dk_0) (wcs (u_Vq_Dk _ k_Dk_29) (fun _ h => h))) rfl rfl rfl (by decide +kernel) ⟨Nat.le_of_ble_eq_true rfl, Nat.le_of_ble_eq_true rfl⟩) (pv_ofE (X.same _) (fun U z1 z2 => X.mono _ _ U hFc (hEw _ _ hS U z1 z2)) hP hK hD (va_recv hK hP (ci := 0) (q0 := 1) rfl rfl)) rfl rfl hl.1 rfl (lv_room (Nat.le_of_ble_eq_true rfl)) d_Ed_putFirstCluster_24 ⟨by decide, by decide⟩) hS (fun q _ h => hFc q h) hFc (fun u t H locs ht hvm hw hB hz1 hk1 hS => ?_)
  obtain ⟨hP, -, hD⟩ := hB
  rw [ht] at hP
  have hD := lx_dj hD hFc
  rw [hQ]
  have e2 : S_2 = S' := Option.some.inj h
  have hP := ly_newP e2.symm hP
  have hD := ly_newD e2.symm hD
  exact W.vret hx hb hr (fun t ht hW => ⟨⟨(), rfl, trivial, by rw [ht]; exact hP, va_K.moved hW.alike hK, hD⟩, hS.F ht⟩) hS.2.2 d_Ed_putFirstCluster_27
set_option maxHeartbeats 4000000 in
set_option maxRecDepth 100000 in
theorem l_Ed_putEntry (l : Launch) (dC : Nat → ClassId) (dI : Nat → Nat → Nat) {K : Nat} {M : CA} {E : (Nat → Prop) → State → Prop} (X : ly_X l dC dI K M E) (sz : Nat) {Y : CT} {G : CG} {S S' : CS} {p0 : Int32} {p1 : Int32} {p2 : Int32} (h : f_Ed_putEntry K G S p0 p1 p2 = some S') : Met l y_Ed_putEntry (.code y_Ed_putEntry cb_Ed_putEntry 5 none :: V_Vq) ({ frames := 3, cells := 0, slots := 0, locals := 68 }) (va_Pc [.ref M.o_Ed, .int p0, .int p1, .int p2] (fun U => U.heap.size = sz ∧ at_ (dC, dI) (fun _ => True) (wV M Y G S) (tV M) U ∧ E (va_A (wV M Y G S) sz) U)) (va_Qv (fun (u : Unit) => True) (fun (u : Unit) t => at_ (dC, dI) (va_A (wV M Y G S) sz) (wV M Y G S') (tV M) t) (va_A (wV M Y G S) sz)) 0 0 (va_A (wV M Y G S) sz) := by
  refine Met.ofW (cc := cb_Ed_putEntry) (maxL := 5) (ret := none) (by decide) rfl ?_
  intro p e s m args below meth c s₁ B hml hv
  obtain ⟨rfl, hsz, ⟨hP, hK, hD0⟩, hE⟩ := hv
  have hx := B.exec
  have hb := B.bytes
  have hr := B.returns
  have hts0 := atoms_spec (ws := .code y_Ed_putEntry cb_Ed_putEntry 5 none :: V_Vq) B.pre
  have hts : ∀ w ∈ V_Vq, w.before ([.ref M.o_Ed, .int p0, .int p1, .int p2] : List Value).toArray s = true := fun w h => hts0 w (List.mem_cons_of_mem _ h)
  have hown : s.vm.findClass R_Ed = some m.cls := findClass_of_methodNamed B.named
  subst hsz
  have hD := hD0.self (sz := s.heap.size)
  generalize hAe : va_A (wV M Y G S) s.heap.size = A at hD hE ⊢
  have hA : ∀ q : Nat, s.heap.size ≤ q → A q := fun q h => by rw [← hAe]; exact Or.inr h
  have hS : va_S A s.heap s.heap [] := va_S.rf
  have hP : va_P (dC, dI) classes (wV M Y G S) s.heap := hP
  have hK : va_K (dC, dI) classes (tV M) s := hK
  have hEw : ∀ (H : Heap) (locs : List Loc), va_S A s.heap H locs → ∀ U : State, U.heap = H → s.WarmedH U.vm → E A U := fun H locs hS U hU hW => X.kept A s U H locs hE hS hU hW
  have hl := lv_entry ([.ref M.o_Ed, .int p0, .int p1, .int p2]) (n := 5) (Nat.le_of_ble_eq_true rfl)
  rw [lg_entry_eq]
  generalize (lg_sl ([.ref M.o_Ed, .int p0, .int p1, .int p2]) ++ List.replicate (5 - (lg_sl ([.ref M.o_Ed, .int p0, .int p1, .int p2])).length) Slot.unset).toArray = ls at hl ⊢
  have hl : lv_has ls 5 [(0, .ref M.o_Ed), (1, .int p0), (2, .int p1), (3, .int p2)] := hl
  refine qabs (fun Q hQ => ?_)
  have hB_63 : ∀ (y_1 : Int32) (y_2 : Int32) (z_1 : Int32) (z_2 : Int32) (S : CS) (H : Heap) (locs : List Loc) (ls : Array Slot), f_Ed_putEntry_63 K G y_1 y_2 z_1 z_2 S = some S' → va_P (dC, dI) classes (wV M Y G S) H → va_D A (wV M Y G S) → va_S A s.heap H locs → lv_has ls 5 [(0, .ref M.o_Ed), (1, .int y_1), (2, .int y_2)] → W p l e ({ frames := 3, cells := 0, slots := 0, locals := 68 }) s m ([.ref M.o_Ed, .int p0, .int p1, .int p2] : List Value).toArray below meth c H locs 0 0 Q (F0 m 63 ls [.int z_2, .int z_1, .ref M.o_Dk]) := by
    intro y_1 y_2 z_1 z_2 S H locs ls h hP hD hS hl
    rw [f_Ed_putEntry_63] at h
    obtain ⟨S_7, hc_7, h⟩ := lf_bE h
    have hFc := lx_free hD hS hA
    refine va_callv (va_runV (As := [.int z_1, .int z_2]) (rest := []) ⟨hx, hb, hml, hown, hts⟩ (l_Dk_putOne l dC dI X _ hc_7) (cwV 2 hts (gwV good_Vq (u_Vq_Ed _ k_Ed_25) (u_Vq_Dk _ k_Dk_11) (u_Vq_Dk _ k_Dk_12) (u_Vq_Dk _ k_Dk_0) (wcs (u_Vq_Dk _ k_Dk_13) (fun _ h => h))) rfl rfl rfl (by decide +kernel) ⟨Nat.le_of_ble_eq_true rfl, Nat.le_of_ble_eq_true rfl⟩) (pv_ofE (X.same _) (fun U z1 z2 => X.mono _ _ U hFc (hEw _ _ hS U z1 z2)) hP hK hD (va_recv hK hP (ci := 0) (q0 := 1) rfl rfl)) rfl rfl hl.1 rfl (lv_room (Nat.le_of_ble_eq_true rfl)) d_Ed_putEntry_63 ⟨by decide, by decide⟩) hS (fun q _ h => hFc q h) hFc (fun u t H locs ht hvm hw hB hz1 hk1 hS => ?_)
    obtain ⟨hP, -, hD⟩ := hB
    rw [ht] at hP
    have hD := lx_dj hD hFc
    refine lv_aload_n hx hb d_Ed_putEntry_66 rfl (lv_at hl 0 rfl) ?_
    refine va_get (D := (dC, dI)) (ci := 8) (v := .ref M.o_Dk) (C := R_Ed) (T := F_Ed) (N := 13) hx hb hts (fun w h => u_Vq_Ed w (i_Ed w h)) hown hK hP 6 rfl rfl 0 (by decide) (hts _ (u_Vq_Ed _ k_Ed_7)) (fun _ h9 => h9) rfl d_Ed_putEntry_67 ?_
    refine lv_iload_n hx hb d_Ed_putEntry_70 rfl (lv_at hl 1 rfl) ?_
    refine lv_bipush (v := 24) hx hb d_Ed_putEntry_71 (by decide) ?_
    refine lv_iadd hx hb d_Ed_putEntry_73 ?_
    refine lv_bipush (v := 33) hx hb d_Ed_putEntry_74 (by decide) ?_
    obtain ⟨S_8, hc_8, h⟩ := lf_bE h
    have hFc := lx_free hD hS hA
    refine va_callv (va_runV (As := [.int (y_1 + 24), .int 33]) (rest := []) ⟨hx, hb, hml, hown, hts⟩ (l_Dk_putTwo l dC dI X _ hc_8) (cwV 2 hts (gwV good_Vq (u_Vq_Ed _ k_Ed_26) (u_Vq_Dk _ k_Dk_27) (u_Vq_Dk _ k_Dk_28) (u_Vq_Dk _ k_Dk_0) (wcs (u_Vq_Dk _ k_Dk_29) (fun _ h => h))) rfl rfl rfl (by decide +kernel) ⟨Nat.le_of_ble_eq_true rfl, Nat.le_of_ble_eq_true rfl⟩) (pv_ofE (X.same _) (fun U z1 z2 => X.mono _ _ U hFc (hEw _ _ hS U z1 z2)) hP hK hD (va_recv hK hP (ci := 0) (q0 := 1) rfl rfl)) rfl rfl hl.1 rfl (lv_room (Nat.le_of_ble_eq_true rfl)) d_Ed_putEntry_76 ⟨by decide, by decide⟩) hS (fun q _ h => hFc q h) hFc (fun u t H locs ht hvm hw hB hz1 hk1 hS => ?_)
    obtain ⟨hP, -, hD⟩ := hB
    rw [ht] at hP
    have hD := lx_dj hD hFc
    refine lv_aload_n hx hb d_Ed_putEntry_79 rfl (lv_at hl 0 rfl) ?_
    refine lv_iload_n hx hb d_Ed_putEntry_80 rfl (lv_at hl 1 rfl) ?_
    refine lv_iload_n hx hb d_Ed_putEntry_81 rfl (lv_at hl 2 rfl) ?_
    obtain ⟨S_9, hc_9, h⟩ := lf_bE h
    have hFc := lx_free hD hS hA
    refine va_callv (va_runV (As := [.int y_1, .int y_2]) (rest := []) ⟨hx, hb, hml, hown, hts⟩ (l_Ed_putFirstCluster l dC dI X _ hc_9) (cwV 2 hts (gwV good_Vq (u_Vq_Ed _ k_Ed_92) (u_Vq_Ed _ k_Ed_93) (u_Vq_Ed _ k_Ed_139) (u_Vq_Ed _ k_Ed_0) (wcs (u_Vq_Ed _ k_Ed_94) (fun _ h => h))) rfl rfl rfl (by decide +kernel) ⟨Nat.le_of_ble_eq_true rfl, Nat.le_of_ble_eq_true rfl⟩) (pv_ofE (X.same _) (fun U z1 z2 => X.mono _ _ U hFc (hEw _ _ hS U z1 z2)) hP hK hD (va_recv hK hP (ci := 8) (q0 := 6) rfl rfl)) rfl rfl hl.1 rfl (lv_room (Nat.le_of_ble_eq_true rfl)) d_Ed_putEntry_82 ⟨by decide, by decide⟩) hS (fun q _ h => hFc q h) hFc (fun u t H locs ht hvm hw hB hz1 hk1 hS => ?_)
    obtain ⟨hP, -, hD⟩ := hB
    rw [ht] at hP
    have hD := lx_dj hD hFc
    rw [hQ]
    have e2 : S_9 = S' := Option.some.inj h
    have hP := ly_newP e2.symm hP
    have hD := ly_newD e2.symm hD
    exact W.vret hx hb hr (fun t ht hW => ⟨⟨(), rfl, trivial, by rw [ht]; exact hP, va_K.moved hW.alike hK, hD⟩, hS.F ht⟩) hS.2.2 d_Ed_putEntry_85
  have hB_13 : ∀ (k : Nat), ∀ (y_1 : Int32) (y_2 : Int32) (y_3 : Int32) (y_4 : Int32) (S : CS) (H : Heap) (locs : List Loc) (ls : Array Slot), f_Ed_putEntry_13 K G k y_1 y_2 y_3 y_4 S = some S' → va_P (dC, dI) classes (wV M Y G S) H → va_D A (wV M Y G S) → va_S A s.heap H locs → lv_has ls 5 [(0, .ref M.o_Ed), (1, .int y_1), (2, .int y_2), (3, .int y_3), (4, .int y_4)] → W p l e ({ frames := 3, cells := 0, slots := 0, locals := 68 }) s m ([.ref M.o_Ed, .int p0, .int p1, .int p2] : List Value).toArray below meth c H locs 0 0 Q (F0 m 13 ls []) := by
    intro k
    induction k with
    | zero => intro y_1 y_2 y_3 y_4 S H locs ls h; exact lf_no h
    | succ k hr_13 =>
      intro y_1 y_2 y_3 y_4 S H locs ls h hP hD hS hl
      rw [f_Ed_putEntry_13] at h
      refine lv_iload hx hb d_Ed_putEntry_13 (lv_at hl 4 rfl) ?_
      refine lv_bipush (v := 11) hx hb d_Ed_putEntry_15 (by decide) ?_
      refine lv_icmp_ge (tgt := 44) hx hb d_Ed_putEntry_17 (by decide) (fun c_2 => ?_) (fun c_2 => ?_)
      · have h := lf_t h c_2
        refine lv_aload_n hx hb d_Ed_putEntry_44 rfl (lv_at hl 0 rfl) ?_
        refine va_get (D := (dC, dI)) (ci := 8) (v := .ref M.o_Dk) (C := R_Ed) (T := F_Ed) (N := 13) hx hb hts (fun w h => u_Vq_Ed w (i_Ed w h)) hown hK hP 6 rfl rfl 0 (by decide) (hts _ (u_Vq_Ed _ k_Ed_7)) (fun _ h9 => h9) rfl d_Ed_putEntry_45 ?_
        refine lv_iload_n hx hb d_Ed_putEntry_48 rfl (lv_at hl 1 rfl) ?_
        refine lv_bipush (v := 11) hx hb d_Ed_putEntry_49 (by decide) ?_
        refine lv_iadd hx hb d_Ed_putEntry_51 ?_
        refine lv_iload_n hx hb d_Ed_putEntry_52 rfl (lv_at hl 3 rfl) ?_
        refine lv_if_eq (tgt := 61) hx hb d_Ed_putEntry_53 (by decide) (fun c_3 => ?_) (fun c_3 => ?_)
        · have h := lf_t h c_3
          refine lv_bipush (v := 32) hx hb d_Ed_putEntry_61 (by decide) ?_
          exact hB_63 y_1 y_2 (y_1 + 11) 32 S _ _ _ h hP hD hS (lv_sub hl [0, 1, 2] rfl)
        · have h := lf_f h c_3
          refine lv_bipush (v := 48) hx hb d_Ed_putEntry_56 (by decide) ?_
          refine lv_goto (tgt := 63) hx hb d_Ed_putEntry_58 (by decide) ?_
          exact hB_63 y_1 y_2 (y_1 + 11) 48 S _ _ _ h hP hD hS (lv_sub hl [0, 1, 2] rfl)
      · have h := lf_f h c_2
        refine lv_aload_n hx hb d_Ed_putEntry_20 rfl (lv_at hl 0 rfl) ?_
        refine va_get (D := (dC, dI)) (ci := 8) (v := .ref M.o_Dk) (C := R_Ed) (T := F_Ed) (N := 13) hx hb hts (fun w h => u_Vq_Ed w (i_Ed w h)) hown hK hP 6 rfl rfl 0 (by decide) (hts _ (u_Vq_Ed _ k_Ed_7)) (fun _ h9 => h9) rfl d_Ed_putEntry_21 ?_
        refine lv_iload_n hx hb d_Ed_putEntry_24 rfl (lv_at hl 1 rfl) ?_
        refine lv_iload hx hb d_Ed_putEntry_25 (lv_at hl 4 rfl) ?_
        refine lv_iadd hx hb d_Ed_putEntry_27 ?_
        refine lv_aload_n hx hb d_Ed_putEntry_28 rfl (lv_at hl 0 rfl) ?_
        refine va_get (D := (dC, dI)) (ci := 8) (v := .ref M.a_Ed_shortName) (C := R_Ed) (T := F_Ed) (N := 13) hx hb hts (fun w h => u_Vq_Ed w (i_Ed w h)) hown hK hP 6 rfl rfl 7 (by decide) (hts _ (u_Vq_Ed _ k_Ed_14)) (fun _ h9 => h9) rfl d_Ed_putEntry_29 ?_
        refine lv_iload hx hb d_Ed_putEntry_32 (lv_at hl 4 rfl) ?_
        obtain ⟨g_4, h⟩ := lf_gE h
        refine va_iald hx hb hK hP 38 2 rfl rfl g_4 d_Ed_putEntry_34 ?_
        obtain ⟨S_5, hc_5, h⟩ := lf_bE h
        have hFc := lx_free hD hS hA
        refine va_callv (va_runV (As := [.int (y_1 + y_4), .int (S.w_Ed_shortName y_4.toNatClampNeg)]) (rest := []) ⟨hx, hb, hml, hown, hts⟩ (l_Dk_putOne l dC dI X _ hc_5) (cwV 2 hts (gwV good_Vq (u_Vq_Ed _ k_Ed_25) (u_Vq_Dk _ k_Dk_11) (u_Vq_Dk _ k_Dk_12) (u_Vq_Dk _ k_Dk_0) (wcs (u_Vq_Dk _ k_Dk_13) (fun _ h => h))) rfl rfl rfl (by decide +kernel) ⟨Nat.le_of_ble_eq_true rfl, Nat.le_of_ble_eq_true rfl⟩) (pv_ofE (X.same _) (fun U z1 z2 => X.mono _ _ U hFc (hEw _ _ hS U z1 z2)) hP hK hD (va_recv hK hP (ci := 0) (q0 := 1) rfl rfl)) rfl rfl hl.1 rfl (lv_room (Nat.le_of_ble_eq_true rfl)) d_Ed_putEntry_35 ⟨by decide, by decide⟩) hS (fun q _ h => hFc q h) hFc (fun u t H locs ht hvm hw hB hz1 hk1 hS => ?_)
        obtain ⟨hP, -, hD⟩ := hB
        rw [ht] at hP
        have hD := lx_dj hD hFc
        obtain ⟨x_6, ex_6, h⟩ := lf_lX h
        refine lv_iinc (v := x_6) (lv' := [(4, .int x_6), (0, .ref M.o_Ed), (1, .int y_1), (2, .int y_2), (3, .int y_3)]) hx hb d_Ed_putEntry_38 hl (k := 4) rfl (by rw [ex_6]; rfl) (by decide) rfl (fun ls hl => ?_)
        refine lv_goto (tgt := 13) hx hb d_Ed_putEntry_41 (by decide) ?_
        exact hr_13 y_1 y_2 y_3 x_6 S_5 _ _ _ h hP hD hS (lv_sub hl [1, 2, 3, 4, 0] rfl)
  rw [f_Ed_putEntry] at h
  refine lv_aload_n hx hb d_Ed_putEntry_0 rfl (lv_at hl 0 rfl) ?_
  refine va_get (D := (dC, dI)) (ci := 8) (v := .ref M.o_Dk) (C := R_Ed) (T := F_Ed) (N := 13) hx hb hts (fun w h => u_Vq_Ed w (i_Ed w h)) hown hK hP 6 rfl rfl 0 (by decide) (hts _ (u_Vq_Ed _ k_Ed_7)) (fun _ h9 => h9) rfl d_Ed_putEntry_1 ?_
  refine lv_iload_n hx hb d_Ed_putEntry_4 rfl (lv_at hl 1 rfl) ?_
  refine lv_bipush (v := 32) hx hb d_Ed_putEntry_5 (by decide) ?_
  obtain ⟨S_1, hc_1, h⟩ := lf_bE h
  have hFc := lx_free hD hS hA
  refine va_callv (va_runV (As := [.int p0, .int 32]) (rest := []) ⟨hx, hb, hml, hown, hts⟩ (l_Dk_zero l dC dI X _ hc_1) (cwV 2 hts (gwV good_Vq (u_Vq_Ed _ k_Ed_91) (u_Vq_Dk _ k_Dk_23) (u_Vq_Dk _ k_Dk_24) (u_Vq_Dk _ k_Dk_0) (wcs (u_Vq_Dk _ k_Dk_25) (fun _ h => h))) rfl rfl rfl (by decide +kernel) ⟨Nat.le_of_ble_eq_true rfl, Nat.le_of_ble_eq_true rfl⟩) (pv_ofE (X.same _) (fun U z1 z2 => X.mono _ _ U hFc (hEw _ _ hS U z1 z2)) hP hK hD (va_recv hK hP (ci := 0) (q0 := 1) rfl rfl)) rfl rfl hl.1 rfl (lv_room (Nat.le_of_ble_eq_true rfl)) d_Ed_putEntry_7 ⟨by decide, by decide⟩) hS (fun q _ h => hFc q h) hFc (fun u t H locs ht hvm hw hB hz1 hk1 hS => ?_)
  obtain ⟨hP, -, hD⟩ := hB
  rw [ht] at hP
  have hD := lx_dj hD hFc
  refine lv_iconst (v := 0) hx hb d_Ed_putEntry_10 (by decide) ?_
  refine lv_istore (lv' := [(4, .int 0), (0, .ref M.o_Ed), (1, .int p0), (2, .int p1), (3, .int p2)]) hx hb d_Ed_putEntry_11 hl (by decide) rfl (fun ls hl => ?_)
  exact hB_13 K p0 p1 p2 0 S_1 _ _ _ h hP hD hS (lv_sub hl [1, 2, 3, 4, 0] rfl)
set_option maxHeartbeats 4000000 in
set_option maxRecDepth 100000 in
theorem l_Ed_lengthenRoad (l : Launch) (dC : Nat → ClassId) (dI : Nat → Nat → Nat) {K : Nat} {M : CA} {E : (Nat → Prop) → State → Prop} (X : ly_X l dC dI K M E) (sz : Nat) {Y : CT} {G : CG} {S S' : CS} (h : f_Ed_lengthenRoad K G S = some S') : Met l y_Ed_lengthenRoad (.code y_Ed_lengthenRoad cb_Ed_lengthenRoad 2 none :: V_Vq) ({ frames := 4, cells := 0, slots := 0, locals := 89 }) (va_Pc [.ref M.o_Ed] (fun U => U.heap.size = sz ∧ at_ (dC, dI) (fun _ => True) (wV M Y G S) (tV M) U ∧ E (va_A (wV M Y G S) sz) U)) (va_Qv (fun (u : Unit) => True) (fun (u : Unit) t => at_ (dC, dI) (va_A (wV M Y G S) sz) (wV M Y G S') (tV M) t) (va_A (wV M Y G S) sz)) 0 0 (va_A (wV M Y G S) sz) := by
  refine Met.ofW (cc := cb_Ed_lengthenRoad) (maxL := 2) (ret := none) (by decide) rfl ?_
  intro p e s m args below meth c s₁ B hml hv
  obtain ⟨rfl, hsz, ⟨hP, hK, hD0⟩, hE⟩ := hv
  have hx := B.exec
  have hb := B.bytes
  have hr := B.returns
  have hts0 := atoms_spec (ws := .code y_Ed_lengthenRoad cb_Ed_lengthenRoad 2 none :: V_Vq) B.pre
  have hts : ∀ w ∈ V_Vq, w.before ([.ref M.o_Ed] : List Value).toArray s = true := fun w h => hts0 w (List.mem_cons_of_mem _ h)
  have hown : s.vm.findClass R_Ed = some m.cls := findClass_of_methodNamed B.named
  subst hsz
  have hD := hD0.self (sz := s.heap.size)
  generalize hAe : va_A (wV M Y G S) s.heap.size = A at hD hE ⊢
  have hA : ∀ q : Nat, s.heap.size ≤ q → A q := fun q h => by rw [← hAe]; exact Or.inr h
  have hS : va_S A s.heap s.heap [] := va_S.rf
  have hP : va_P (dC, dI) classes (wV M Y G S) s.heap := hP
  have hK : va_K (dC, dI) classes (tV M) s := hK
  have hEw : ∀ (H : Heap) (locs : List Loc), va_S A s.heap H locs → ∀ U : State, U.heap = H → s.WarmedH U.vm → E A U := fun H locs hS U hU hW => X.kept A s U H locs hE hS hU hW
  have hl := lv_entry ([.ref M.o_Ed]) (n := 2) (Nat.le_of_ble_eq_true rfl)
  rw [lg_entry_eq]
  generalize (lg_sl ([.ref M.o_Ed]) ++ List.replicate (2 - (lg_sl ([.ref M.o_Ed])).length) Slot.unset).toArray = ls at hl ⊢
  have hl : lv_has ls 2 [(0, .ref M.o_Ed)] := hl
  refine qabs (fun Q hQ => ?_)
  have hB_47 : ∀ (y_1 : Int32) (S : CS) (H : Heap) (locs : List Loc) (ls : Array Slot), f_Ed_lengthenRoad_47 K G y_1 S = some S' → va_P (dC, dI) classes (wV M Y G S) H → va_D A (wV M Y G S) → va_S A s.heap H locs → lv_has ls 2 [(0, .ref M.o_Ed), (1, .int y_1)] → W p l e ({ frames := 4, cells := 0, slots := 0, locals := 89 }) s m ([.ref M.o_Ed] : List Value).toArray below meth c H locs 0 0 Q (F0 m 47 ls []) := by
    intro y_1 S H locs ls h hP hD hS hl
    rw [f_Ed_lengthenRoad_47] at h
    refine lv_aload_n hx hb d_Ed_lengthenRoad_47 rfl (lv_at hl 0 rfl) ?_
    refine va_get (D := (dC, dI)) (ci := 8) (v := .ref M.a_Ed_road) (C := R_Ed) (T := F_Ed) (N := 13) hx hb hts (fun w h => u_Vq_Ed w (i_Ed w h)) hown hK hP 6 rfl rfl 3 (by decide) (hts _ (u_Vq_Ed _ k_Ed_10)) (fun _ h9 => h9) rfl d_Ed_lengthenRoad_48 ?_
    refine lv_aload_n hx hb d_Ed_lengthenRoad_51 rfl (lv_at hl 0 rfl) ?_
    refine va_get (D := (dC, dI)) (ci := 8) (v := .int S.v_Ed_roadLength) (C := R_Ed) (T := F_Ed) (N := 13) hx hb hts (fun w h => u_Vq_Ed w (i_Ed w h)) hown hK hP 6 rfl rfl 4 (by decide) (hts _ (u_Vq_Ed _ k_Ed_11)) (fun _ h9 => h9) rfl d_Ed_lengthenRoad_52 ?_
    refine lv_iload_n hx hb d_Ed_lengthenRoad_55 rfl (lv_at hl 1 rfl) ?_
    obtain ⟨g_6, h⟩ := lf_gE h
    refine va_iast hx hb hK hP hD hS 36 2 rfl rfl g_6 d_Ed_lengthenRoad_56 (fun H locs hP hD hS => ?_)
    obtain ⟨S_7, eS_7, h⟩ := lf_lX h
    have hP := ly_newP eS_7 hP
    have hD := ly_newD eS_7 hD
    refine lv_aload_n hx hb d_Ed_lengthenRoad_57 rfl (lv_at hl 0 rfl) ?_
    refine lv_dup hx hb d_Ed_lengthenRoad_58 rfl ?_
    refine va_get (D := (dC, dI)) (ci := 8) (v := .int S_7.v_Ed_roadLength) (C := R_Ed) (T := F_Ed) (N := 13) hx hb hts (fun w h => u_Vq_Ed w (i_Ed w h)) hown hK hP 6 rfl rfl 4 (by decide) (hts _ (u_Vq_Ed _ k_Ed_11)) (fun _ h9 => h9) rfl d_Ed_lengthenRoad_59 ?_
    refine lv_iconst (v := 1) hx hb d_Ed_lengthenRoad_62 (by decide) ?_
    refine lv_iadd hx hb d_Ed_lengthenRoad_63 ?_
    refine va_put (D := (dC, dI)) (ci := 8) (v := .int (S_7.v_Ed_roadLength + 1)) (ty := .int) (C := R_Ed) (T := F_Ed) (N := 13) hx hb hts (fun w h => u_Vq_Ed w (i_Ed w h)) t_Ed t_Ed_ok n_Ed hown hK hP hD hS 6 rfl rfl 4 (by decide) (hts _ (u_Vq_Ed _ k_Ed_11)) (fun _ h9 => h9) rfl (by decide +kernel) rfl rfl (Nat.le_of_ble_eq_true rfl) d_Ed_lengthenRoad_64 (fun H locs hP hD hS => ?_)
    obtain ⟨S_8, eS_8, h⟩ := lf_lX h
    have hP := ly_newP eS_8 hP
    have hD := ly_newD eS_8 hD
    rw [hQ]
    have e2 : S_8 = S' := Option.some.inj h
    have hP := ly_newP e2.symm hP
    have hD := ly_newD e2.symm hD
    exact W.vret hx hb hr (fun t ht hW => ⟨⟨(), rfl, trivial, by rw [ht]; exact hP, va_K.moved hW.alike hK, hD⟩, hS.F ht⟩) hS.2.2 d_Ed_lengthenRoad_67
  rw [f_Ed_lengthenRoad] at h
  refine lv_aload_n hx hb d_Ed_lengthenRoad_0 rfl (lv_at hl 0 rfl) ?_
  refine va_get (D := (dC, dI)) (ci := 8) (v := .ref M.o_Tb) (C := R_Ed) (T := F_Ed) (N := 13) hx hb hts (fun w h => u_Vq_Ed w (i_Ed w h)) hown hK hP 6 rfl rfl 1 (by decide) (hts _ (u_Vq_Ed _ k_Ed_8)) (fun _ h9 => h9) rfl d_Ed_lengthenRoad_1 ?_
  obtain ⟨r_1, S_1, hc_1, h⟩ := lf_cE h
  have hFc := lx_free hD hS hA
  refine va_calli (va_runV (As := []) (rest := []) ⟨hx, hb, hml, hown, hts⟩ (l_Tb_takeFree l dC dI X _ hc_1) (cwV 0 hts (gwV good_Vq (u_Vq_Ed _ k_Ed_83) (u_Vq_Tb _ k_Tb_104) (u_Vq_Tb _ k_Tb_105) (u_Vq_Tb _ k_Tb_0) (wcs (u_Vq_Tb _ k_Tb_106) (fun _ h => h))) rfl rfl rfl (by decide +kernel) ⟨Nat.le_of_ble_eq_true rfl, Nat.le_of_ble_eq_true rfl⟩) (pv_ofE (X.same _) (fun U z1 z2 => X.mono _ _ U hFc (hEw _ _ hS U z1 z2)) hP hK hD (va_recv hK hP (ci := 4) (q0 := 3) rfl rfl)) rfl rfl hl.1 rfl (lv_room (Nat.le_of_ble_eq_true rfl)) d_Ed_lengthenRoad_4 ⟨by decide, by decide⟩) hS (fun q _ h => hFc q h) hFc (fun r_ u t H locs ht hvm hw hB hz1 hk1 hS => ?_)
  rw [hw]
  obtain ⟨hP, -, hD⟩ := hB
  rw [ht] at hP
  have hD := lx_dj hD hFc
  refine lv_istore_n (lv' := [(1, .int r_1), (0, .ref M.o_Ed)]) hx hb d_Ed_lengthenRoad_7 rfl hl (by decide) rfl (fun ls hl => ?_)
  refine lv_aload_n hx hb d_Ed_lengthenRoad_8 rfl (lv_at hl 1 rfl) ?_
  refine va_get (D := (dC, dI)) (ci := 8) (v := .int S_1.v_Ed_roadLength) (C := R_Ed) (T := F_Ed) (N := 13) hx hb hts (fun w h => u_Vq_Ed w (i_Ed w h)) hown hK hP 6 rfl rfl 4 (by decide) (hts _ (u_Vq_Ed _ k_Ed_11)) (fun _ h9 => h9) rfl d_Ed_lengthenRoad_9 ?_
  refine lv_aload_n hx hb d_Ed_lengthenRoad_12 rfl (lv_at hl 1 rfl) ?_
  refine va_get (D := (dC, dI)) (ci := 8) (v := .ref M.a_Ed_road) (C := R_Ed) (T := F_Ed) (N := 13) hx hb hts (fun w h => u_Vq_Ed w (i_Ed w h)) hown hK hP 6 rfl rfl 3 (by decide) (hts _ (u_Vq_Ed _ k_Ed_10)) (fun _ h9 => h9) rfl d_Ed_lengthenRoad_13 ?_
  refine va_alen (v := nI (G.n / 2 + 2)) hx hb hK hP 36 2 rfl rfl rfl d_Ed_lengthenRoad_16 ?_
  refine lv_icmp_lt (tgt := 21) hx hb d_Ed_lengthenRoad_17 (by decide) (fun c_2 => ?_) (fun c_2 => ?_)
  · have h := lf_t h c_2
    refine lv_aload_n hx hb d_Ed_lengthenRoad_21 rfl (lv_at hl 1 rfl) ?_
    refine va_get (D := (dC, dI)) (ci := 8) (v := .int S_1.v_Ed_roadLength) (C := R_Ed) (T := F_Ed) (N := 13) hx hb hts (fun w h => u_Vq_Ed w (i_Ed w h)) hown hK hP 6 rfl rfl 4 (by decide) (hts _ (u_Vq_Ed _ k_Ed_11)) (fun _ h9 => h9) rfl d_Ed_lengthenRoad_22 ?_
    refine lv_if_le (tgt := 47) hx hb d_Ed_lengthenRoad_25 (by decide) (fun c_3 => ?_) (fun c_3 => ?_)
    · have h := lf_t h c_3
      exact hB_47 r_1 S_1 _ _ _ h hP hD hS (lv_sub hl [1, 0] rfl)
    · have h := lf_f h c_3
      refine lv_aload_n hx hb d_Ed_lengthenRoad_28 rfl (lv_at hl 1 rfl) ?_
      refine va_get (D := (dC, dI)) (ci := 8) (v := .ref M.o_Tb) (C := R_Ed) (T := F_Ed) (N := 13) hx hb hts (fun w h => u_Vq_Ed w (i_Ed w h)) hown hK hP 6 rfl rfl 1 (by decide) (hts _ (u_Vq_Ed _ k_Ed_8)) (fun _ h9 => h9) rfl d_Ed_lengthenRoad_29 ?_
      refine lv_aload_n hx hb d_Ed_lengthenRoad_32 rfl (lv_at hl 1 rfl) ?_
      refine va_get (D := (dC, dI)) (ci := 8) (v := .ref M.a_Ed_road) (C := R_Ed) (T := F_Ed) (N := 13) hx hb hts (fun w h => u_Vq_Ed w (i_Ed w h)) hown hK hP 6 rfl rfl 3 (by decide) (hts _ (u_Vq_Ed _ k_Ed_10)) (fun _ h9 => h9) rfl d_Ed_lengthenRoad_33 ?_
      refine lv_aload_n hx hb d_Ed_lengthenRoad_36 rfl (lv_at hl 1 rfl) ?_
      refine va_get (D := (dC, dI)) (ci := 8) (v := .int S_1.v_Ed_roadLength) (C := R_Ed) (T := F_Ed) (N := 13) hx hb hts (fun w h => u_Vq_Ed w (i_Ed w h)) hown hK hP 6 rfl rfl 4 (by decide) (hts _ (u_Vq_Ed _ k_Ed_11)) (fun _ h9 => h9) rfl d_Ed_lengthenRoad_37 ?_
      refine lv_iconst (v := 1) hx hb d_Ed_lengthenRoad_40 (by decide) ?_
      refine lv_isub hx hb d_Ed_lengthenRoad_41 ?_
      obtain ⟨g_4, h⟩ := lf_gE h
      refine va_iald hx hb hK hP 36 2 rfl rfl g_4 d_Ed_lengthenRoad_42 ?_
      refine lv_iload_n hx hb d_Ed_lengthenRoad_43 rfl (lv_at hl 0 rfl) ?_
      obtain ⟨S_5, hc_5, h⟩ := lf_bE h
      have hFc := lx_free hD hS hA
      refine va_callv (va_runV (As := [.int (S_1.w_Ed_road (S_1.v_Ed_roadLength - 1).toNatClampNeg), .int r_1]) (rest := []) ⟨hx, hb, hml, hown, hts⟩ (l_Tb_link l dC dI X _ hc_5) (cwV 2 hts (gwV good_Vq (u_Vq_Ed _ k_Ed_87) (u_Vq_Tb _ k_Tb_92) (u_Vq_Tb _ k_Tb_93) (u_Vq_Tb _ k_Tb_0) (wcs (u_Vq_Tb _ k_Tb_94) (fun _ h => h))) rfl rfl rfl (by decide +kernel) ⟨Nat.le_of_ble_eq_true rfl, Nat.le_of_ble_eq_true rfl⟩) (pv_ofE (X.same _) (fun U z1 z2 => X.mono _ _ U hFc (hEw _ _ hS U z1 z2)) hP hK hD (va_recv hK hP (ci := 4) (q0 := 3) rfl rfl)) rfl rfl hl.1 rfl (lv_room (Nat.le_of_ble_eq_true rfl)) d_Ed_lengthenRoad_44 ⟨by decide, by decide⟩) hS (fun q _ h => hFc q h) hFc (fun u t H locs ht hvm hw hB hz1 hk1 hS => ?_)
      obtain ⟨hP, -, hD⟩ := hB
      rw [ht] at hP
      have hD := lx_dj hD hFc
      exact hB_47 r_1 S_5 _ _ _ h hP hD hS (lv_sub hl [1, 0] rfl)
  · have h := lf_f h c_2
    rw [hQ]
    have e2 : S_1 = S' := Option.some.inj h
    have hP := ly_newP e2.symm hP
    have hD := ly_newD e2.symm hD
    exact W.vret hx hb hr (fun t ht hW => ⟨⟨(), rfl, trivial, by rw [ht]; exact hP, va_K.moved hW.alike hK, hD⟩, hS.F ht⟩) hS.2.2 d_Ed_lengthenRoad_20
set_option maxHeartbeats 4000000 in
set_option maxRecDepth 100000 in
theorem l_Ed_putPart (l : Launch) (dC : Nat → ClassId) (dI : Nat → Nat → Nat) {K : Nat} {M : CA} {E : (Nat → Prop) → State → Prop} (X : ly_X l dC dI K M E) (sz : Nat) {Y : CT} {G : CG} {S S' : CS} {p0 : Int32} {p1 : Int32} (h : f_Ed_putPart K G S p0 p1 = some S') : Met l y_Ed_putPart (.code y_Ed_putPart cb_Ed_putPart 6 none :: V_Vq) ({ frames := 3, cells := 0, slots := 0, locals := 68 }) (va_Pc [.ref M.o_Ed, .int p0, .int p1] (fun U => U.heap.size = sz ∧ at_ (dC, dI) (fun _ => True) (wV M Y G S) (tV M) U ∧ E (va_A (wV M Y G S) sz) U)) (va_Qv (fun (u : Unit) => True) (fun (u : Unit) t => at_ (dC, dI) (va_A (wV M Y G S) sz) (wV M Y G S') (tV M) t) (va_A (wV M Y G S) sz)) 0 0 (va_A (wV M Y G S) sz) := by
  refine Met.ofW (cc := cb_Ed_putPart) (maxL := 6) (ret := none) (by decide) rfl ?_
  intro p e s m args below meth c s₁ B hml hv
  obtain ⟨rfl, hsz, ⟨hP, hK, hD0⟩, hE⟩ := hv
  have hx := B.exec
  have hb := B.bytes
  have hr := B.returns
  have hts0 := atoms_spec (ws := .code y_Ed_putPart cb_Ed_putPart 6 none :: V_Vq) B.pre
  have hts : ∀ w ∈ V_Vq, w.before ([.ref M.o_Ed, .int p0, .int p1] : List Value).toArray s = true := fun w h => hts0 w (List.mem_cons_of_mem _ h)
  have hown : s.vm.findClass R_Ed = some m.cls := findClass_of_methodNamed B.named
  subst hsz
  have hD := hD0.self (sz := s.heap.size)
  generalize hAe : va_A (wV M Y G S) s.heap.size = A at hD hE ⊢
  have hA : ∀ q : Nat, s.heap.size ≤ q → A q := fun q h => by rw [← hAe]; exact Or.inr h
  have hS : va_S A s.heap s.heap [] := va_S.rf
  have hP : va_P (dC, dI) classes (wV M Y G S) s.heap := hP
  have hK : va_K (dC, dI) classes (tV M) s := hK
  have hEw : ∀ (H : Heap) (locs : List Loc), va_S A s.heap H locs → ∀ U : State, U.heap = H → s.WarmedH U.vm → E A U := fun H locs hS U hU hW => X.kept A s U H locs hE hS hU hW
  have hl := lv_entry ([.ref M.o_Ed, .int p0, .int p1]) (n := 6) (Nat.le_of_ble_eq_true rfl)
  rw [lg_entry_eq]
  generalize (lg_sl ([.ref M.o_Ed, .int p0, .int p1]) ++ List.replicate (6 - (lg_sl ([.ref M.o_Ed, .int p0, .int p1])).length) Slot.unset).toArray = ls at hl ⊢
  have hl : lv_has ls 6 [(0, .ref M.o_Ed), (1, .int p0), (2, .int p1)] := hl
  refine qabs (fun Q hQ => ?_)
  have hB_134 : ∀ (rec_84 : Int32 → Int32 → Int32 → CS → Option (CS)) (hr_84 : ∀ (y_1 : Int32) (y_2 : Int32) (y_3 : Int32) (S : CS) (H : Heap) (locs : List Loc) (ls : Array Slot), rec_84 y_1 y_2 y_3 S = some S' → va_P (dC, dI) classes (wV M Y G S) H → va_D A (wV M Y G S) → va_S A s.heap H locs → lv_has ls 6 [(0, .ref M.o_Ed), (1, .int y_1), (2, .int y_2), (3, .int y_3)] → W p l e ({ frames := 3, cells := 0, slots := 0, locals := 68 }) s m ([.ref M.o_Ed, .int p0, .int p1] : List Value).toArray below meth c H locs 0 0 Q (F0 m 84 ls [])), ∀ (y_1 : Int32) (y_2 : Int32) (y_3 : Int32) (z_0 : Int32) (S : CS) (H : Heap) (locs : List Loc) (ls : Array Slot), f_Ed_putPart_134 K G rec_84 y_1 y_2 y_3 z_0 S = some S' → va_P (dC, dI) classes (wV M Y G S) H → va_D A (wV M Y G S) → va_S A s.heap H locs → lv_has ls 6 [(0, .ref M.o_Ed), (1, .int y_1), (2, .int y_2), (3, .int y_3)] → W p l e ({ frames := 3, cells := 0, slots := 0, locals := 68 }) s m ([.ref M.o_Ed, .int p0, .int p1] : List Value).toArray below meth c H locs 0 0 Q (F0 m 134 ls [.int z_0]) := by
    intro rec_84 hr_84 y_1 y_2 y_3 z_0 S H locs ls h hP hD hS hl
    rw [f_Ed_putPart_134] at h
    refine lv_istore (lv' := [(5, .int z_0), (0, .ref M.o_Ed), (1, .int y_1), (2, .int y_2), (3, .int y_3)]) hx hb d_Ed_putPart_134 hl (by decide) rfl (fun ls hl => ?_)
    refine lv_aload_n hx hb d_Ed_putPart_136 rfl (lv_at hl 1 rfl) ?_
    refine va_get (D := (dC, dI)) (ci := 8) (v := .ref M.o_Dk) (C := R_Ed) (T := F_Ed) (N := 13) hx hb hts (fun w h => u_Vq_Ed w (i_Ed w h)) hown hK hP 6 rfl rfl 0 (by decide) (hts _ (u_Vq_Ed _ k_Ed_7)) (fun _ h9 => h9) rfl d_Ed_putPart_137 ?_
    refine lv_iload_n hx hb d_Ed_putPart_140 rfl (lv_at hl 2 rfl) ?_
    refine lv_iload_n hx hb d_Ed_putPart_141 rfl (lv_at hl 4 rfl) ?_
    obtain ⟨r_13, hc_13, h⟩ := lf_bE h
    have hFc := lx_free0 hS hA
    refine va_calli (va_runS (As := [.int y_3]) (rest := [.int y_1, .ref M.o_Dk]) ⟨hx, hb, hml, hown, hts⟩ (l_Rd_unitPlace l dC dI  _ hc_13) (va_cwS 1 hts (gwS good_Vq (u_Vq_Ed _ k_Ed_100) (u_Vq_Rd _ k_Rd_54) (u_Vq_Rd _ k_Rd_0) (wcs (u_Vq_Rd _ k_Rd_55) (fun _ h => h))) rfl rfl rfl (by decide +kernel) ⟨Nat.le_of_ble_eq_true rfl, Nat.le_of_ble_eq_true rfl⟩) (ps_of (W := []) (tys := []) (hP.sub (ws' := []) [] rfl) (hK.sub [] rfl) (hD.sub (ws' := []) [] (by decide) rfl)) rfl rfl hl.1 rfl (lv_room (Nat.le_of_ble_eq_true rfl)) d_Ed_putPart_142 ⟨by decide, by decide⟩) hS (fun q _ h => hFc q h) hFc (fun r_ u t H locs ht hvm hw hB hz1 hk1 hS => ?_)
    rw [hw]
    have hP := lx_stat (A := A) hP hk1
    refine lv_iadd hx hb d_Ed_putPart_145 ?_
    refine lv_iload hx hb d_Ed_putPart_146 (lv_at hl 0 rfl) ?_
    obtain ⟨S_14, hc_14, h⟩ := lf_bE h
    have hFc := lx_free hD hS hA
    refine va_callv (va_runV (As := [.int (y_1 + r_13), .int z_0]) (rest := []) ⟨hx, hb, hml, hown, hts⟩ (l_Dk_putTwo l dC dI X _ hc_14) (cwV 2 hts (gwV good_Vq (u_Vq_Ed _ k_Ed_26) (u_Vq_Dk _ k_Dk_27) (u_Vq_Dk _ k_Dk_28) (u_Vq_Dk _ k_Dk_0) (wcs (u_Vq_Dk _ k_Dk_29) (fun _ h => h))) rfl rfl rfl (by decide +kernel) ⟨Nat.le_of_ble_eq_true rfl, Nat.le_of_ble_eq_true rfl⟩) (pv_ofE (X.same _) (fun U z1 z2 => X.mono _ _ U hFc (hEw _ _ hS U z1 z2)) hP hK hD (va_recv hK hP (ci := 0) (q0 := 1) rfl rfl)) rfl rfl hl.1 rfl (lv_room (Nat.le_of_ble_eq_true rfl)) d_Ed_putPart_148 ⟨by decide, by decide⟩) hS (fun q _ h => hFc q h) hFc (fun u t H locs ht hvm hw hB hz1 hk1 hS => ?_)
    obtain ⟨hP, -, hD⟩ := hB
    rw [ht] at hP
    have hD := lx_dj hD hFc
    obtain ⟨x_15, ex_15, h⟩ := lf_lX h
    refine lv_iinc (v := x_15) (lv' := [(3, .int x_15), (5, .int z_0), (0, .ref M.o_Ed), (1, .int y_1), (2, .int y_2)]) hx hb d_Ed_putPart_151 hl (k := 4) rfl (by rw [ex_15]; rfl) (by decide) rfl (fun ls hl => ?_)
    refine lv_goto (tgt := 84) hx hb d_Ed_putPart_154 (by decide) ?_
    exact hr_84 y_1 y_2 x_15 S_14 _ _ _ h hP hD hS (lv_sub hl [2, 3, 4, 0] rfl)
  have hB_84 : ∀ (k : Nat), ∀ (y_1 : Int32) (y_2 : Int32) (y_3 : Int32) (S : CS) (H : Heap) (locs : List Loc) (ls : Array Slot), f_Ed_putPart_84 K G k y_1 y_2 y_3 S = some S' → va_P (dC, dI) classes (wV M Y G S) H → va_D A (wV M Y G S) → va_S A s.heap H locs → lv_has ls 6 [(0, .ref M.o_Ed), (1, .int y_1), (2, .int y_2), (3, .int y_3)] → W p l e ({ frames := 3, cells := 0, slots := 0, locals := 68 }) s m ([.ref M.o_Ed, .int p0, .int p1] : List Value).toArray below meth c H locs 0 0 Q (F0 m 84 ls []) := by
    intro k
    induction k with
    | zero => intro y_1 y_2 y_3 S H locs ls h; exact lf_no h
    | succ k hr_84 =>
      intro y_1 y_2 y_3 S H locs ls h hP hD hS hl
      rw [f_Ed_putPart_84] at h
      refine lv_iload_n hx hb d_Ed_putPart_84 rfl (lv_at hl 3 rfl) ?_
      refine lv_bipush (v := 13) hx hb d_Ed_putPart_85 (by decide) ?_
      refine lv_icmp_ge (tgt := 157) hx hb d_Ed_putPart_87 (by decide) (fun c_8 => ?_) (fun c_8 => ?_)
      · have h := lf_t h c_8
        rw [hQ]
        have e2 : S = S' := Option.some.inj h
        have hP := ly_newP e2.symm hP
        have hD := ly_newD e2.symm hD
        exact W.vret hx hb hr (fun t ht hW => ⟨⟨(), rfl, trivial, by rw [ht]; exact hP, va_K.moved hW.alike hK, hD⟩, hS.F ht⟩) hS.2.2 d_Ed_putPart_157
      · have h := lf_f h c_8
        refine lv_iload_n hx hb d_Ed_putPart_90 rfl (lv_at hl 2 rfl) ?_
        refine lv_iconst (v := 1) hx hb d_Ed_putPart_91 (by decide) ?_
        refine lv_isub hx hb d_Ed_putPart_92 ?_
        refine lv_bipush (v := 13) hx hb d_Ed_putPart_93 (by decide) ?_
        refine lv_imul hx hb d_Ed_putPart_95 ?_
        refine lv_iload_n hx hb d_Ed_putPart_96 rfl (lv_at hl 3 rfl) ?_
        refine lv_iadd hx hb d_Ed_putPart_97 ?_
        refine lv_topi (fun x_9 ex_9 => ?_)
        have h := lf_lE h ex_9
        refine lv_istore (lv' := [(4, .int x_9), (0, .ref M.o_Ed), (1, .int y_1), (2, .int y_2), (3, .int y_3)]) hx hb d_Ed_putPart_98 hl (by decide) rfl (fun ls hl => ?_)
        refine lv_iload hx hb d_Ed_putPart_100 (lv_at hl 0 rfl) ?_
        refine lv_aload_n hx hb d_Ed_putPart_102 rfl (lv_at hl 1 rfl) ?_
        refine va_get (D := (dC, dI)) (ci := 8) (v := .int S.v_Ed_unitCount) (C := R_Ed) (T := F_Ed) (N := 13) hx hb hts (fun w h => u_Vq_Ed w (i_Ed w h)) hown hK hP 6 rfl rfl 6 (by decide) (hts _ (u_Vq_Ed _ k_Ed_13)) (fun _ h9 => h9) rfl d_Ed_putPart_103 ?_
        refine lv_icmp_ge (tgt := 119) hx hb d_Ed_putPart_106 (by decide) (fun c_10 => ?_) (fun c_10 => ?_)
        · have h := lf_t h c_10
          refine lv_iload hx hb d_Ed_putPart_119 (lv_at hl 0 rfl) ?_
          refine lv_aload_n hx hb d_Ed_putPart_121 rfl (lv_at hl 1 rfl) ?_
          refine va_get (D := (dC, dI)) (ci := 8) (v := .int S.v_Ed_unitCount) (C := R_Ed) (T := F_Ed) (N := 13) hx hb hts (fun w h => u_Vq_Ed w (i_Ed w h)) hown hK hP 6 rfl rfl 6 (by decide) (hts _ (u_Vq_Ed _ k_Ed_13)) (fun _ h9 => h9) rfl d_Ed_putPart_122 ?_
          refine lv_icmp_ne (tgt := 132) hx hb d_Ed_putPart_125 (by decide) (fun c_11 => ?_) (fun c_11 => ?_)
          · have h := lf_f h c_11
            refine lv_ldc (v := 65535) hx hb hown (hts _ (u_Vq_Ed _ k_Ed_99)) d_Ed_putPart_132 ?_
            exact hB_134 _ hr_84 y_1 y_2 y_3 65535 S _ _ _ h hP hD hS (lv_sub hl [1, 2, 3, 4] rfl)
          · have h := lf_t h c_11
            refine lv_iconst (v := 0) hx hb d_Ed_putPart_128 (by decide) ?_
            refine lv_goto (tgt := 134) hx hb d_Ed_putPart_129 (by decide) ?_
            exact hB_134 _ hr_84 y_1 y_2 y_3 0 S _ _ _ h hP hD hS (lv_sub hl [1, 2, 3, 4] rfl)
        · have h := lf_f h c_10
          refine lv_aload_n hx hb d_Ed_putPart_109 rfl (lv_at hl 1 rfl) ?_
          refine va_get (D := (dC, dI)) (ci := 8) (v := .ref M.a_Ed_units) (C := R_Ed) (T := F_Ed) (N := 13) hx hb hts (fun w h => u_Vq_Ed w (i_Ed w h)) hown hK hP 6 rfl rfl 5 (by decide) (hts _ (u_Vq_Ed _ k_Ed_12)) (fun _ h9 => h9) rfl d_Ed_putPart_110 ?_
          refine lv_iload hx hb d_Ed_putPart_113 (lv_at hl 0 rfl) ?_
          obtain ⟨g_12, h⟩ := lf_gE h
          refine va_iald hx hb hK hP 37 2 rfl rfl g_12 d_Ed_putPart_115 ?_
          refine lv_goto (tgt := 134) hx hb d_Ed_putPart_116 (by decide) ?_
          exact hB_134 _ hr_84 y_1 y_2 y_3 (S.w_Ed_units x_9.toNatClampNeg) S _ _ _ h hP hD hS (lv_sub hl [1, 2, 3, 4] rfl)
  have hB_33 : ∀ (y_1 : Int32) (y_2 : Int32) (z_1 : Int32) (z_2 : Int32) (S : CS) (H : Heap) (locs : List Loc) (ls : Array Slot), f_Ed_putPart_33 K G y_1 y_2 z_1 z_2 S = some S' → va_P (dC, dI) classes (wV M Y G S) H → va_D A (wV M Y G S) → va_S A s.heap H locs → lv_has ls 6 [(0, .ref M.o_Ed), (1, .int y_1), (2, .int y_2)] → W p l e ({ frames := 3, cells := 0, slots := 0, locals := 68 }) s m ([.ref M.o_Ed, .int p0, .int p1] : List Value).toArray below meth c H locs 0 0 Q (F0 m 33 ls [.int z_2, .int z_1, .ref M.o_Dk]) := by
    intro y_1 y_2 z_1 z_2 S H locs ls h hP hD hS hl
    rw [f_Ed_putPart_33] at h
    obtain ⟨S_3, hc_3, h⟩ := lf_bE h
    have hFc := lx_free hD hS hA
    refine va_callv (va_runV (As := [.int z_1, .int z_2]) (rest := []) ⟨hx, hb, hml, hown, hts⟩ (l_Dk_putOne l dC dI X _ hc_3) (cwV 2 hts (gwV good_Vq (u_Vq_Ed _ k_Ed_25) (u_Vq_Dk _ k_Dk_11) (u_Vq_Dk _ k_Dk_12) (u_Vq_Dk _ k_Dk_0) (wcs (u_Vq_Dk _ k_Dk_13) (fun _ h => h))) rfl rfl rfl (by decide +kernel) ⟨Nat.le_of_ble_eq_true rfl, Nat.le_of_ble_eq_true rfl⟩) (pv_ofE (X.same _) (fun U z1 z2 => X.mono _ _ U hFc (hEw _ _ hS U z1 z2)) hP hK hD (va_recv hK hP (ci := 0) (q0 := 1) rfl rfl)) rfl rfl hl.1 rfl (lv_room (Nat.le_of_ble_eq_true rfl)) d_Ed_putPart_33 ⟨by decide, by decide⟩) hS (fun q _ h => hFc q h) hFc (fun u t H locs ht hvm hw hB hz1 hk1 hS => ?_)
    obtain ⟨hP, -, hD⟩ := hB
    rw [ht] at hP
    have hD := lx_dj hD hFc
    refine lv_aload_n hx hb d_Ed_putPart_36 rfl (lv_at hl 0 rfl) ?_
    refine va_get (D := (dC, dI)) (ci := 8) (v := .ref M.o_Dk) (C := R_Ed) (T := F_Ed) (N := 13) hx hb hts (fun w h => u_Vq_Ed w (i_Ed w h)) hown hK hP 6 rfl rfl 0 (by decide) (hts _ (u_Vq_Ed _ k_Ed_7)) (fun _ h9 => h9) rfl d_Ed_putPart_37 ?_
    refine lv_iload_n hx hb d_Ed_putPart_40 rfl (lv_at hl 1 rfl) ?_
    refine lv_bipush (v := 11) hx hb d_Ed_putPart_41 (by decide) ?_
    refine lv_iadd hx hb d_Ed_putPart_43 ?_
    refine lv_bipush (v := 15) hx hb d_Ed_putPart_44 (by decide) ?_
    obtain ⟨S_4, hc_4, h⟩ := lf_bE h
    have hFc := lx_free hD hS hA
    refine va_callv (va_runV (As := [.int (y_1 + 11), .int 15]) (rest := []) ⟨hx, hb, hml, hown, hts⟩ (l_Dk_putOne l dC dI X _ hc_4) (cwV 2 hts (gwV good_Vq (u_Vq_Ed _ k_Ed_25) (u_Vq_Dk _ k_Dk_11) (u_Vq_Dk _ k_Dk_12) (u_Vq_Dk _ k_Dk_0) (wcs (u_Vq_Dk _ k_Dk_13) (fun _ h => h))) rfl rfl rfl (by decide +kernel) ⟨Nat.le_of_ble_eq_true rfl, Nat.le_of_ble_eq_true rfl⟩) (pv_ofE (X.same _) (fun U z1 z2 => X.mono _ _ U hFc (hEw _ _ hS U z1 z2)) hP hK hD (va_recv hK hP (ci := 0) (q0 := 1) rfl rfl)) rfl rfl hl.1 rfl (lv_room (Nat.le_of_ble_eq_true rfl)) d_Ed_putPart_46 ⟨by decide, by decide⟩) hS (fun q _ h => hFc q h) hFc (fun u t H locs ht hvm hw hB hz1 hk1 hS => ?_)
    obtain ⟨hP, -, hD⟩ := hB
    rw [ht] at hP
    have hD := lx_dj hD hFc
    refine lv_aload_n hx hb d_Ed_putPart_49 rfl (lv_at hl 0 rfl) ?_
    refine va_get (D := (dC, dI)) (ci := 8) (v := .ref M.o_Dk) (C := R_Ed) (T := F_Ed) (N := 13) hx hb hts (fun w h => u_Vq_Ed w (i_Ed w h)) hown hK hP 6 rfl rfl 0 (by decide) (hts _ (u_Vq_Ed _ k_Ed_7)) (fun _ h9 => h9) rfl d_Ed_putPart_50 ?_
    refine lv_iload_n hx hb d_Ed_putPart_53 rfl (lv_at hl 1 rfl) ?_
    refine lv_bipush (v := 13) hx hb d_Ed_putPart_54 (by decide) ?_
    refine lv_iadd hx hb d_Ed_putPart_56 ?_
    refine lv_aload_n hx hb d_Ed_putPart_57 rfl (lv_at hl 0 rfl) ?_
    refine va_get (D := (dC, dI)) (ci := 8) (v := .ref M.o_Dk) (C := R_Ed) (T := F_Ed) (N := 13) hx hb hts (fun w h => u_Vq_Ed w (i_Ed w h)) hown hK hP 6 rfl rfl 0 (by decide) (hts _ (u_Vq_Ed _ k_Ed_7)) (fun _ h9 => h9) rfl d_Ed_putPart_58 ?_
    refine lv_aload_n hx hb d_Ed_putPart_61 rfl (lv_at hl 0 rfl) ?_
    refine lv_aload_n hx hb d_Ed_putPart_62 rfl (lv_at hl 0 rfl) ?_
    refine va_get (D := (dC, dI)) (ci := 8) (v := .int S_4.v_Ed_firstSlot) (C := R_Ed) (T := F_Ed) (N := 13) hx hb hts (fun w h => u_Vq_Ed w (i_Ed w h)) hown hK hP 6 rfl rfl 9 (by decide) (hts _ (u_Vq_Ed _ k_Ed_16)) (fun _ h9 => h9) rfl d_Ed_putPart_63 ?_
    refine lv_aload_n hx hb d_Ed_putPart_66 rfl (lv_at hl 0 rfl) ?_
    refine va_get (D := (dC, dI)) (ci := 8) (v := .int S_4.v_Ed_slots) (C := R_Ed) (T := F_Ed) (N := 13) hx hb hts (fun w h => u_Vq_Ed w (i_Ed w h)) hown hK hP 6 rfl rfl 10 (by decide) (hts _ (u_Vq_Ed _ k_Ed_17)) (fun _ h9 => h9) rfl d_Ed_putPart_67 ?_
    refine lv_iadd hx hb d_Ed_putPart_70 ?_
    refine lv_iconst (v := 1) hx hb d_Ed_putPart_71 (by decide) ?_
    refine lv_isub hx hb d_Ed_putPart_72 ?_
    obtain ⟨r_5, S_5, hc_5, h⟩ := lf_cE h
    have hFc := lx_free hD hS hA
    refine va_calli (va_runV (As := [.int ((S_4.v_Ed_firstSlot + S_4.v_Ed_slots) - 1)]) (rest := [.ref M.o_Dk, .int (y_1 + 13), .ref M.o_Dk]) ⟨hx, hb, hml, hown, hts⟩ (l_Ed_slotPlace l dC dI X _ hc_5) (cwV 1 hts (gwV good_Vq (u_Vq_Ed _ k_Ed_64) (u_Vq_Ed _ k_Ed_65) (u_Vq_Ed _ k_Ed_136) (u_Vq_Ed _ k_Ed_0) (wcs (u_Vq_Ed _ k_Ed_66) (fun _ h => h))) rfl rfl rfl (by decide +kernel) ⟨Nat.le_of_ble_eq_true rfl, Nat.le_of_ble_eq_true rfl⟩) (pv_ofE (X.same _) (fun U z1 z2 => X.mono _ _ U hFc (hEw _ _ hS U z1 z2)) hP hK hD (va_recv hK hP (ci := 8) (q0 := 6) rfl rfl)) rfl rfl hl.1 rfl (lv_room (Nat.le_of_ble_eq_true rfl)) d_Ed_putPart_73 ⟨by decide, by decide⟩) hS (fun q _ h => hFc q h) hFc (fun r_ u t H locs ht hvm hw hB hz1 hk1 hS => ?_)
    rw [hw]
    obtain ⟨hP, -, hD⟩ := hB
    rw [ht] at hP
    have hD := lx_dj hD hFc
    obtain ⟨r_6, S_6, hc_6, h⟩ := lf_cE h
    have hFc := lx_free hD hS hA
    refine va_calli (va_runS (As := [.ref M.o_Dk, .int r_5]) (rest := [.int (y_1 + 13), .ref M.o_Dk]) ⟨hx, hb, hml, hown, hts⟩ (l_Wo_sum l dC dI X _ hc_6) (va_cwS 2 hts (gwS good_Vq (u_Vq_Ed _ k_Ed_98) (u_Vq_Wo _ k_Wo_7) (u_Vq_Wo _ k_Wo_0) (wcs (u_Vq_Wo _ k_Wo_8) (fun _ h => h))) rfl rfl rfl (by decide +kernel) ⟨Nat.le_of_ble_eq_true rfl, Nat.le_of_ble_eq_true rfl⟩) (ps_ofE2 (X.same _) (fun U z1 z2 => X.mono _ _ U hFc (hEw _ _ hS U z1 z2)) hP hK hD) rfl rfl hl.1 rfl (lv_room (Nat.le_of_ble_eq_true rfl)) d_Ed_putPart_76 ⟨by decide, by decide⟩) hS (fun q _ h => hFc q h) hFc (fun r_ u t H locs ht hvm hw hB hz1 hk1 hS => ?_)
    rw [hw]
    obtain ⟨hP, -, hD⟩ := hB
    rw [ht] at hP
    have hD := lx_dj hD hFc
    obtain ⟨S_7, hc_7, h⟩ := lf_bE h
    have hFc := lx_free hD hS hA
    refine va_callv (va_runV (As := [.int (y_1 + 13), .int r_6]) (rest := []) ⟨hx, hb, hml, hown, hts⟩ (l_Dk_putOne l dC dI X _ hc_7) (cwV 2 hts (gwV good_Vq (u_Vq_Ed _ k_Ed_25) (u_Vq_Dk _ k_Dk_11) (u_Vq_Dk _ k_Dk_12) (u_Vq_Dk _ k_Dk_0) (wcs (u_Vq_Dk _ k_Dk_13) (fun _ h => h))) rfl rfl rfl (by decide +kernel) ⟨Nat.le_of_ble_eq_true rfl, Nat.le_of_ble_eq_true rfl⟩) (pv_ofE (X.same _) (fun U z1 z2 => X.mono _ _ U hFc (hEw _ _ hS U z1 z2)) hP hK hD (va_recv hK hP (ci := 0) (q0 := 1) rfl rfl)) rfl rfl hl.1 rfl (lv_room (Nat.le_of_ble_eq_true rfl)) d_Ed_putPart_79 ⟨by decide, by decide⟩) hS (fun q _ h => hFc q h) hFc (fun u t H locs ht hvm hw hB hz1 hk1 hS => ?_)
    obtain ⟨hP, -, hD⟩ := hB
    rw [ht] at hP
    have hD := lx_dj hD hFc
    refine lv_iconst (v := 0) hx hb d_Ed_putPart_82 (by decide) ?_
    refine lv_istore_n (lv' := [(3, .int 0), (0, .ref M.o_Ed), (1, .int y_1), (2, .int y_2)]) hx hb d_Ed_putPart_83 rfl hl (by decide) rfl (fun ls hl => ?_)
    exact hB_84 K y_1 y_2 0 S_7 _ _ _ h hP hD hS (lv_sub hl [1, 2, 3, 0] rfl)
  rw [f_Ed_putPart] at h
  refine lv_aload_n hx hb d_Ed_putPart_0 rfl (lv_at hl 0 rfl) ?_
  refine va_get (D := (dC, dI)) (ci := 8) (v := .ref M.o_Dk) (C := R_Ed) (T := F_Ed) (N := 13) hx hb hts (fun w h => u_Vq_Ed w (i_Ed w h)) hown hK hP 6 rfl rfl 0 (by decide) (hts _ (u_Vq_Ed _ k_Ed_7)) (fun _ h9 => h9) rfl d_Ed_putPart_1 ?_
  refine lv_iload_n hx hb d_Ed_putPart_4 rfl (lv_at hl 1 rfl) ?_
  refine lv_bipush (v := 32) hx hb d_Ed_putPart_5 (by decide) ?_
  obtain ⟨S_1, hc_1, h⟩ := lf_bE h
  have hFc := lx_free hD hS hA
  refine va_callv (va_runV (As := [.int p0, .int 32]) (rest := []) ⟨hx, hb, hml, hown, hts⟩ (l_Dk_zero l dC dI X _ hc_1) (cwV 2 hts (gwV good_Vq (u_Vq_Ed _ k_Ed_91) (u_Vq_Dk _ k_Dk_23) (u_Vq_Dk _ k_Dk_24) (u_Vq_Dk _ k_Dk_0) (wcs (u_Vq_Dk _ k_Dk_25) (fun _ h => h))) rfl rfl rfl (by decide +kernel) ⟨Nat.le_of_ble_eq_true rfl, Nat.le_of_ble_eq_true rfl⟩) (pv_ofE (X.same _) (fun U z1 z2 => X.mono _ _ U hFc (hEw _ _ hS U z1 z2)) hP hK hD (va_recv hK hP (ci := 0) (q0 := 1) rfl rfl)) rfl rfl hl.1 rfl (lv_room (Nat.le_of_ble_eq_true rfl)) d_Ed_putPart_7 ⟨by decide, by decide⟩) hS (fun q _ h => hFc q h) hFc (fun u t H locs ht hvm hw hB hz1 hk1 hS => ?_)
  obtain ⟨hP, -, hD⟩ := hB
  rw [ht] at hP
  have hD := lx_dj hD hFc
  refine lv_aload_n hx hb d_Ed_putPart_10 rfl (lv_at hl 0 rfl) ?_
  refine va_get (D := (dC, dI)) (ci := 8) (v := .ref M.o_Dk) (C := R_Ed) (T := F_Ed) (N := 13) hx hb hts (fun w h => u_Vq_Ed w (i_Ed w h)) hown hK hP 6 rfl rfl 0 (by decide) (hts _ (u_Vq_Ed _ k_Ed_7)) (fun _ h9 => h9) rfl d_Ed_putPart_11 ?_
  refine lv_iload_n hx hb d_Ed_putPart_14 rfl (lv_at hl 1 rfl) ?_
  refine lv_iload_n hx hb d_Ed_putPart_15 rfl (lv_at hl 2 rfl) ?_
  refine lv_aload_n hx hb d_Ed_putPart_16 rfl (lv_at hl 0 rfl) ?_
  refine va_get (D := (dC, dI)) (ci := 8) (v := .int S_1.v_Ed_slots) (C := R_Ed) (T := F_Ed) (N := 13) hx hb hts (fun w h => u_Vq_Ed w (i_Ed w h)) hown hK hP 6 rfl rfl 10 (by decide) (hts _ (u_Vq_Ed _ k_Ed_17)) (fun _ h9 => h9) rfl d_Ed_putPart_17 ?_
  refine lv_iconst (v := 1) hx hb d_Ed_putPart_20 (by decide) ?_
  refine lv_isub hx hb d_Ed_putPart_21 ?_
  refine lv_icmp_ne (tgt := 32) hx hb d_Ed_putPart_22 (by decide) (fun c_2 => ?_) (fun c_2 => ?_)
  · have h := lf_f h c_2
    refine lv_iload_n hx hb d_Ed_putPart_32 rfl (lv_at hl 2 rfl) ?_
    exact hB_33 p0 p1 p0 p1 S_1 _ _ _ h hP hD hS (lv_sub hl [0, 1, 2] rfl)
  · have h := lf_t h c_2
    refine lv_iload_n hx hb d_Ed_putPart_25 rfl (lv_at hl 2 rfl) ?_
    refine lv_bipush (v := 64) hx hb d_Ed_putPart_26 (by decide) ?_
    refine lv_iadd hx hb d_Ed_putPart_28 ?_
    refine lv_goto (tgt := 33) hx hb d_Ed_putPart_29 (by decide) ?_
    exact hB_33 p0 p1 p0 (p1 + 64) S_1 _ _ _ h hP hD hS (lv_sub hl [0, 1, 2] rfl)
set_option maxHeartbeats 4000000 in
set_option maxRecDepth 100000 in
theorem l_Ed_putDots (l : Launch) (dC : Nat → ClassId) (dI : Nat → Nat → Nat) {K : Nat} {M : CA} {E : (Nat → Prop) → State → Prop} (X : ly_X l dC dI K M E) (sz : Nat) {Y : CT} {G : CG} {S S' : CS} {p0 : Int32} {p1 : Int32} (h : f_Ed_putDots K G S p0 p1 = some S') : Met l y_Ed_putDots (.code y_Ed_putDots cb_Ed_putDots 6 none :: V_Vq) ({ frames := 2, cells := 0, slots := 0, locals := 44 }) (va_Pc [.ref M.o_Ed, .int p0, .int p1] (fun U => U.heap.size = sz ∧ at_ (dC, dI) (fun _ => True) (wV M Y G S) (tV M) U ∧ E (va_A (wV M Y G S) sz) U)) (va_Qv (fun (u : Unit) => True) (fun (u : Unit) t => at_ (dC, dI) (va_A (wV M Y G S) sz) (wV M Y G S') (tV M) t) (va_A (wV M Y G S) sz)) 0 0 (va_A (wV M Y G S) sz) := by
  refine Met.ofW (cc := cb_Ed_putDots) (maxL := 6) (ret := none) (by decide) rfl ?_
  intro p e s m args below meth c s₁ B hml hv
  obtain ⟨rfl, hsz, ⟨hP, hK, hD0⟩, hE⟩ := hv
  have hx := B.exec
  have hb := B.bytes
  have hr := B.returns
  have hts0 := atoms_spec (ws := .code y_Ed_putDots cb_Ed_putDots 6 none :: V_Vq) B.pre
  have hts : ∀ w ∈ V_Vq, w.before ([.ref M.o_Ed, .int p0, .int p1] : List Value).toArray s = true := fun w h => hts0 w (List.mem_cons_of_mem _ h)
  have hown : s.vm.findClass R_Ed = some m.cls := findClass_of_methodNamed B.named
  subst hsz
  have hD := hD0.self (sz := s.heap.size)
  generalize hAe : va_A (wV M Y G S) s.heap.size = A at hD hE ⊢
  have hA : ∀ q : Nat, s.heap.size ≤ q → A q := fun q h => by rw [← hAe]; exact Or.inr h
  have hS : va_S A s.heap s.heap [] := va_S.rf
  have hP : va_P (dC, dI) classes (wV M Y G S) s.heap := hP
  have hK : va_K (dC, dI) classes (tV M) s := hK
  have hEw : ∀ (H : Heap) (locs : List Loc), va_S A s.heap H locs → ∀ U : State, U.heap = H → s.WarmedH U.vm → E A U := fun H locs hS U hU hW => X.kept A s U H locs hE hS hU hW
  have hl := lv_entry ([.ref M.o_Ed, .int p0, .int p1]) (n := 6) (Nat.le_of_ble_eq_true rfl)
  rw [lg_entry_eq]
  generalize (lg_sl ([.ref M.o_Ed, .int p0, .int p1]) ++ List.replicate (6 - (lg_sl ([.ref M.o_Ed, .int p0, .int p1])).length) Slot.unset).toArray = ls at hl ⊢
  have hl : lv_has ls 6 [(0, .ref M.o_Ed), (1, .int p0), (2, .int p1)] := hl
  refine qabs (fun Q hQ => ?_)
  have hB_56 : ∀ (rec_2 : Int32 → Int32 → Int32 → CS → Option (CS)) (hr_2 : ∀ (y_1 : Int32) (y_2 : Int32) (y_3 : Int32) (S : CS) (H : Heap) (locs : List Loc) (ls : Array Slot), rec_2 y_1 y_2 y_3 S = some S' → va_P (dC, dI) classes (wV M Y G S) H → va_D A (wV M Y G S) → va_S A s.heap H locs → lv_has ls 6 [(0, .ref M.o_Ed), (1, .int y_1), (2, .int y_2), (3, .int y_3)] → W p l e ({ frames := 2, cells := 0, slots := 0, locals := 44 }) s m ([.ref M.o_Ed, .int p0, .int p1] : List Value).toArray below meth c H locs 0 0 Q (F0 m 2 ls [])) (rec_27 : Int32 → Int32 → Int32 → Int32 → Int32 → CS → Option (CS)) (hr_27 : ∀ (y_1 : Int32) (y_2 : Int32) (y_3 : Int32) (y_4 : Int32) (y_5 : Int32) (S : CS) (H : Heap) (locs : List Loc) (ls : Array Slot), rec_27 y_1 y_2 y_3 y_4 y_5 S = some S' → va_P (dC, dI) classes (wV M Y G S) H → va_D A (wV M Y G S) → va_S A s.heap H locs → lv_has ls 6 [(0, .ref M.o_Ed), (1, .int y_1), (2, .int y_2), (3, .int y_3), (4, .int y_4), (5, .int y_5)] → W p l e ({ frames := 2, cells := 0, slots := 0, locals := 44 }) s m ([.ref M.o_Ed, .int p0, .int p1] : List Value).toArray below meth c H locs 0 0 Q (F0 m 27 ls [])), ∀ (y_1 : Int32) (y_2 : Int32) (y_3 : Int32) (y_4 : Int32) (y_5 : Int32) (z_1 : Int32) (z_2 : Int32) (S : CS) (H : Heap) (locs : List Loc) (ls : Array Slot), f_Ed_putDots_56 K G rec_2 rec_27 y_1 y_2 y_3 y_4 y_5 z_1 z_2 S = some S' → va_P (dC, dI) classes (wV M Y G S) H → va_D A (wV M Y G S) → va_S A s.heap H locs → lv_has ls 6 [(0, .ref M.o_Ed), (1, .int y_1), (2, .int y_2), (3, .int y_3), (4, .int y_4), (5, .int y_5)] → W p l e ({ frames := 2, cells := 0, slots := 0, locals := 44 }) s m ([.ref M.o_Ed, .int p0, .int p1] : List Value).toArray below meth c H locs 0 0 Q (F0 m 56 ls [.int z_2, .int z_1, .ref M.o_Dk]) := by
    intro rec_2 hr_2 rec_27 hr_27 y_1 y_2 y_3 y_4 y_5 z_1 z_2 S H locs ls h hP hD hS hl
    rw [f_Ed_putDots_56] at h
    obtain ⟨S_13, hc_13, h⟩ := lf_bE h
    have hFc := lx_free hD hS hA
    refine va_callv (va_runV (As := [.int z_1, .int z_2]) (rest := []) ⟨hx, hb, hml, hown, hts⟩ (l_Dk_putOne l dC dI X _ hc_13) (cwV 2 hts (gwV good_Vq (u_Vq_Ed _ k_Ed_25) (u_Vq_Dk _ k_Dk_11) (u_Vq_Dk _ k_Dk_12) (u_Vq_Dk _ k_Dk_0) (wcs (u_Vq_Dk _ k_Dk_13) (fun _ h => h))) rfl rfl rfl (by decide +kernel) ⟨Nat.le_of_ble_eq_true rfl, Nat.le_of_ble_eq_true rfl⟩) (pv_ofE (X.same _) (fun U z1 z2 => X.mono _ _ U hFc (hEw _ _ hS U z1 z2)) hP hK hD (va_recv hK hP (ci := 0) (q0 := 1) rfl rfl)) rfl rfl hl.1 rfl (lv_room (Nat.le_of_ble_eq_true rfl)) d_Ed_putDots_56 ⟨by decide, by decide⟩) hS (fun q _ h => hFc q h) hFc (fun u t H locs ht hvm hw hB hz1 hk1 hS => ?_)
    obtain ⟨hP, -, hD⟩ := hB
    rw [ht] at hP
    have hD := lx_dj hD hFc
    obtain ⟨x_14, ex_14, h⟩ := lf_lX h
    refine lv_iinc (v := x_14) (lv' := [(5, .int x_14), (0, .ref M.o_Ed), (1, .int y_1), (2, .int y_2), (3, .int y_3), (4, .int y_4)]) hx hb d_Ed_putDots_59 hl (k := 5) rfl (by rw [ex_14]; rfl) (by decide) rfl (fun ls hl => ?_)
    refine lv_goto (tgt := 27) hx hb d_Ed_putDots_62 (by decide) ?_
    exact hr_27 y_1 y_2 y_3 y_4 x_14 S_13 _ _ _ h hP hD hS (lv_sub hl [1, 2, 3, 4, 5, 0] rfl)
  have hB_121 : ∀ (rec_2 : Int32 → Int32 → Int32 → CS → Option (CS)) (hr_2 : ∀ (y_1 : Int32) (y_2 : Int32) (y_3 : Int32) (S : CS) (H : Heap) (locs : List Loc) (ls : Array Slot), rec_2 y_1 y_2 y_3 S = some S' → va_P (dC, dI) classes (wV M Y G S) H → va_D A (wV M Y G S) → va_S A s.heap H locs → lv_has ls 6 [(0, .ref M.o_Ed), (1, .int y_1), (2, .int y_2), (3, .int y_3)] → W p l e ({ frames := 2, cells := 0, slots := 0, locals := 44 }) s m ([.ref M.o_Ed, .int p0, .int p1] : List Value).toArray below meth c H locs 0 0 Q (F0 m 2 ls [])), ∀ (y_1 : Int32) (y_2 : Int32) (y_3 : Int32) (z_1 : Int32) (z_2 : Int32) (S : CS) (H : Heap) (locs : List Loc) (ls : Array Slot), f_Ed_putDots_121 K G rec_2 y_1 y_2 y_3 z_1 z_2 S = some S' → va_P (dC, dI) classes (wV M Y G S) H → va_D A (wV M Y G S) → va_S A s.heap H locs → lv_has ls 6 [(0, .ref M.o_Ed), (1, .int y_1), (2, .int y_2), (3, .int y_3)] → W p l e ({ frames := 2, cells := 0, slots := 0, locals := 44 }) s m ([.ref M.o_Ed, .int p0, .int p1] : List Value).toArray below meth c H locs 0 0 Q (F0 m 121 ls [.int z_2, .int z_1, .ref M.o_Ed]) := by
    intro rec_2 hr_2 y_1 y_2 y_3 z_1 z_2 S H locs ls h hP hD hS hl
    rw [f_Ed_putDots_121] at h
    obtain ⟨S_11, hc_11, h⟩ := lf_bE h
    have hFc := lx_free hD hS hA
    refine va_callv (va_runV (As := [.int z_1, .int z_2]) (rest := []) ⟨hx, hb, hml, hown, hts⟩ (l_Ed_putFirstCluster l dC dI X _ hc_11) (cwV 2 hts (gwV good_Vq (u_Vq_Ed _ k_Ed_92) (u_Vq_Ed _ k_Ed_93) (u_Vq_Ed _ k_Ed_139) (u_Vq_Ed _ k_Ed_0) (wcs (u_Vq_Ed _ k_Ed_94) (fun _ h => h))) rfl rfl rfl (by decide +kernel) ⟨Nat.le_of_ble_eq_true rfl, Nat.le_of_ble_eq_true rfl⟩) (pv_ofE (X.same _) (fun U z1 z2 => X.mono _ _ U hFc (hEw _ _ hS U z1 z2)) hP hK hD (va_recv hK hP (ci := 8) (q0 := 6) rfl rfl)) rfl rfl hl.1 rfl (lv_room (Nat.le_of_ble_eq_true rfl)) d_Ed_putDots_121 ⟨by decide, by decide⟩) hS (fun q _ h => hFc q h) hFc (fun u t H locs ht hvm hw hB hz1 hk1 hS => ?_)
    obtain ⟨hP, -, hD⟩ := hB
    rw [ht] at hP
    have hD := lx_dj hD hFc
    obtain ⟨x_12, ex_12, h⟩ := lf_lX h
    refine lv_iinc (v := x_12) (lv' := [(3, .int x_12), (0, .ref M.o_Ed), (1, .int y_1), (2, .int y_2)]) hx hb d_Ed_putDots_124 hl (k := 3) rfl (by rw [ex_12]; rfl) (by decide) rfl (fun ls hl => ?_)
    refine lv_goto (tgt := 2) hx hb d_Ed_putDots_127 (by decide) ?_
    exact hr_2 y_1 y_2 x_12 S_11 _ _ _ h hP hD hS (lv_sub hl [1, 2, 3, 0] rfl)
  have hB_27 : ∀ (rec_2 : Int32 → Int32 → Int32 → CS → Option (CS)) (hr_2 : ∀ (y_1 : Int32) (y_2 : Int32) (y_3 : Int32) (S : CS) (H : Heap) (locs : List Loc) (ls : Array Slot), rec_2 y_1 y_2 y_3 S = some S' → va_P (dC, dI) classes (wV M Y G S) H → va_D A (wV M Y G S) → va_S A s.heap H locs → lv_has ls 6 [(0, .ref M.o_Ed), (1, .int y_1), (2, .int y_2), (3, .int y_3)] → W p l e ({ frames := 2, cells := 0, slots := 0, locals := 44 }) s m ([.ref M.o_Ed, .int p0, .int p1] : List Value).toArray below meth c H locs 0 0 Q (F0 m 2 ls [])) (k : Nat), ∀ (y_1 : Int32) (y_2 : Int32) (y_3 : Int32) (y_4 : Int32) (y_5 : Int32) (S : CS) (H : Heap) (locs : List Loc) (ls : Array Slot), f_Ed_putDots_27 K G rec_2 k y_1 y_2 y_3 y_4 y_5 S = some S' → va_P (dC, dI) classes (wV M Y G S) H → va_D A (wV M Y G S) → va_S A s.heap H locs → lv_has ls 6 [(0, .ref M.o_Ed), (1, .int y_1), (2, .int y_2), (3, .int y_3), (4, .int y_4), (5, .int y_5)] → W p l e ({ frames := 2, cells := 0, slots := 0, locals := 44 }) s m ([.ref M.o_Ed, .int p0, .int p1] : List Value).toArray below meth c H locs 0 0 Q (F0 m 27 ls []) := by
    intro rec_2 hr_2 k
    induction k with
    | zero => intro y_1 y_2 y_3 y_4 y_5 S H locs ls h; exact lf_no h
    | succ k hr_27 =>
      intro y_1 y_2 y_3 y_4 y_5 S H locs ls h hP hD hS hl
      rw [f_Ed_putDots_27] at h
      refine lv_iload hx hb d_Ed_putDots_27 (lv_at hl 5 rfl) ?_
      refine lv_bipush (v := 11) hx hb d_Ed_putDots_29 (by decide) ?_
      refine lv_icmp_ge (tgt := 65) hx hb d_Ed_putDots_31 (by decide) (fun c_4 => ?_) (fun c_4 => ?_)
      · have h := lf_t h c_4
        refine lv_aload_n hx hb d_Ed_putDots_65 rfl (lv_at hl 0 rfl) ?_
        refine va_get (D := (dC, dI)) (ci := 8) (v := .ref M.o_Dk) (C := R_Ed) (T := F_Ed) (N := 13) hx hb hts (fun w h => u_Vq_Ed w (i_Ed w h)) hown hK hP 6 rfl rfl 0 (by decide) (hts _ (u_Vq_Ed _ k_Ed_7)) (fun _ h9 => h9) rfl d_Ed_putDots_66 ?_
        refine lv_iload hx hb d_Ed_putDots_69 (lv_at hl 4 rfl) ?_
        refine lv_bipush (v := 11) hx hb d_Ed_putDots_71 (by decide) ?_
        refine lv_iadd hx hb d_Ed_putDots_73 ?_
        refine lv_bipush (v := 16) hx hb d_Ed_putDots_74 (by decide) ?_
        obtain ⟨S_5, hc_5, h⟩ := lf_bE h
        have hFc := lx_free hD hS hA
        refine va_callv (va_runV (As := [.int (y_4 + 11), .int 16]) (rest := []) ⟨hx, hb, hml, hown, hts⟩ (l_Dk_putOne l dC dI X _ hc_5) (cwV 2 hts (gwV good_Vq (u_Vq_Ed _ k_Ed_25) (u_Vq_Dk _ k_Dk_11) (u_Vq_Dk _ k_Dk_12) (u_Vq_Dk _ k_Dk_0) (wcs (u_Vq_Dk _ k_Dk_13) (fun _ h => h))) rfl rfl rfl (by decide +kernel) ⟨Nat.le_of_ble_eq_true rfl, Nat.le_of_ble_eq_true rfl⟩) (pv_ofE (X.same _) (fun U z1 z2 => X.mono _ _ U hFc (hEw _ _ hS U z1 z2)) hP hK hD (va_recv hK hP (ci := 0) (q0 := 1) rfl rfl)) rfl rfl hl.1 rfl (lv_room (Nat.le_of_ble_eq_true rfl)) d_Ed_putDots_76 ⟨by decide, by decide⟩) hS (fun q _ h => hFc q h) hFc (fun u t H locs ht hvm hw hB hz1 hk1 hS => ?_)
        obtain ⟨hP, -, hD⟩ := hB
        rw [ht] at hP
        have hD := lx_dj hD hFc
        refine lv_aload_n hx hb d_Ed_putDots_79 rfl (lv_at hl 0 rfl) ?_
        refine va_get (D := (dC, dI)) (ci := 8) (v := .ref M.o_Dk) (C := R_Ed) (T := F_Ed) (N := 13) hx hb hts (fun w h => u_Vq_Ed w (i_Ed w h)) hown hK hP 6 rfl rfl 0 (by decide) (hts _ (u_Vq_Ed _ k_Ed_7)) (fun _ h9 => h9) rfl d_Ed_putDots_80 ?_
        refine lv_iload hx hb d_Ed_putDots_83 (lv_at hl 4 rfl) ?_
        refine lv_bipush (v := 24) hx hb d_Ed_putDots_85 (by decide) ?_
        refine lv_iadd hx hb d_Ed_putDots_87 ?_
        refine lv_bipush (v := 33) hx hb d_Ed_putDots_88 (by decide) ?_
        obtain ⟨S_6, hc_6, h⟩ := lf_bE h
        have hFc := lx_free hD hS hA
        refine va_callv (va_runV (As := [.int (y_4 + 24), .int 33]) (rest := []) ⟨hx, hb, hml, hown, hts⟩ (l_Dk_putTwo l dC dI X _ hc_6) (cwV 2 hts (gwV good_Vq (u_Vq_Ed _ k_Ed_26) (u_Vq_Dk _ k_Dk_27) (u_Vq_Dk _ k_Dk_28) (u_Vq_Dk _ k_Dk_0) (wcs (u_Vq_Dk _ k_Dk_29) (fun _ h => h))) rfl rfl rfl (by decide +kernel) ⟨Nat.le_of_ble_eq_true rfl, Nat.le_of_ble_eq_true rfl⟩) (pv_ofE (X.same _) (fun U z1 z2 => X.mono _ _ U hFc (hEw _ _ hS U z1 z2)) hP hK hD (va_recv hK hP (ci := 0) (q0 := 1) rfl rfl)) rfl rfl hl.1 rfl (lv_room (Nat.le_of_ble_eq_true rfl)) d_Ed_putDots_90 ⟨by decide, by decide⟩) hS (fun q _ h => hFc q h) hFc (fun u t H locs ht hvm hw hB hz1 hk1 hS => ?_)
        obtain ⟨hP, -, hD⟩ := hB
        rw [ht] at hP
        have hD := lx_dj hD hFc
        refine lv_aload_n hx hb d_Ed_putDots_93 rfl (lv_at hl 0 rfl) ?_
        refine lv_iload hx hb d_Ed_putDots_94 (lv_at hl 4 rfl) ?_
        refine lv_iload_n hx hb d_Ed_putDots_96 rfl (lv_at hl 3 rfl) ?_
        refine lv_iconst (v := 1) hx hb d_Ed_putDots_97 (by decide) ?_
        refine lv_icmp_ne (tgt := 105) hx hb d_Ed_putDots_98 (by decide) (fun c_7 => ?_) (fun c_7 => ?_)
        · have h := lf_f h c_7
          refine lv_iload_n hx hb d_Ed_putDots_105 rfl (lv_at hl 2 rfl) ?_
          refine lv_if_ne (tgt := 113) hx hb d_Ed_putDots_106 (by decide) (fun c_8 => ?_) (fun c_8 => ?_)
          · have h := lf_f h c_8
            refine lv_aload_n hx hb d_Ed_putDots_113 rfl (lv_at hl 0 rfl) ?_
            refine va_get (D := (dC, dI)) (ci := 8) (v := .ref M.o_Tr) (C := R_Ed) (T := F_Ed) (N := 13) hx hb hts (fun w h => u_Vq_Ed w (i_Ed w h)) hown hK hP 6 rfl rfl 2 (by decide) (hts _ (u_Vq_Ed _ k_Ed_9)) (fun _ h9 => h9) rfl d_Ed_putDots_114 ?_
            refine lv_iload_n hx hb d_Ed_putDots_117 rfl (lv_at hl 2 rfl) ?_
            obtain ⟨r_9, S_9, hc_9, h⟩ := lf_cE h
            have hFc := lx_free hD hS hA
            refine va_calli (va_runV (As := [.int y_2]) (rest := [.int y_4, .ref M.o_Ed]) ⟨hx, hb, hml, hown, hts⟩ (l_Tr_firstOf l dC dI X _ hc_9) (cwV 1 hts (gwV good_Vq (u_Vq_Ed _ k_Ed_30) (u_Vq_Tr _ k_Tr_45) (u_Vq_Tr _ k_Tr_46) (u_Vq_Tr _ k_Tr_0) (wcs (u_Vq_Tr _ k_Tr_47) (fun _ h => h))) rfl rfl rfl (by decide +kernel) ⟨Nat.le_of_ble_eq_true rfl, Nat.le_of_ble_eq_true rfl⟩) (pv_ofE (X.same _) (fun U z1 z2 => X.mono _ _ U hFc (hEw _ _ hS U z1 z2)) hP hK hD (va_recv hK hP (ci := 5) (q0 := 4) rfl rfl)) rfl rfl hl.1 rfl (lv_room (Nat.le_of_ble_eq_true rfl)) d_Ed_putDots_118 ⟨by decide, by decide⟩) hS (fun q _ h => hFc q h) hFc (fun r_ u t H locs ht hvm hw hB hz1 hk1 hS => ?_)
            rw [hw]
            obtain ⟨hP, -, hD⟩ := hB
            rw [ht] at hP
            have hD := lx_dj hD hFc
            exact hB_121 _ hr_2 y_1 y_2 y_3 y_4 r_9 S_9 _ _ _ h hP hD hS (lv_sub hl [0, 1, 2, 3] rfl)
          · have h := lf_t h c_8
            refine lv_iconst (v := 0) hx hb d_Ed_putDots_109 (by decide) ?_
            refine lv_goto (tgt := 121) hx hb d_Ed_putDots_110 (by decide) ?_
            exact hB_121 _ hr_2 y_1 y_2 y_3 y_4 0 S_6 _ _ _ h hP hD hS (lv_sub hl [0, 1, 2, 3] rfl)
        · have h := lf_t h c_7
          refine lv_iload_n hx hb d_Ed_putDots_101 rfl (lv_at hl 1 rfl) ?_
          refine lv_goto (tgt := 121) hx hb d_Ed_putDots_102 (by decide) ?_
          exact hB_121 _ hr_2 y_1 y_2 y_3 y_4 y_1 S_6 _ _ _ h hP hD hS (lv_sub hl [0, 1, 2, 3] rfl)
      · have h := lf_f h c_4
        refine lv_aload_n hx hb d_Ed_putDots_34 rfl (lv_at hl 0 rfl) ?_
        refine va_get (D := (dC, dI)) (ci := 8) (v := .ref M.o_Dk) (C := R_Ed) (T := F_Ed) (N := 13) hx hb hts (fun w h => u_Vq_Ed w (i_Ed w h)) hown hK hP 6 rfl rfl 0 (by decide) (hts _ (u_Vq_Ed _ k_Ed_7)) (fun _ h9 => h9) rfl d_Ed_putDots_35 ?_
        refine lv_iload hx hb d_Ed_putDots_38 (lv_at hl 4 rfl) ?_
        refine lv_iload hx hb d_Ed_putDots_40 (lv_at hl 5 rfl) ?_
        refine lv_iadd hx hb d_Ed_putDots_42 ?_
        refine lv_iload hx hb d_Ed_putDots_43 (lv_at hl 5 rfl) ?_
        refine lv_iload_n hx hb d_Ed_putDots_45 rfl (lv_at hl 3 rfl) ?_
        refine lv_icmp_ge (tgt := 54) hx hb d_Ed_putDots_46 (by decide) (fun c_10 => ?_) (fun c_10 => ?_)
        · have h := lf_t h c_10
          refine lv_bipush (v := 32) hx hb d_Ed_putDots_54 (by decide) ?_
          exact hB_56 _ hr_2 _ hr_27 y_1 y_2 y_3 y_4 y_5 (y_4 + y_5) 32 S _ _ _ h hP hD hS (lv_sub hl [0, 1, 2, 3, 4, 5] rfl)
        · have h := lf_f h c_10
          refine lv_bipush (v := 46) hx hb d_Ed_putDots_49 (by decide) ?_
          refine lv_goto (tgt := 56) hx hb d_Ed_putDots_51 (by decide) ?_
          exact hB_56 _ hr_2 _ hr_27 y_1 y_2 y_3 y_4 y_5 (y_4 + y_5) 46 S _ _ _ h hP hD hS (lv_sub hl [0, 1, 2, 3, 4, 5] rfl)
  have hB_2 : ∀ (k : Nat), ∀ (y_1 : Int32) (y_2 : Int32) (y_3 : Int32) (S : CS) (H : Heap) (locs : List Loc) (ls : Array Slot), f_Ed_putDots_2 K G k y_1 y_2 y_3 S = some S' → va_P (dC, dI) classes (wV M Y G S) H → va_D A (wV M Y G S) → va_S A s.heap H locs → lv_has ls 6 [(0, .ref M.o_Ed), (1, .int y_1), (2, .int y_2), (3, .int y_3)] → W p l e ({ frames := 2, cells := 0, slots := 0, locals := 44 }) s m ([.ref M.o_Ed, .int p0, .int p1] : List Value).toArray below meth c H locs 0 0 Q (F0 m 2 ls []) := by
    intro k
    induction k with
    | zero => intro y_1 y_2 y_3 S H locs ls h; exact lf_no h
    | succ k hr_2 =>
      intro y_1 y_2 y_3 S H locs ls h hP hD hS hl
      rw [f_Ed_putDots_2] at h
      refine lv_iload_n hx hb d_Ed_putDots_2 rfl (lv_at hl 3 rfl) ?_
      refine lv_iconst (v := 2) hx hb d_Ed_putDots_3 (by decide) ?_
      refine lv_icmp_gt (tgt := 130) hx hb d_Ed_putDots_4 (by decide) (fun c_1 => ?_) (fun c_1 => ?_)
      · have h := lf_t h c_1
        rw [hQ]
        have e2 : S = S' := Option.some.inj h
        have hP := ly_newP e2.symm hP
        have hD := ly_newD e2.symm hD
        exact W.vret hx hb hr (fun t ht hW => ⟨⟨(), rfl, trivial, by rw [ht]; exact hP, va_K.moved hW.alike hK, hD⟩, hS.F ht⟩) hS.2.2 d_Ed_putDots_130
      · have h := lf_f h c_1
        refine lv_aload_n hx hb d_Ed_putDots_7 rfl (lv_at hl 0 rfl) ?_
        refine va_get (D := (dC, dI)) (ci := 8) (v := .ref M.o_Tb) (C := R_Ed) (T := F_Ed) (N := 13) hx hb hts (fun w h => u_Vq_Ed w (i_Ed w h)) hown hK hP 6 rfl rfl 1 (by decide) (hts _ (u_Vq_Ed _ k_Ed_8)) (fun _ h9 => h9) rfl d_Ed_putDots_8 ?_
        refine lv_iload_n hx hb d_Ed_putDots_11 rfl (lv_at hl 1 rfl) ?_
        obtain ⟨r_2, S_2, hc_2, h⟩ := lf_cE h
        have hFc := lx_free hD hS hA
        refine va_calli (va_runV (As := [.int y_1]) (rest := []) ⟨hx, hb, hml, hown, hts⟩ (l_Tb_place l dC dI X _ hc_2) (cwV 1 hts (gwV good_Vq (u_Vq_Ed _ k_Ed_23) (u_Vq_Tb _ k_Tb_57) (u_Vq_Tb _ k_Tb_58) (u_Vq_Tb _ k_Tb_0) (wcs (u_Vq_Tb _ k_Tb_59) (fun _ h => h))) rfl rfl rfl (by decide +kernel) ⟨Nat.le_of_ble_eq_true rfl, Nat.le_of_ble_eq_true rfl⟩) (pv_ofE (X.same _) (fun U z1 z2 => X.mono _ _ U hFc (hEw _ _ hS U z1 z2)) hP hK hD (va_recv hK hP (ci := 4) (q0 := 3) rfl rfl)) rfl rfl hl.1 rfl (lv_room (Nat.le_of_ble_eq_true rfl)) d_Ed_putDots_12 ⟨by decide, by decide⟩) hS (fun q _ h => hFc q h) hFc (fun r_ u t H locs ht hvm hw hB hz1 hk1 hS => ?_)
        rw [hw]
        obtain ⟨hP, -, hD⟩ := hB
        rw [ht] at hP
        have hD := lx_dj hD hFc
        refine lv_iload_n hx hb d_Ed_putDots_15 rfl (lv_at hl 3 rfl) ?_
        refine lv_iconst (v := 1) hx hb d_Ed_putDots_16 (by decide) ?_
        refine lv_isub hx hb d_Ed_putDots_17 ?_
        refine lv_bipush (v := 32) hx hb d_Ed_putDots_18 (by decide) ?_
        refine lv_imul hx hb d_Ed_putDots_20 ?_
        refine lv_iadd hx hb d_Ed_putDots_21 ?_
        refine lv_topi (fun x_3 ex_3 => ?_)
        have h := lf_lE h ex_3
        refine lv_istore (lv' := [(4, .int x_3), (0, .ref M.o_Ed), (1, .int y_1), (2, .int y_2), (3, .int y_3)]) hx hb d_Ed_putDots_22 hl (by decide) rfl (fun ls hl => ?_)
        refine lv_iconst (v := 0) hx hb d_Ed_putDots_24 (by decide) ?_
        refine lv_istore (lv' := [(5, .int 0), (4, .int x_3), (0, .ref M.o_Ed), (1, .int y_1), (2, .int y_2), (3, .int y_3)]) hx hb d_Ed_putDots_25 hl (by decide) rfl (fun ls hl => ?_)
        exact hB_27 _ hr_2 K y_1 y_2 y_3 x_3 0 S_2 _ _ _ h hP hD hS (lv_sub hl [2, 3, 4, 5, 1, 0] rfl)
  rw [f_Ed_putDots] at h
  refine lv_iconst (v := 1) hx hb d_Ed_putDots_0 (by decide) ?_
  refine lv_istore_n (lv' := [(3, .int 1), (0, .ref M.o_Ed), (1, .int p0), (2, .int p1)]) hx hb d_Ed_putDots_1 rfl hl (by decide) rfl (fun ls hl => ?_)
  exact hB_2 K p0 p1 1 S _ _ _ h hP hD hS (lv_sub hl [1, 2, 3, 0] rfl)
set_option maxHeartbeats 4000000 in
set_option maxRecDepth 100000 in
theorem l_Ed_addItem (l : Launch) (dC : Nat → ClassId) (dI : Nat → Nat → Nat) {K : Nat} {M : CA} {E : (Nat → Prop) → State → Prop} (X : ly_X l dC dI K M E) (sz : Nat) {Y : CT} {G : CG} {S S' : CS} {p0 : Int32} {p1 : Int32} {r : Int32} (h : f_Ed_addItem K G S p0 p1 = some (r, S')) : Met l y_Ed_addItem (.code y_Ed_addItem cb_Ed_addItem 6 (some .int) :: V_Vq) ({ frames := 5, cells := 0, slots := 0, locals := 116 }) (va_Pc [.ref M.o_Ed, .int p0, .int p1] (fun U => U.heap.size = sz ∧ at_ (dC, dI) (fun _ => True) (wV M Y G S) (tV M) U ∧ E (va_A (wV M Y G S) sz) U)) (va_Qi (fun (r_ : Int32) (u : Unit) => r_ = r) (fun (u : Unit) t => at_ (dC, dI) (va_A (wV M Y G S) sz) (wV M Y G S') (tV M) t) (va_A (wV M Y G S) sz)) 0 0 (va_A (wV M Y G S) sz) := by
  refine Met.ofW (cc := cb_Ed_addItem) (maxL := 6) (ret := (some .int)) (by decide) rfl ?_
  intro p e s m args below meth c s₁ B hml hv
  obtain ⟨rfl, hsz, ⟨hP, hK, hD0⟩, hE⟩ := hv
  have hx := B.exec
  have hb := B.bytes
  have hr := B.returns
  have hts0 := atoms_spec (ws := .code y_Ed_addItem cb_Ed_addItem 6 (some .int) :: V_Vq) B.pre
  have hts : ∀ w ∈ V_Vq, w.before ([.ref M.o_Ed, .int p0, .int p1] : List Value).toArray s = true := fun w h => hts0 w (List.mem_cons_of_mem _ h)
  have hown : s.vm.findClass R_Ed = some m.cls := findClass_of_methodNamed B.named
  subst hsz
  have hD := hD0.self (sz := s.heap.size)
  generalize hAe : va_A (wV M Y G S) s.heap.size = A at hD hE ⊢
  have hA : ∀ q : Nat, s.heap.size ≤ q → A q := fun q h => by rw [← hAe]; exact Or.inr h
  have hS : va_S A s.heap s.heap [] := va_S.rf
  have hP : va_P (dC, dI) classes (wV M Y G S) s.heap := hP
  have hK : va_K (dC, dI) classes (tV M) s := hK
  have hEw : ∀ (H : Heap) (locs : List Loc), va_S A s.heap H locs → ∀ U : State, U.heap = H → s.WarmedH U.vm → E A U := fun H locs hS U hU hW => X.kept A s U H locs hE hS hU hW
  have hl := lv_entry ([.ref M.o_Ed, .int p0, .int p1]) (n := 6) (Nat.le_of_ble_eq_true rfl)
  rw [lg_entry_eq]
  generalize (lg_sl ([.ref M.o_Ed, .int p0, .int p1]) ++ List.replicate (6 - (lg_sl ([.ref M.o_Ed, .int p0, .int p1])).length) Slot.unset).toArray = ls at hl ⊢
  have hl : lv_has ls 6 [(0, .ref M.o_Ed), (1, .int p0), (2, .int p1)] := hl
  refine qabs (fun Q hQ => ?_)
  have hB_210 : ∀ (rec_166 : Int32 → Int32 → Int32 → CS → Option (Int32 × CS)) (hr_166 : ∀ (y_1 : Int32) (y_4 : Int32) (y_5 : Int32) (S : CS) (H : Heap) (locs : List Loc) (ls : Array Slot), rec_166 y_1 y_4 y_5 S = some (r, S') → va_P (dC, dI) classes (wV M Y G S) H → va_D A (wV M Y G S) → va_S A s.heap H locs → lv_has ls 6 [(0, .ref M.o_Ed), (1, .int y_1), (4, .int y_4), (5, .int y_5)] → W p l e ({ frames := 5, cells := 0, slots := 0, locals := 116 }) s m ([.ref M.o_Ed, .int p0, .int p1] : List Value).toArray below meth c H locs 0 0 Q (F0 m 166 ls [])), ∀ (y_1 : Int32) (y_5 : Int32) (z_0 : Int32) (z_1 : Int32) (S : CS) (H : Heap) (locs : List Loc) (ls : Array Slot), f_Ed_addItem_210 K G rec_166 y_1 y_5 z_0 z_1 S = some (r, S') → va_P (dC, dI) classes (wV M Y G S) H → va_D A (wV M Y G S) → va_S A s.heap H locs → lv_has ls 6 [(0, .ref M.o_Ed), (1, .int y_1), (5, .int y_5)] → W p l e ({ frames := 5, cells := 0, slots := 0, locals := 116 }) s m ([.ref M.o_Ed, .int p0, .int p1] : List Value).toArray below meth c H locs 0 0 Q (F0 m 210 ls [.int z_1, .int z_0]) := by
    intro rec_166 hr_166 y_1 y_5 z_0 z_1 S H locs ls h hP hD hS hl
    rw [f_Ed_addItem_210] at h
    refine lv_iadd hx hb d_Ed_addItem_210 ?_
    refine lv_topi (fun x_24 ex_24 => ?_)
    have h := lf_lE h ex_24
    refine lv_istore (lv' := [(4, .int x_24), (0, .ref M.o_Ed), (1, .int y_1), (5, .int y_5)]) hx hb d_Ed_addItem_211 hl (by decide) rfl (fun ls hl => ?_)
    obtain ⟨x_25, ex_25, h⟩ := lf_lX h
    refine lv_iinc (v := x_25) (lv' := [(5, .int x_25), (4, .int x_24), (0, .ref M.o_Ed), (1, .int y_1)]) hx hb d_Ed_addItem_213 hl (k := 3) rfl (by rw [ex_25]; rfl) (by decide) rfl (fun ls hl => ?_)
    refine lv_goto (tgt := 166) hx hb d_Ed_addItem_216 (by decide) ?_
    exact hr_166 y_1 x_24 x_25 S _ _ _ h hP hD hS (lv_sub hl [2, 3, 1, 0] rfl)
  have hB_166 : ∀ (k : Nat), ∀ (y_1 : Int32) (y_4 : Int32) (y_5 : Int32) (S : CS) (H : Heap) (locs : List Loc) (ls : Array Slot), f_Ed_addItem_166 K G k y_1 y_4 y_5 S = some (r, S') → va_P (dC, dI) classes (wV M Y G S) H → va_D A (wV M Y G S) → va_S A s.heap H locs → lv_has ls 6 [(0, .ref M.o_Ed), (1, .int y_1), (4, .int y_4), (5, .int y_5)] → W p l e ({ frames := 5, cells := 0, slots := 0, locals := 116 }) s m ([.ref M.o_Ed, .int p0, .int p1] : List Value).toArray below meth c H locs 0 0 Q (F0 m 166 ls []) := by
    intro k
    induction k with
    | zero => intro y_1 y_4 y_5 S H locs ls h; exact lf_no h
    | succ k hr_166 =>
      intro y_1 y_4 y_5 S H locs ls h hP hD hS hl
      rw [f_Ed_addItem_166] at h
      refine lv_iload hx hb d_Ed_addItem_166 (lv_at hl 3 rfl) ?_
      refine lv_aload_n hx hb d_Ed_addItem_168 rfl (lv_at hl 0 rfl) ?_
      refine va_get (D := (dC, dI)) (ci := 8) (v := .ref M.o_Tr) (C := R_Ed) (T := F_Ed) (N := 13) hx hb hts (fun w h => u_Vq_Ed w (i_Ed w h)) hown hK hP 6 rfl rfl 2 (by decide) (hts _ (u_Vq_Ed _ k_Ed_9)) (fun _ h9 => h9) rfl d_Ed_addItem_169 ?_
      refine lv_iload_n hx hb d_Ed_addItem_172 rfl (lv_at hl 1 rfl) ?_
      obtain ⟨r_19, S_19, hc_19, h⟩ := lf_cE h
      have hFc := lx_free hD hS hA
      refine va_calli (va_runV (As := [.int y_1]) (rest := [.int y_5]) ⟨hx, hb, hml, hown, hts⟩ (l_Tr_countIn l dC dI X _ hc_19) (cwV 1 hts (gwV good_Vq (u_Vq_Ed _ k_Ed_52) (u_Vq_Tr _ k_Tr_91) (u_Vq_Tr _ k_Tr_92) (u_Vq_Tr _ k_Tr_0) (wcs (u_Vq_Tr _ k_Tr_93) (fun _ h => h))) rfl rfl rfl (by decide +kernel) ⟨Nat.le_of_ble_eq_true rfl, Nat.le_of_ble_eq_true rfl⟩) (pv_ofE (X.same _) (fun U z1 z2 => X.mono _ _ U hFc (hEw _ _ hS U z1 z2)) hP hK hD (va_recv hK hP (ci := 5) (q0 := 4) rfl rfl)) rfl rfl hl.1 rfl (lv_room (Nat.le_of_ble_eq_true rfl)) d_Ed_addItem_173 ⟨by decide, by decide⟩) hS (fun q _ h => hFc q h) hFc (fun r_ u t H locs ht hvm hw hB hz1 hk1 hS => ?_)
      rw [hw]
      obtain ⟨hP, -, hD⟩ := hB
      rw [ht] at hP
      have hD := lx_dj hD hFc
      refine lv_icmp_ge (tgt := 219) hx hb d_Ed_addItem_176 (by decide) (fun c_20 => ?_) (fun c_20 => ?_)
      · have h := lf_t h c_20
        refine lv_iload hx hb d_Ed_addItem_219 (lv_at hl 2 rfl) ?_
        rw [hQ]
        have e1 : y_4 = r := congrArg Prod.fst (Option.some.inj h)
        have e2 : S_19 = S' := congrArg Prod.snd (Option.some.inj h)
        have hP := ly_newP e2.symm hP
        have hD := ly_newD e2.symm hD
        exact W.iret (v := y_4) hx hb hr (fun t ht hW => ⟨⟨y_4, (), rfl, e1, by rw [ht]; exact hP, va_K.moved hW.alike hK, hD⟩, hS.F ht⟩) hS.2.2 d_Ed_addItem_221
      · have h := lf_f h c_20
        refine lv_iload hx hb d_Ed_addItem_179 (lv_at hl 2 rfl) ?_
        refine lv_aload_n hx hb d_Ed_addItem_181 rfl (lv_at hl 0 rfl) ?_
        refine va_get (D := (dC, dI)) (ci := 8) (v := .ref M.o_Tr) (C := R_Ed) (T := F_Ed) (N := 13) hx hb hts (fun w h => u_Vq_Ed w (i_Ed w h)) hown hK hP 6 rfl rfl 2 (by decide) (hts _ (u_Vq_Ed _ k_Ed_9)) (fun _ h9 => h9) rfl d_Ed_addItem_182 ?_
        refine lv_aload_n hx hb d_Ed_addItem_185 rfl (lv_at hl 0 rfl) ?_
        refine va_get (D := (dC, dI)) (ci := 8) (v := .ref M.o_Tr) (C := R_Ed) (T := F_Ed) (N := 13) hx hb hts (fun w h => u_Vq_Ed w (i_Ed w h)) hown hK hP 6 rfl rfl 2 (by decide) (hts _ (u_Vq_Ed _ k_Ed_9)) (fun _ h9 => h9) rfl d_Ed_addItem_186 ?_
        refine lv_iload_n hx hb d_Ed_addItem_189 rfl (lv_at hl 1 rfl) ?_
        refine lv_iload hx hb d_Ed_addItem_190 (lv_at hl 3 rfl) ?_
        obtain ⟨r_21, S_21, hc_21, h⟩ := lf_cE h
        have hFc := lx_free hD hS hA
        refine va_calli (va_runV (As := [.int y_1, .int y_5]) (rest := [.ref M.o_Tr, .int y_4]) ⟨hx, hb, hml, hown, hts⟩ (l_Tr_kid l dC dI X _ hc_21) (cwV 2 hts (gwV good_Vq (u_Vq_Ed _ k_Ed_53) (u_Vq_Tr _ k_Tr_54) (u_Vq_Tr _ k_Tr_55) (u_Vq_Tr _ k_Tr_0) (wcs (u_Vq_Tr _ k_Tr_56) (fun _ h => h))) rfl rfl rfl (by decide +kernel) ⟨Nat.le_of_ble_eq_true rfl, Nat.le_of_ble_eq_true rfl⟩) (pv_ofE (X.same _) (fun U z1 z2 => X.mono _ _ U hFc (hEw _ _ hS U z1 z2)) hP hK hD (va_recv hK hP (ci := 5) (q0 := 4) rfl rfl)) rfl rfl hl.1 rfl (lv_room (Nat.le_of_ble_eq_true rfl)) d_Ed_addItem_192 ⟨by decide, by decide⟩) hS (fun q _ h => hFc q h) hFc (fun r_ u t H locs ht hvm hw hB hz1 hk1 hS => ?_)
        rw [hw]
        obtain ⟨hP, -, hD⟩ := hB
        rw [ht] at hP
        have hD := lx_dj hD hFc
        obtain ⟨r_22, S_22, hc_22, h⟩ := lf_cE h
        have hFc := lx_free hD hS hA
        refine va_calli (va_runV (As := [.int r_21]) (rest := [.int y_4]) ⟨hx, hb, hml, hown, hts⟩ (l_Tr_slotOf l dC dI X _ hc_22) (cwV 1 hts (gwV good_Vq (u_Vq_Ed _ k_Ed_104) (u_Vq_Tr _ k_Tr_104) (u_Vq_Tr _ k_Tr_105) (u_Vq_Tr _ k_Tr_0) (wcs (u_Vq_Tr _ k_Tr_106) (fun _ h => h))) rfl rfl rfl (by decide +kernel) ⟨Nat.le_of_ble_eq_true rfl, Nat.le_of_ble_eq_true rfl⟩) (pv_ofE (X.same _) (fun U z1 z2 => X.mono _ _ U hFc (hEw _ _ hS U z1 z2)) hP hK hD (va_recv hK hP (ci := 5) (q0 := 4) rfl rfl)) rfl rfl hl.1 rfl (lv_room (Nat.le_of_ble_eq_true rfl)) d_Ed_addItem_195 ⟨by decide, by decide⟩) hS (fun q _ h => hFc q h) hFc (fun r_ u t H locs ht hvm hw hB hz1 hk1 hS => ?_)
        rw [hw]
        obtain ⟨hP, -, hD⟩ := hB
        rw [ht] at hP
        have hD := lx_dj hD hFc
        refine lv_aload_n hx hb d_Ed_addItem_198 rfl (lv_at hl 0 rfl) ?_
        refine va_get (D := (dC, dI)) (ci := 8) (v := .int S_22.v_Ed_firstSlot) (C := R_Ed) (T := F_Ed) (N := 13) hx hb hts (fun w h => u_Vq_Ed w (i_Ed w h)) hown hK hP 6 rfl rfl 9 (by decide) (hts _ (u_Vq_Ed _ k_Ed_16)) (fun _ h9 => h9) rfl d_Ed_addItem_199 ?_
        refine lv_icmp_ge (tgt := 209) hx hb d_Ed_addItem_202 (by decide) (fun c_23 => ?_) (fun c_23 => ?_)
        · have h := lf_t h c_23
          refine lv_iconst (v := 0) hx hb d_Ed_addItem_209 (by decide) ?_
          exact hB_210 _ hr_166 y_1 y_5 y_4 0 S_22 _ _ _ h hP hD hS (lv_sub hl [0, 1, 3] rfl)
        · have h := lf_f h c_23
          refine lv_iconst (v := 1) hx hb d_Ed_addItem_205 (by decide) ?_
          refine lv_goto (tgt := 210) hx hb d_Ed_addItem_206 (by decide) ?_
          exact hB_210 _ hr_166 y_1 y_5 y_4 1 S_22 _ _ _ h hP hD hS (lv_sub hl [0, 1, 3] rfl)
  have hB_160 : ∀ (y_1 : Int32) (S : CS) (H : Heap) (locs : List Loc) (ls : Array Slot), f_Ed_addItem_160 K G y_1 S = some (r, S') → va_P (dC, dI) classes (wV M Y G S) H → va_D A (wV M Y G S) → va_S A s.heap H locs → lv_has ls 6 [(0, .ref M.o_Ed), (1, .int y_1)] → W p l e ({ frames := 5, cells := 0, slots := 0, locals := 116 }) s m ([.ref M.o_Ed, .int p0, .int p1] : List Value).toArray below meth c H locs 0 0 Q (F0 m 160 ls []) := by
    intro y_1 S H locs ls h hP hD hS hl
    rw [f_Ed_addItem_160] at h
    refine lv_iconst (v := 0) hx hb d_Ed_addItem_160 (by decide) ?_
    refine lv_istore (lv' := [(4, .int 0), (0, .ref M.o_Ed), (1, .int y_1)]) hx hb d_Ed_addItem_161 hl (by decide) rfl (fun ls hl => ?_)
    refine lv_iconst (v := 0) hx hb d_Ed_addItem_163 (by decide) ?_
    refine lv_istore (lv' := [(5, .int 0), (4, .int 0), (0, .ref M.o_Ed), (1, .int y_1)]) hx hb d_Ed_addItem_164 hl (by decide) rfl (fun ls hl => ?_)
    exact hB_166 K y_1 0 0 S _ _ _ h hP hD hS (lv_sub hl [2, 3, 1, 0] rfl)
  have hB_150 : ∀ (y_1 : Int32) (y_2 : Int32) (y_3 : Int32) (S : CS) (H : Heap) (locs : List Loc) (ls : Array Slot), f_Ed_addItem_150 K G y_1 y_2 y_3 S = some (r, S') → va_P (dC, dI) classes (wV M Y G S) H → va_D A (wV M Y G S) → va_S A s.heap H locs → lv_has ls 6 [(0, .ref M.o_Ed), (1, .int y_1), (2, .int y_2), (3, .int y_3)] → W p l e ({ frames := 5, cells := 0, slots := 0, locals := 116 }) s m ([.ref M.o_Ed, .int p0, .int p1] : List Value).toArray below meth c H locs 0 0 Q (F0 m 150 ls []) := by
    intro y_1 y_2 y_3 S H locs ls h hP hD hS hl
    rw [f_Ed_addItem_150] at h
    refine lv_iload_n hx hb d_Ed_addItem_150 rfl (lv_at hl 2 rfl) ?_
    refine lv_if_eq (tgt := 160) hx hb d_Ed_addItem_151 (by decide) (fun c_17 => ?_) (fun c_17 => ?_)
    · have h := lf_t h c_17
      exact hB_160 y_1 S _ _ _ h hP hD hS (lv_sub hl [0, 1] rfl)
    · have h := lf_f h c_17
      refine lv_aload_n hx hb d_Ed_addItem_154 rfl (lv_at hl 0 rfl) ?_
      refine lv_iload_n hx hb d_Ed_addItem_155 rfl (lv_at hl 3 rfl) ?_
      refine lv_iload_n hx hb d_Ed_addItem_156 rfl (lv_at hl 1 rfl) ?_
      obtain ⟨S_18, hc_18, h⟩ := lf_bE h
      have hFc := lx_free hD hS hA
      refine va_callv (va_runV (As := [.int y_3, .int y_1]) (rest := []) ⟨hx, hb, hml, hown, hts⟩ (l_Ed_putDots l dC dI X _ hc_18) (cwV 2 hts (gwV good_Vq (u_Vq_Ed _ k_Ed_101) (u_Vq_Ed _ k_Ed_102) (u_Vq_Ed _ k_Ed_141) (u_Vq_Ed _ k_Ed_0) (wcs (u_Vq_Ed _ k_Ed_103) (fun _ h => h))) rfl rfl rfl (by decide +kernel) ⟨Nat.le_of_ble_eq_true rfl, Nat.le_of_ble_eq_true rfl⟩) (pv_ofE (X.same _) (fun U z1 z2 => X.mono _ _ U hFc (hEw _ _ hS U z1 z2)) hP hK hD (va_recv hK hP (ci := 8) (q0 := 6) rfl rfl)) rfl rfl hl.1 rfl (lv_room (Nat.le_of_ble_eq_true rfl)) d_Ed_addItem_157 ⟨by decide, by decide⟩) hS (fun q _ h => hFc q h) hFc (fun u t H locs ht hvm hw hB hz1 hk1 hS => ?_)
      obtain ⟨hP, -, hD⟩ := hB
      rw [ht] at hP
      have hD := lx_dj hD hFc
      exact hB_160 y_1 S_18 _ _ _ h hP hD hS (lv_sub hl [0, 1] rfl)
  have hB_74 : ∀ (k : Nat), ∀ (y_1 : Int32) (y_2 : Int32) (y_3 : Int32) (y_4 : Int32) (S : CS) (H : Heap) (locs : List Loc) (ls : Array Slot), f_Ed_addItem_74 K G k y_1 y_2 y_3 y_4 S = some (r, S') → va_P (dC, dI) classes (wV M Y G S) H → va_D A (wV M Y G S) → va_S A s.heap H locs → lv_has ls 6 [(0, .ref M.o_Ed), (1, .int y_1), (2, .int y_2), (3, .int y_3), (4, .int y_4)] → W p l e ({ frames := 5, cells := 0, slots := 0, locals := 116 }) s m ([.ref M.o_Ed, .int p0, .int p1] : List Value).toArray below meth c H locs 0 0 Q (F0 m 74 ls []) := by
    intro k
    induction k with
    | zero => intro y_1 y_2 y_3 y_4 S H locs ls h; exact lf_no h
    | succ k hr_74 =>
      intro y_1 y_2 y_3 y_4 S H locs ls h hP hD hS hl
      rw [f_Ed_addItem_74] at h
      refine lv_iload hx hb d_Ed_addItem_74 (lv_at hl 4 rfl) ?_
      refine lv_aload_n hx hb d_Ed_addItem_76 rfl (lv_at hl 0 rfl) ?_
      refine va_get (D := (dC, dI)) (ci := 8) (v := .int S.v_Ed_slots) (C := R_Ed) (T := F_Ed) (N := 13) hx hb hts (fun w h => u_Vq_Ed w (i_Ed w h)) hown hK hP 6 rfl rfl 10 (by decide) (hts _ (u_Vq_Ed _ k_Ed_17)) (fun _ h9 => h9) rfl d_Ed_addItem_77 ?_
      refine lv_icmp_ge (tgt := 113) hx hb d_Ed_addItem_80 (by decide) (fun c_10 => ?_) (fun c_10 => ?_)
      · have h := lf_t h c_10
        refine lv_aload_n hx hb d_Ed_addItem_113 rfl (lv_at hl 0 rfl) ?_
        refine va_get (D := (dC, dI)) (ci := 8) (v := .int S.v_Ed_unseen) (C := R_Ed) (T := F_Ed) (N := 13) hx hb hts (fun w h => u_Vq_Ed w (i_Ed w h)) hown hK hP 6 rfl rfl 11 (by decide) (hts _ (u_Vq_Ed _ k_Ed_18)) (fun _ h9 => h9) rfl d_Ed_addItem_114 ?_
        refine lv_aload_n hx hb d_Ed_addItem_117 rfl (lv_at hl 0 rfl) ?_
        refine va_get (D := (dC, dI)) (ci := 8) (v := .int S.v_Ed_firstSlot) (C := R_Ed) (T := F_Ed) (N := 13) hx hb hts (fun w h => u_Vq_Ed w (i_Ed w h)) hown hK hP 6 rfl rfl 9 (by decide) (hts _ (u_Vq_Ed _ k_Ed_16)) (fun _ h9 => h9) rfl d_Ed_addItem_118 ?_
        refine lv_aload_n hx hb d_Ed_addItem_121 rfl (lv_at hl 0 rfl) ?_
        refine va_get (D := (dC, dI)) (ci := 8) (v := .int S.v_Ed_slots) (C := R_Ed) (T := F_Ed) (N := 13) hx hb hts (fun w h => u_Vq_Ed w (i_Ed w h)) hown hK hP 6 rfl rfl 10 (by decide) (hts _ (u_Vq_Ed _ k_Ed_17)) (fun _ h9 => h9) rfl d_Ed_addItem_122 ?_
        refine lv_iadd hx hb d_Ed_addItem_125 ?_
        refine lv_icmp_ge (tgt := 150) hx hb d_Ed_addItem_126 (by decide) (fun c_11 => ?_) (fun c_11 => ?_)
        · have h := lf_t h c_11
          exact hB_150 y_1 y_2 y_3 S _ _ _ h hP hD hS (lv_sub hl [0, 1, 2, 3] rfl)
        · have h := lf_f h c_11
          refine lv_aload_n hx hb d_Ed_addItem_129 rfl (lv_at hl 0 rfl) ?_
          refine va_get (D := (dC, dI)) (ci := 8) (v := .ref M.o_Dk) (C := R_Ed) (T := F_Ed) (N := 13) hx hb hts (fun w h => u_Vq_Ed w (i_Ed w h)) hown hK hP 6 rfl rfl 0 (by decide) (hts _ (u_Vq_Ed _ k_Ed_7)) (fun _ h9 => h9) rfl d_Ed_addItem_130 ?_
          refine lv_aload_n hx hb d_Ed_addItem_133 rfl (lv_at hl 0 rfl) ?_
          refine lv_aload_n hx hb d_Ed_addItem_134 rfl (lv_at hl 0 rfl) ?_
          refine va_get (D := (dC, dI)) (ci := 8) (v := .int S.v_Ed_firstSlot) (C := R_Ed) (T := F_Ed) (N := 13) hx hb hts (fun w h => u_Vq_Ed w (i_Ed w h)) hown hK hP 6 rfl rfl 9 (by decide) (hts _ (u_Vq_Ed _ k_Ed_16)) (fun _ h9 => h9) rfl d_Ed_addItem_135 ?_
          refine lv_aload_n hx hb d_Ed_addItem_138 rfl (lv_at hl 0 rfl) ?_
          refine va_get (D := (dC, dI)) (ci := 8) (v := .int S.v_Ed_slots) (C := R_Ed) (T := F_Ed) (N := 13) hx hb hts (fun w h => u_Vq_Ed w (i_Ed w h)) hown hK hP 6 rfl rfl 10 (by decide) (hts _ (u_Vq_Ed _ k_Ed_17)) (fun _ h9 => h9) rfl d_Ed_addItem_139 ?_
          refine lv_iadd hx hb d_Ed_addItem_142 ?_
          obtain ⟨r_12, S_12, hc_12, h⟩ := lf_cE h
          have hFc := lx_free hD hS hA
          refine va_calli (va_runV (As := [.int (S.v_Ed_firstSlot + S.v_Ed_slots)]) (rest := [.ref M.o_Dk]) ⟨hx, hb, hml, hown, hts⟩ (l_Ed_slotPlace l dC dI X _ hc_12) (cwV 1 hts (gwV good_Vq (u_Vq_Ed _ k_Ed_64) (u_Vq_Ed _ k_Ed_65) (u_Vq_Ed _ k_Ed_136) (u_Vq_Ed _ k_Ed_0) (wcs (u_Vq_Ed _ k_Ed_66) (fun _ h => h))) rfl rfl rfl (by decide +kernel) ⟨Nat.le_of_ble_eq_true rfl, Nat.le_of_ble_eq_true rfl⟩) (pv_ofE (X.same _) (fun U z1 z2 => X.mono _ _ U hFc (hEw _ _ hS U z1 z2)) hP hK hD (va_recv hK hP (ci := 8) (q0 := 6) rfl rfl)) rfl rfl hl.1 rfl (lv_room (Nat.le_of_ble_eq_true rfl)) d_Ed_addItem_143 ⟨by decide, by decide⟩) hS (fun q _ h => hFc q h) hFc (fun r_ u t H locs ht hvm hw hB hz1 hk1 hS => ?_)
          rw [hw]
          obtain ⟨hP, -, hD⟩ := hB
          rw [ht] at hP
          have hD := lx_dj hD hFc
          refine lv_iconst (v := 0) hx hb d_Ed_addItem_146 (by decide) ?_
          obtain ⟨S_13, hc_13, h⟩ := lf_bE h
          have hFc := lx_free hD hS hA
          refine va_callv (va_runV (As := [.int r_12, .int 0]) (rest := []) ⟨hx, hb, hml, hown, hts⟩ (l_Dk_putOne l dC dI X _ hc_13) (cwV 2 hts (gwV good_Vq (u_Vq_Ed _ k_Ed_25) (u_Vq_Dk _ k_Dk_11) (u_Vq_Dk _ k_Dk_12) (u_Vq_Dk _ k_Dk_0) (wcs (u_Vq_Dk _ k_Dk_13) (fun _ h => h))) rfl rfl rfl (by decide +kernel) ⟨Nat.le_of_ble_eq_true rfl, Nat.le_of_ble_eq_true rfl⟩) (pv_ofE (X.same _) (fun U z1 z2 => X.mono _ _ U hFc (hEw _ _ hS U z1 z2)) hP hK hD (va_recv hK hP (ci := 0) (q0 := 1) rfl rfl)) rfl rfl hl.1 rfl (lv_room (Nat.le_of_ble_eq_true rfl)) d_Ed_addItem_147 ⟨by decide, by decide⟩) hS (fun q _ h => hFc q h) hFc (fun u t H locs ht hvm hw hB hz1 hk1 hS => ?_)
          obtain ⟨hP, -, hD⟩ := hB
          rw [ht] at hP
          have hD := lx_dj hD hFc
          exact hB_150 y_1 y_2 y_3 S_13 _ _ _ h hP hD hS (lv_sub hl [0, 1, 2, 3] rfl)
      · have h := lf_f h c_10
        refine lv_aload_n hx hb d_Ed_addItem_83 rfl (lv_at hl 0 rfl) ?_
        refine lv_aload_n hx hb d_Ed_addItem_84 rfl (lv_at hl 0 rfl) ?_
        refine lv_aload_n hx hb d_Ed_addItem_85 rfl (lv_at hl 0 rfl) ?_
        refine va_get (D := (dC, dI)) (ci := 8) (v := .int S.v_Ed_firstSlot) (C := R_Ed) (T := F_Ed) (N := 13) hx hb hts (fun w h => u_Vq_Ed w (i_Ed w h)) hown hK hP 6 rfl rfl 9 (by decide) (hts _ (u_Vq_Ed _ k_Ed_16)) (fun _ h9 => h9) rfl d_Ed_addItem_86 ?_
        refine lv_aload_n hx hb d_Ed_addItem_89 rfl (lv_at hl 0 rfl) ?_
        refine va_get (D := (dC, dI)) (ci := 8) (v := .int S.v_Ed_slots) (C := R_Ed) (T := F_Ed) (N := 13) hx hb hts (fun w h => u_Vq_Ed w (i_Ed w h)) hown hK hP 6 rfl rfl 10 (by decide) (hts _ (u_Vq_Ed _ k_Ed_17)) (fun _ h9 => h9) rfl d_Ed_addItem_90 ?_
        refine lv_iadd hx hb d_Ed_addItem_93 ?_
        refine lv_iconst (v := 1) hx hb d_Ed_addItem_94 (by decide) ?_
        refine lv_isub hx hb d_Ed_addItem_95 ?_
        refine lv_iload hx hb d_Ed_addItem_96 (lv_at hl 4 rfl) ?_
        refine lv_isub hx hb d_Ed_addItem_98 ?_
        obtain ⟨r_14, S_14, hc_14, h⟩ := lf_cE h
        have hFc := lx_free hD hS hA
        refine va_calli (va_runV (As := [.int (((S.v_Ed_firstSlot + S.v_Ed_slots) - 1) - y_4)]) (rest := [.ref M.o_Ed]) ⟨hx, hb, hml, hown, hts⟩ (l_Ed_slotPlace l dC dI X _ hc_14) (cwV 1 hts (gwV good_Vq (u_Vq_Ed _ k_Ed_64) (u_Vq_Ed _ k_Ed_65) (u_Vq_Ed _ k_Ed_136) (u_Vq_Ed _ k_Ed_0) (wcs (u_Vq_Ed _ k_Ed_66) (fun _ h => h))) rfl rfl rfl (by decide +kernel) ⟨Nat.le_of_ble_eq_true rfl, Nat.le_of_ble_eq_true rfl⟩) (pv_ofE (X.same _) (fun U z1 z2 => X.mono _ _ U hFc (hEw _ _ hS U z1 z2)) hP hK hD (va_recv hK hP (ci := 8) (q0 := 6) rfl rfl)) rfl rfl hl.1 rfl (lv_room (Nat.le_of_ble_eq_true rfl)) d_Ed_addItem_99 ⟨by decide, by decide⟩) hS (fun q _ h => hFc q h) hFc (fun r_ u t H locs ht hvm hw hB hz1 hk1 hS => ?_)
        rw [hw]
        obtain ⟨hP, -, hD⟩ := hB
        rw [ht] at hP
        have hD := lx_dj hD hFc
        refine lv_iload hx hb d_Ed_addItem_102 (lv_at hl 4 rfl) ?_
        obtain ⟨S_15, hc_15, h⟩ := lf_bE h
        have hFc := lx_free hD hS hA
        refine va_callv (va_runV (As := [.int r_14, .int y_4]) (rest := []) ⟨hx, hb, hml, hown, hts⟩ (l_Ed_putPart l dC dI X _ hc_15) (cwV 2 hts (gwV good_Vq (u_Vq_Ed _ k_Ed_95) (u_Vq_Ed _ k_Ed_96) (u_Vq_Ed _ k_Ed_140) (u_Vq_Ed _ k_Ed_0) (wcs (u_Vq_Ed _ k_Ed_97) (fun _ h => h))) rfl rfl rfl (by decide +kernel) ⟨Nat.le_of_ble_eq_true rfl, Nat.le_of_ble_eq_true rfl⟩) (pv_ofE (X.same _) (fun U z1 z2 => X.mono _ _ U hFc (hEw _ _ hS U z1 z2)) hP hK hD (va_recv hK hP (ci := 8) (q0 := 6) rfl rfl)) rfl rfl hl.1 rfl (lv_room (Nat.le_of_ble_eq_true rfl)) d_Ed_addItem_104 ⟨by decide, by decide⟩) hS (fun q _ h => hFc q h) hFc (fun u t H locs ht hvm hw hB hz1 hk1 hS => ?_)
        obtain ⟨hP, -, hD⟩ := hB
        rw [ht] at hP
        have hD := lx_dj hD hFc
        obtain ⟨x_16, ex_16, h⟩ := lf_lX h
        refine lv_iinc (v := x_16) (lv' := [(4, .int x_16), (0, .ref M.o_Ed), (1, .int y_1), (2, .int y_2), (3, .int y_3)]) hx hb d_Ed_addItem_107 hl (k := 4) rfl (by rw [ex_16]; rfl) (by decide) rfl (fun ls hl => ?_)
        refine lv_goto (tgt := 74) hx hb d_Ed_addItem_110 (by decide) ?_
        exact hr_74 y_1 y_2 y_3 x_16 S_15 _ _ _ h hP hD hS (lv_sub hl [1, 2, 3, 4, 0] rfl)
  have hB_31 : ∀ (k : Nat), ∀ (y_1 : Int32) (y_2 : Int32) (y_3 : Int32) (y_4 : Int32) (S : CS) (H : Heap) (locs : List Loc) (ls : Array Slot), f_Ed_addItem_31 K G k y_1 y_2 y_3 y_4 S = some (r, S') → va_P (dC, dI) classes (wV M Y G S) H → va_D A (wV M Y G S) → va_S A s.heap H locs → lv_has ls 6 [(0, .ref M.o_Ed), (1, .int y_1), (2, .int y_2), (3, .int y_3), (4, .int y_4)] → W p l e ({ frames := 5, cells := 0, slots := 0, locals := 116 }) s m ([.ref M.o_Ed, .int p0, .int p1] : List Value).toArray below meth c H locs 0 0 Q (F0 m 31 ls []) := by
    intro k
    induction k with
    | zero => intro y_1 y_2 y_3 y_4 S H locs ls h; exact lf_no h
    | succ k hr_31 =>
      intro y_1 y_2 y_3 y_4 S H locs ls h hP hD hS hl
      rw [f_Ed_addItem_31] at h
      refine lv_iload hx hb d_Ed_addItem_31 (lv_at hl 4 rfl) ?_
      refine lv_aload_n hx hb d_Ed_addItem_33 rfl (lv_at hl 0 rfl) ?_
      refine va_get (D := (dC, dI)) (ci := 8) (v := .int S.v_Ed_wanted) (C := R_Ed) (T := F_Ed) (N := 13) hx hb hts (fun w h => u_Vq_Ed w (i_Ed w h)) hown hK hP 6 rfl rfl 12 (by decide) (hts _ (u_Vq_Ed _ k_Ed_19)) (fun _ h9 => h9) rfl d_Ed_addItem_34 ?_
      refine lv_icmp_ge (tgt := 50) hx hb d_Ed_addItem_37 (by decide) (fun c_5 => ?_) (fun c_5 => ?_)
      · have h := lf_t h c_5
        refine lv_aload_n hx hb d_Ed_addItem_50 rfl (lv_at hl 0 rfl) ?_
        refine lv_aload_n hx hb d_Ed_addItem_51 rfl (lv_at hl 0 rfl) ?_
        refine lv_aload_n hx hb d_Ed_addItem_52 rfl (lv_at hl 0 rfl) ?_
        refine va_get (D := (dC, dI)) (ci := 8) (v := .int S.v_Ed_firstSlot) (C := R_Ed) (T := F_Ed) (N := 13) hx hb hts (fun w h => u_Vq_Ed w (i_Ed w h)) hown hK hP 6 rfl rfl 9 (by decide) (hts _ (u_Vq_Ed _ k_Ed_16)) (fun _ h9 => h9) rfl d_Ed_addItem_53 ?_
        refine lv_aload_n hx hb d_Ed_addItem_56 rfl (lv_at hl 0 rfl) ?_
        refine va_get (D := (dC, dI)) (ci := 8) (v := .int S.v_Ed_slots) (C := R_Ed) (T := F_Ed) (N := 13) hx hb hts (fun w h => u_Vq_Ed w (i_Ed w h)) hown hK hP 6 rfl rfl 10 (by decide) (hts _ (u_Vq_Ed _ k_Ed_17)) (fun _ h9 => h9) rfl d_Ed_addItem_57 ?_
        refine lv_iadd hx hb d_Ed_addItem_60 ?_
        refine lv_iconst (v := 1) hx hb d_Ed_addItem_61 (by decide) ?_
        refine lv_isub hx hb d_Ed_addItem_62 ?_
        obtain ⟨r_6, S_6, hc_6, h⟩ := lf_cE h
        have hFc := lx_free hD hS hA
        refine va_calli (va_runV (As := [.int ((S.v_Ed_firstSlot + S.v_Ed_slots) - 1)]) (rest := [.ref M.o_Ed]) ⟨hx, hb, hml, hown, hts⟩ (l_Ed_slotPlace l dC dI X _ hc_6) (cwV 1 hts (gwV good_Vq (u_Vq_Ed _ k_Ed_64) (u_Vq_Ed _ k_Ed_65) (u_Vq_Ed _ k_Ed_136) (u_Vq_Ed _ k_Ed_0) (wcs (u_Vq_Ed _ k_Ed_66) (fun _ h => h))) rfl rfl rfl (by decide +kernel) ⟨Nat.le_of_ble_eq_true rfl, Nat.le_of_ble_eq_true rfl⟩) (pv_ofE (X.same _) (fun U z1 z2 => X.mono _ _ U hFc (hEw _ _ hS U z1 z2)) hP hK hD (va_recv hK hP (ci := 8) (q0 := 6) rfl rfl)) rfl rfl hl.1 rfl (lv_room (Nat.le_of_ble_eq_true rfl)) d_Ed_addItem_63 ⟨by decide, by decide⟩) hS (fun q _ h => hFc q h) hFc (fun r_ u t H locs ht hvm hw hB hz1 hk1 hS => ?_)
        rw [hw]
        obtain ⟨hP, -, hD⟩ := hB
        rw [ht] at hP
        have hD := lx_dj hD hFc
        refine lv_iload_n hx hb d_Ed_addItem_66 rfl (lv_at hl 3 rfl) ?_
        refine lv_iload_n hx hb d_Ed_addItem_67 rfl (lv_at hl 2 rfl) ?_
        obtain ⟨S_7, hc_7, h⟩ := lf_bE h
        have hFc := lx_free hD hS hA
        refine va_callv (va_runV (As := [.int r_6, .int y_3, .int y_2]) (rest := []) ⟨hx, hb, hml, hown, hts⟩ (l_Ed_putEntry l dC dI X _ hc_7) (cwV 3 hts (gwV good_Vq (u_Vq_Ed _ k_Ed_88) (u_Vq_Ed _ k_Ed_89) (u_Vq_Ed _ k_Ed_138) (u_Vq_Ed _ k_Ed_0) (wcs (u_Vq_Ed _ k_Ed_90) (fun _ h => h))) rfl rfl rfl (by decide +kernel) ⟨Nat.le_of_ble_eq_true rfl, Nat.le_of_ble_eq_true rfl⟩) (pv_ofE (X.same _) (fun U z1 z2 => X.mono _ _ U hFc (hEw _ _ hS U z1 z2)) hP hK hD (va_recv hK hP (ci := 8) (q0 := 6) rfl rfl)) rfl rfl hl.1 rfl (lv_room (Nat.le_of_ble_eq_true rfl)) d_Ed_addItem_68 ⟨by decide, by decide⟩) hS (fun q _ h => hFc q h) hFc (fun u t H locs ht hvm hw hB hz1 hk1 hS => ?_)
        obtain ⟨hP, -, hD⟩ := hB
        rw [ht] at hP
        have hD := lx_dj hD hFc
        refine lv_iconst (v := 1) hx hb d_Ed_addItem_71 (by decide) ?_
        refine lv_istore (lv' := [(4, .int 1), (0, .ref M.o_Ed), (1, .int y_1), (2, .int y_2), (3, .int y_3)]) hx hb d_Ed_addItem_72 hl (by decide) rfl (fun ls hl => ?_)
        exact hB_74 K y_1 y_2 y_3 1 S_7 _ _ _ h hP hD hS (lv_sub hl [1, 2, 3, 4, 0] rfl)
      · have h := lf_f h c_5
        refine lv_aload_n hx hb d_Ed_addItem_40 rfl (lv_at hl 0 rfl) ?_
        obtain ⟨S_8, hc_8, h⟩ := lf_bE h
        have hFc := lx_free hD hS hA
        refine va_callv (va_runV (As := []) (rest := []) ⟨hx, hb, hml, hown, hts⟩ (l_Ed_lengthenRoad l dC dI X _ hc_8) (cwV 0 hts (gwV good_Vq (u_Vq_Ed _ k_Ed_84) (u_Vq_Ed _ k_Ed_85) (u_Vq_Ed _ k_Ed_137) (u_Vq_Ed _ k_Ed_0) (wcs (u_Vq_Ed _ k_Ed_86) (fun _ h => h))) rfl rfl rfl (by decide +kernel) ⟨Nat.le_of_ble_eq_true rfl, Nat.le_of_ble_eq_true rfl⟩) (pv_ofE (X.same _) (fun U z1 z2 => X.mono _ _ U hFc (hEw _ _ hS U z1 z2)) hP hK hD (va_recv hK hP (ci := 8) (q0 := 6) rfl rfl)) rfl rfl hl.1 rfl (lv_room (Nat.le_of_ble_eq_true rfl)) d_Ed_addItem_41 ⟨by decide, by decide⟩) hS (fun q _ h => hFc q h) hFc (fun u t H locs ht hvm hw hB hz1 hk1 hS => ?_)
        obtain ⟨hP, -, hD⟩ := hB
        rw [ht] at hP
        have hD := lx_dj hD hFc
        obtain ⟨x_9, ex_9, h⟩ := lf_lX h
        refine lv_iinc (v := x_9) (lv' := [(4, .int x_9), (0, .ref M.o_Ed), (1, .int y_1), (2, .int y_2), (3, .int y_3)]) hx hb d_Ed_addItem_44 hl (k := 4) rfl (by rw [ex_9]; rfl) (by decide) rfl (fun ls hl => ?_)
        refine lv_goto (tgt := 31) hx hb d_Ed_addItem_47 (by decide) ?_
        exact hr_31 y_1 y_2 y_3 x_9 S_8 _ _ _ h hP hD hS (lv_sub hl [1, 2, 3, 4, 0] rfl)
  have hB_27 : ∀ (y_1 : Int32) (y_2 : Int32) (z_0 : Int32) (S : CS) (H : Heap) (locs : List Loc) (ls : Array Slot), f_Ed_addItem_27 K G y_1 y_2 z_0 S = some (r, S') → va_P (dC, dI) classes (wV M Y G S) H → va_D A (wV M Y G S) → va_S A s.heap H locs → lv_has ls 6 [(0, .ref M.o_Ed), (1, .int y_1), (2, .int y_2)] → W p l e ({ frames := 5, cells := 0, slots := 0, locals := 116 }) s m ([.ref M.o_Ed, .int p0, .int p1] : List Value).toArray below meth c H locs 0 0 Q (F0 m 27 ls [.int z_0]) := by
    intro y_1 y_2 z_0 S H locs ls h hP hD hS hl
    rw [f_Ed_addItem_27] at h
    refine lv_istore_n (lv' := [(3, .int z_0), (0, .ref M.o_Ed), (1, .int y_1), (2, .int y_2)]) hx hb d_Ed_addItem_27 rfl hl (by decide) rfl (fun ls hl => ?_)
    refine lv_iconst (v := 0) hx hb d_Ed_addItem_28 (by decide) ?_
    refine lv_istore (lv' := [(4, .int 0), (3, .int z_0), (0, .ref M.o_Ed), (1, .int y_1), (2, .int y_2)]) hx hb d_Ed_addItem_29 hl (by decide) rfl (fun ls hl => ?_)
    exact hB_31 K y_1 y_2 z_0 0 S _ _ _ h hP hD hS (lv_sub hl [2, 3, 4, 1, 0] rfl)
  have hB_12 : ∀ (y_1 : Int32) (y_2 : Int32) (S : CS) (H : Heap) (locs : List Loc) (ls : Array Slot), f_Ed_addItem_12 K G y_1 y_2 S = some (r, S') → va_P (dC, dI) classes (wV M Y G S) H → va_D A (wV M Y G S) → va_S A s.heap H locs → lv_has ls 6 [(0, .ref M.o_Ed), (1, .int y_1), (2, .int y_2)] → W p l e ({ frames := 5, cells := 0, slots := 0, locals := 116 }) s m ([.ref M.o_Ed, .int p0, .int p1] : List Value).toArray below meth c H locs 0 0 Q (F0 m 12 ls []) := by
    intro y_1 y_2 S H locs ls h hP hD hS hl
    rw [f_Ed_addItem_12] at h
    refine lv_iload_n hx hb d_Ed_addItem_12 rfl (lv_at hl 2 rfl) ?_
    refine lv_if_eq (tgt := 26) hx hb d_Ed_addItem_13 (by decide) (fun c_3 => ?_) (fun c_3 => ?_)
    · have h := lf_t h c_3
      refine lv_iconst (v := 0) hx hb d_Ed_addItem_26 (by decide) ?_
      exact hB_27 y_1 y_2 0 S _ _ _ h hP hD hS (lv_sub hl [0, 1, 2] rfl)
    · have h := lf_f h c_3
      refine lv_aload_n hx hb d_Ed_addItem_16 rfl (lv_at hl 0 rfl) ?_
      refine va_get (D := (dC, dI)) (ci := 8) (v := .ref M.o_Tb) (C := R_Ed) (T := F_Ed) (N := 13) hx hb hts (fun w h => u_Vq_Ed w (i_Ed w h)) hown hK hP 6 rfl rfl 1 (by decide) (hts _ (u_Vq_Ed _ k_Ed_8)) (fun _ h9 => h9) rfl d_Ed_addItem_17 ?_
      obtain ⟨r_4, S_4, hc_4, h⟩ := lf_cE h
      have hFc := lx_free hD hS hA
      refine va_calli (va_runV (As := []) (rest := []) ⟨hx, hb, hml, hown, hts⟩ (l_Tb_takeFree l dC dI X _ hc_4) (cwV 0 hts (gwV good_Vq (u_Vq_Ed _ k_Ed_83) (u_Vq_Tb _ k_Tb_104) (u_Vq_Tb _ k_Tb_105) (u_Vq_Tb _ k_Tb_0) (wcs (u_Vq_Tb _ k_Tb_106) (fun _ h => h))) rfl rfl rfl (by decide +kernel) ⟨Nat.le_of_ble_eq_true rfl, Nat.le_of_ble_eq_true rfl⟩) (pv_ofE (X.same _) (fun U z1 z2 => X.mono _ _ U hFc (hEw _ _ hS U z1 z2)) hP hK hD (va_recv hK hP (ci := 4) (q0 := 3) rfl rfl)) rfl rfl hl.1 rfl (lv_room (Nat.le_of_ble_eq_true rfl)) d_Ed_addItem_20 ⟨by decide, by decide⟩) hS (fun q _ h => hFc q h) hFc (fun r_ u t H locs ht hvm hw hB hz1 hk1 hS => ?_)
      rw [hw]
      obtain ⟨hP, -, hD⟩ := hB
      rw [ht] at hP
      have hD := lx_dj hD hFc
      refine lv_goto (tgt := 27) hx hb d_Ed_addItem_23 (by decide) ?_
      exact hB_27 y_1 y_2 r_4 S_4 _ _ _ h hP hD hS (lv_sub hl [0, 1, 2] rfl)
  rw [f_Ed_addItem] at h
  refine lv_aload_n hx hb d_Ed_addItem_0 rfl (lv_at hl 0 rfl) ?_
  refine va_get (D := (dC, dI)) (ci := 8) (v := .int S.v_Ed_plain) (C := R_Ed) (T := F_Ed) (N := 13) hx hb hts (fun w h => u_Vq_Ed w (i_Ed w h)) hown hK hP 6 rfl rfl 8 (by decide) (hts _ (u_Vq_Ed _ k_Ed_15)) (fun _ h9 => h9) rfl d_Ed_addItem_1 ?_
  refine lv_if_ne (tgt := 12) hx hb d_Ed_addItem_4 (by decide) (fun c_1 => ?_) (fun c_1 => ?_)
  · have h := lf_f h c_1
    exact hB_12 p0 p1 S _ _ _ h hP hD hS (lv_sub hl [0, 1, 2] rfl)
  · have h := lf_t h c_1
    refine lv_aload_n hx hb d_Ed_addItem_7 rfl (lv_at hl 0 rfl) ?_
    refine lv_iload_n hx hb d_Ed_addItem_8 rfl (lv_at hl 1 rfl) ?_
    obtain ⟨S_2, hc_2, h⟩ := lf_bE h
    have hFc := lx_free hD hS hA
    refine va_callv (va_runV (As := [.int p0]) (rest := []) ⟨hx, hb, hml, hown, hts⟩ (l_Ed_inventShortName l dC dI X _ hc_2) (cwV 1 hts (gwV good_Vq (u_Vq_Ed _ k_Ed_72) (u_Vq_Ed _ k_Ed_73) (u_Vq_Ed _ k_Ed_135) (u_Vq_Ed _ k_Ed_0) (wcs (u_Vq_Ed _ k_Ed_74) (fun _ h => h))) rfl rfl rfl (by decide +kernel) ⟨Nat.le_of_ble_eq_true rfl, Nat.le_of_ble_eq_true rfl⟩) (pv_ofE (X.same _) (fun U z1 z2 => X.mono _ _ U hFc (hEw _ _ hS U z1 z2)) hP hK hD (va_recv hK hP (ci := 8) (q0 := 6) rfl rfl)) rfl rfl hl.1 rfl (lv_room (Nat.le_of_ble_eq_true rfl)) d_Ed_addItem_9 ⟨by decide, by decide⟩) hS (fun q _ h => hFc q h) hFc (fun u t H locs ht hvm hw hB hz1 hk1 hS => ?_)
    obtain ⟨hP, -, hD⟩ := hB
    rw [ht] at hP
    have hD := lx_dj hD hFc
    exact hB_12 p0 p1 S_2 _ _ _ h hP hD hS (lv_sub hl [0, 1, 2] rfl)
set_option maxHeartbeats 4000000 in
set_option maxRecDepth 100000 in
theorem l_Ed_clustersFor (l : Launch) (dC : Nat → ClassId) (dI : Nat → Nat → Nat) {K : Nat} {M : CA} {E : (Nat → Prop) → State → Prop} (X : ly_X l dC dI K M E) (sz : Nat) {Y : CT} {G : CG} {S S' : CS} {p0 : Int32} {r : Int32} (h : f_Ed_clustersFor K G S p0 = some (r, S')) : Met l y_Ed_clustersFor (.code y_Ed_clustersFor cb_Ed_clustersFor 3 (some .int) :: V_Vq) ({ frames := 1, cells := 0, slots := 0, locals := 20 }) (va_Pc [.ref M.o_Ed, .int p0] (fun U => U.heap.size = sz ∧ at_ (dC, dI) (fun _ => True) (wV M Y G S) (tV M) U ∧ E (va_A (wV M Y G S) sz) U)) (va_Qi (fun (r_ : Int32) (u : Unit) => r_ = r) (fun (u : Unit) t => at_ (dC, dI) (va_A (wV M Y G S) sz) (wV M Y G S') (tV M) t) (va_A (wV M Y G S) sz)) 0 0 (va_A (wV M Y G S) sz) := by
  refine Met.ofW (cc := cb_Ed_clustersFor) (maxL := 3) (ret := (some .int)) (by decide) rfl ?_
  intro p e s m args below meth c s₁ B hml hv
  obtain ⟨rfl, hsz, ⟨hP, hK, hD0⟩, hE⟩ := hv
  have hx := B.exec
  have hb := B.bytes
  have hr := B.returns
  have hts0 := atoms_spec (ws := .code y_Ed_clustersFor cb_Ed_clustersFor 3 (some .int) :: V_Vq) B.pre
  have hts : ∀ w ∈ V_Vq, w.before ([.ref M.o_Ed, .int p0] : List Value).toArray s = true := fun w h => hts0 w (List.mem_cons_of_mem _ h)
  have hown : s.vm.findClass R_Ed = some m.cls := findClass_of_methodNamed B.named
  subst hsz
  have hD := hD0.self (sz := s.heap.size)
  generalize hAe : va_A (wV M Y G S) s.heap.size = A at hD hE ⊢
  have hA : ∀ q : Nat, s.heap.size ≤ q → A q := fun q h => by rw [← hAe]; exact Or.inr h
  have hS : va_S A s.heap s.heap [] := va_S.rf
  have hP : va_P (dC, dI) classes (wV M Y G S) s.heap := hP
  have hK : va_K (dC, dI) classes (tV M) s := hK
  have hEw : ∀ (H : Heap) (locs : List Loc), va_S A s.heap H locs → ∀ U : State, U.heap = H → s.WarmedH U.vm → E A U := fun H locs hS U hU hW => X.kept A s U H locs hE hS hU hW
  have hl := lv_entry ([.ref M.o_Ed, .int p0]) (n := 3) (Nat.le_of_ble_eq_true rfl)
  rw [lg_entry_eq]
  generalize (lg_sl ([.ref M.o_Ed, .int p0]) ++ List.replicate (3 - (lg_sl ([.ref M.o_Ed, .int p0])).length) Slot.unset).toArray = ls at hl ⊢
  have hl : lv_has ls 3 [(0, .ref M.o_Ed), (1, .int p0)] := hl
  refine qabs (fun Q hQ => ?_)
  rw [f_Ed_clustersFor] at h
  refine lv_aload_n hx hb d_Ed_clustersFor_0 rfl (lv_at hl 0 rfl) ?_
  refine va_get (D := (dC, dI)) (ci := 8) (v := .ref M.o_Tb) (C := R_Ed) (T := F_Ed) (N := 13) hx hb hts (fun w h => u_Vq_Ed w (i_Ed w h)) hown hK hP 6 rfl rfl 1 (by decide) (hts _ (u_Vq_Ed _ k_Ed_8)) (fun _ h9 => h9) rfl d_Ed_clustersFor_1 ?_
  obtain ⟨r_1, S_1, hc_1, h⟩ := lf_cE h
  have hFc := lx_free hD hS hA
  refine va_calli (va_runV (As := []) (rest := []) ⟨hx, hb, hml, hown, hts⟩ (l_Tb_clusterBytes l dC dI X _ hc_1) (cwV 0 hts (gwV good_Vq (u_Vq_Ed _ k_Ed_36) (u_Vq_Tb _ k_Tb_60) (u_Vq_Tb _ k_Tb_61) (u_Vq_Tb _ k_Tb_0) (wcs (u_Vq_Tb _ k_Tb_62) (fun _ h => h))) rfl rfl rfl (by decide +kernel) ⟨Nat.le_of_ble_eq_true rfl, Nat.le_of_ble_eq_true rfl⟩) (pv_ofE (X.same _) (fun U z1 z2 => X.mono _ _ U hFc (hEw _ _ hS U z1 z2)) hP hK hD (va_recv hK hP (ci := 4) (q0 := 3) rfl rfl)) rfl rfl hl.1 rfl (lv_room (Nat.le_of_ble_eq_true rfl)) d_Ed_clustersFor_4 ⟨by decide, by decide⟩) hS (fun q _ h => hFc q h) hFc (fun r_ u t H locs ht hvm hw hB hz1 hk1 hS => ?_)
  rw [hw]
  obtain ⟨hP, -, hD⟩ := hB
  rw [ht] at hP
  have hD := lx_dj hD hFc
  refine lv_istore_n (lv' := [(2, .int r_1), (0, .ref M.o_Ed), (1, .int p0)]) hx hb d_Ed_clustersFor_7 rfl hl (by decide) rfl (fun ls hl => ?_)
  refine lv_iload_n hx hb d_Ed_clustersFor_8 rfl (lv_at hl 0 rfl) ?_
  refine lv_iconst (v := 1) hx hb d_Ed_clustersFor_9 (by decide) ?_
  refine lv_icmp_ge (tgt := 17) hx hb d_Ed_clustersFor_10 (by decide) (fun c_2 => ?_) (fun c_2 => ?_)
  · have h := lf_t h c_2
    refine lv_iload_n hx hb d_Ed_clustersFor_17 rfl (lv_at hl 2 rfl) ?_
    refine lv_iload_n hx hb d_Ed_clustersFor_18 rfl (lv_at hl 0 rfl) ?_
    refine lv_iadd hx hb d_Ed_clustersFor_19 ?_
    refine lv_iconst (v := 1) hx hb d_Ed_clustersFor_20 (by decide) ?_
    refine lv_isub hx hb d_Ed_clustersFor_21 ?_
    refine lv_iload_n hx hb d_Ed_clustersFor_22 rfl (lv_at hl 0 rfl) ?_
    obtain ⟨g_3, h⟩ := lf_gE h
    refine lv_idiv hx hb d_Ed_clustersFor_23 g_3 ?_
    rw [hQ]
    have e1 : (((p0 + r_1) - 1) / r_1) = r := congrArg Prod.fst (Option.some.inj h)
    have e2 : S_1 = S' := congrArg Prod.snd (Option.some.inj h)
    have hP := ly_newP e2.symm hP
    have hD := ly_newD e2.symm hD
    exact W.iret (v := (((p0 + r_1) - 1) / r_1)) hx hb hr (fun t ht hW => ⟨⟨(((p0 + r_1) - 1) / r_1), (), rfl, e1, by rw [ht]; exact hP, va_K.moved hW.alike hK, hD⟩, hS.F ht⟩) hS.2.2 d_Ed_clustersFor_24
  · have h := lf_f h c_2
    refine lv_iconst (v := 0) hx hb d_Ed_clustersFor_13 (by decide) ?_
    refine lv_goto (tgt := 24) hx hb d_Ed_clustersFor_14 (by decide) ?_
    rw [hQ]
    have e1 : (0 : Int32) = r := congrArg Prod.fst (Option.some.inj h)
    have e2 : S_1 = S' := congrArg Prod.snd (Option.some.inj h)
    have hP := ly_newP e2.symm hP
    have hD := ly_newD e2.symm hD
    exact W.iret (v := 0) hx hb hr (fun t ht hW => ⟨⟨0, (), rfl, e1, by rw [ht]; exact hP, va_K.moved hW.alike hK, hD⟩, hS.F ht⟩) hS.2.2 d_Ed_clustersFor_24
set_option maxHeartbeats 4000000 in
set_option maxRecDepth 100000 in
theorem l_Ed_canHold (l : Launch) (dC : Nat → ClassId) (dI : Nat → Nat → Nat) {K : Nat} {M : CA} {E : (Nat → Prop) → State → Prop} (X : ly_X l dC dI K M E) (sz : Nat) {Y : CT} {G : CG} {S S' : CS} {p0 : Int32} {p1 : Int32} {r : Int32} (h : f_Ed_canHold K G S p0 p1 = some (r, S')) : Met l y_Ed_canHold (.code y_Ed_canHold cb_Ed_canHold 4 (some .boolean) :: V_Vq) ({ frames := 2, cells := 0, slots := 0, locals := 43 }) (va_Pc [.ref M.o_Ed, .int p0, .int p1] (fun U => U.heap.size = sz ∧ at_ (dC, dI) (fun _ => True) (wV M Y G S) (tV M) U ∧ E (va_A (wV M Y G S) sz) U)) (va_Qi (fun (r_ : Int32) (u : Unit) => r_ = r) (fun (u : Unit) t => at_ (dC, dI) (va_A (wV M Y G S) sz) (wV M Y G S') (tV M) t) (va_A (wV M Y G S) sz)) 0 0 (va_A (wV M Y G S) sz) := by
  refine Met.ofW (cc := cb_Ed_canHold) (maxL := 4) (ret := (some .boolean)) (by decide) rfl ?_
  intro p e s m args below meth c s₁ B hml hv
  obtain ⟨rfl, hsz, ⟨hP, hK, hD0⟩, hE⟩ := hv
  have hx := B.exec
  have hb := B.bytes
  have hr := B.returns
  have hts0 := atoms_spec (ws := .code y_Ed_canHold cb_Ed_canHold 4 (some .boolean) :: V_Vq) B.pre
  have hts : ∀ w ∈ V_Vq, w.before ([.ref M.o_Ed, .int p0, .int p1] : List Value).toArray s = true := fun w h => hts0 w (List.mem_cons_of_mem _ h)
  have hown : s.vm.findClass R_Ed = some m.cls := findClass_of_methodNamed B.named
  subst hsz
  have hD := hD0.self (sz := s.heap.size)
  generalize hAe : va_A (wV M Y G S) s.heap.size = A at hD hE ⊢
  have hA : ∀ q : Nat, s.heap.size ≤ q → A q := fun q h => by rw [← hAe]; exact Or.inr h
  have hS : va_S A s.heap s.heap [] := va_S.rf
  have hP : va_P (dC, dI) classes (wV M Y G S) s.heap := hP
  have hK : va_K (dC, dI) classes (tV M) s := hK
  have hEw : ∀ (H : Heap) (locs : List Loc), va_S A s.heap H locs → ∀ U : State, U.heap = H → s.WarmedH U.vm → E A U := fun H locs hS U hU hW => X.kept A s U H locs hE hS hU hW
  have hl := lv_entry ([.ref M.o_Ed, .int p0, .int p1]) (n := 4) (Nat.le_of_ble_eq_true rfl)
  rw [lg_entry_eq]
  generalize (lg_sl ([.ref M.o_Ed, .int p0, .int p1]) ++ List.replicate (4 - (lg_sl ([.ref M.o_Ed, .int p0, .int p1])).length) Slot.unset).toArray = ls at hl ⊢
  have hl : lv_has ls 4 [(0, .ref M.o_Ed), (1, .int p0), (2, .int p1)] := hl
  refine qabs (fun Q hQ => ?_)
  rw [f_Ed_canHold] at h
  refine lv_aload_n hx hb d_Ed_canHold_0 rfl (lv_at hl 0 rfl) ?_
  refine va_get (D := (dC, dI)) (ci := 8) (v := .ref M.o_Tr) (C := R_Ed) (T := F_Ed) (N := 13) hx hb hts (fun w h => u_Vq_Ed w (i_Ed w h)) hown hK hP 6 rfl rfl 2 (by decide) (hts _ (u_Vq_Ed _ k_Ed_9)) (fun _ h9 => h9) rfl d_Ed_canHold_1 ?_
  refine lv_iload_n hx hb d_Ed_canHold_4 rfl (lv_at hl 1 rfl) ?_
  obtain ⟨r_1, S_1, hc_1, h⟩ := lf_cE h
  have hFc := lx_free hD hS hA
  refine va_calli (va_runV (As := [.int p0]) (rest := []) ⟨hx, hb, hml, hown, hts⟩ (l_Tr_sizeOf l dC dI X _ hc_1) (cwV 1 hts (gwV good_Vq (u_Vq_Ed _ k_Ed_108) (u_Vq_Tr _ k_Tr_88) (u_Vq_Tr _ k_Tr_89) (u_Vq_Tr _ k_Tr_0) (wcs (u_Vq_Tr _ k_Tr_90) (fun _ h => h))) rfl rfl rfl (by decide +kernel) ⟨Nat.le_of_ble_eq_true rfl, Nat.le_of_ble_eq_true rfl⟩) (pv_ofE (X.same _) (fun U z1 z2 => X.mono _ _ U hFc (hEw _ _ hS U z1 z2)) hP hK hD (va_recv hK hP (ci := 5) (q0 := 4) rfl rfl)) rfl rfl hl.1 rfl (lv_room (Nat.le_of_ble_eq_true rfl)) d_Ed_canHold_5 ⟨by decide, by decide⟩) hS (fun q _ h => hFc q h) hFc (fun r_ u t H locs ht hvm hw hB hz1 hk1 hS => ?_)
  rw [hw]
  obtain ⟨hP, -, hD⟩ := hB
  rw [ht] at hP
  have hD := lx_dj hD hFc
  refine lv_istore_n (lv' := [(3, .int r_1), (0, .ref M.o_Ed), (1, .int p0), (2, .int p1)]) hx hb d_Ed_canHold_8 rfl hl (by decide) rfl (fun ls hl => ?_)
  refine lv_aload_n hx hb d_Ed_canHold_9 rfl (lv_at hl 1 rfl) ?_
  refine lv_iload_n hx hb d_Ed_canHold_10 rfl (lv_at hl 0 rfl) ?_
  refine lv_iload_n hx hb d_Ed_canHold_11 rfl (lv_at hl 3 rfl) ?_
  refine lv_iadd hx hb d_Ed_canHold_12 ?_
  obtain ⟨r_2, S_2, hc_2, h⟩ := lf_cE h
  have hFc := lx_free hD hS hA
  refine va_calli (va_runV (As := [.int (r_1 + p1)]) (rest := []) ⟨hx, hb, hml, hown, hts⟩ (l_Ed_clustersFor l dC dI X _ hc_2) (cwV 1 hts (gwV good_Vq (u_Vq_Ed _ k_Ed_109) (u_Vq_Ed _ k_Ed_110) (u_Vq_Ed _ k_Ed_142) (u_Vq_Ed _ k_Ed_0) (wcs (u_Vq_Ed _ k_Ed_111) (fun _ h => h))) rfl rfl rfl (by decide +kernel) ⟨Nat.le_of_ble_eq_true rfl, Nat.le_of_ble_eq_true rfl⟩) (pv_ofE (X.same _) (fun U z1 z2 => X.mono _ _ U hFc (hEw _ _ hS U z1 z2)) hP hK hD (va_recv hK hP (ci := 8) (q0 := 6) rfl rfl)) rfl rfl hl.1 rfl (lv_room (Nat.le_of_ble_eq_true rfl)) d_Ed_canHold_13 ⟨by decide, by decide⟩) hS (fun q _ h => hFc q h) hFc (fun r_ u t H locs ht hvm hw hB hz1 hk1 hS => ?_)
  rw [hw]
  obtain ⟨hP, -, hD⟩ := hB
  rw [ht] at hP
  have hD := lx_dj hD hFc
  refine lv_aload_n hx hb d_Ed_canHold_16 rfl (lv_at hl 1 rfl) ?_
  refine lv_iload_n hx hb d_Ed_canHold_17 rfl (lv_at hl 0 rfl) ?_
  obtain ⟨r_3, S_3, hc_3, h⟩ := lf_cE h
  have hFc := lx_free hD hS hA
  refine va_calli (va_runV (As := [.int r_1]) (rest := [.int r_2]) ⟨hx, hb, hml, hown, hts⟩ (l_Ed_clustersFor l dC dI X _ hc_3) (cwV 1 hts (gwV good_Vq (u_Vq_Ed _ k_Ed_109) (u_Vq_Ed _ k_Ed_110) (u_Vq_Ed _ k_Ed_142) (u_Vq_Ed _ k_Ed_0) (wcs (u_Vq_Ed _ k_Ed_111) (fun _ h => h))) rfl rfl rfl (by decide +kernel) ⟨Nat.le_of_ble_eq_true rfl, Nat.le_of_ble_eq_true rfl⟩) (pv_ofE (X.same _) (fun U z1 z2 => X.mono _ _ U hFc (hEw _ _ hS U z1 z2)) hP hK hD (va_recv hK hP (ci := 8) (q0 := 6) rfl rfl)) rfl rfl hl.1 rfl (lv_room (Nat.le_of_ble_eq_true rfl)) d_Ed_canHold_18 ⟨by decide, by decide⟩) hS (fun q _ h => hFc q h) hFc (fun r_ u t H locs ht hvm hw hB hz1 hk1 hS => ?_)
  rw [hw]
  obtain ⟨hP, -, hD⟩ := hB
  rw [ht] at hP
  have hD := lx_dj hD hFc
  refine lv_isub hx hb d_Ed_canHold_21 ?_
  refine lv_aload_n hx hb d_Ed_canHold_22 rfl (lv_at hl 1 rfl) ?_
  refine va_get (D := (dC, dI)) (ci := 8) (v := .ref M.o_Tb) (C := R_Ed) (T := F_Ed) (N := 13) hx hb hts (fun w h => u_Vq_Ed w (i_Ed w h)) hown hK hP 6 rfl rfl 1 (by decide) (hts _ (u_Vq_Ed _ k_Ed_8)) (fun _ h9 => h9) rfl d_Ed_canHold_23 ?_
  obtain ⟨r_4, S_4, hc_4, h⟩ := lf_cE h
  have hFc := lx_free hD hS hA
  refine va_calli (va_runV (As := []) (rest := [.int (r_2 - r_3)]) ⟨hx, hb, hml, hown, hts⟩ (l_Tb_countFree l dC dI X _ hc_4) (cwV 0 hts (gwV good_Vq (u_Vq_Ed _ k_Ed_68) (u_Vq_Tb _ k_Tb_100) (u_Vq_Tb _ k_Tb_101) (u_Vq_Tb _ k_Tb_0) (wcs (u_Vq_Tb _ k_Tb_102) (fun _ h => h))) rfl rfl rfl (by decide +kernel) ⟨Nat.le_of_ble_eq_true rfl, Nat.le_of_ble_eq_true rfl⟩) (pv_ofE (X.same _) (fun U z1 z2 => X.mono _ _ U hFc (hEw _ _ hS U z1 z2)) hP hK hD (va_recv hK hP (ci := 4) (q0 := 3) rfl rfl)) rfl rfl hl.1 rfl (lv_room (Nat.le_of_ble_eq_true rfl)) d_Ed_canHold_26 ⟨by decide, by decide⟩) hS (fun q _ h => hFc q h) hFc (fun r_ u t H locs ht hvm hw hB hz1 hk1 hS => ?_)
  rw [hw]
  obtain ⟨hP, -, hD⟩ := hB
  rw [ht] at hP
  have hD := lx_dj hD hFc
  refine lv_icmp_gt (tgt := 36) hx hb d_Ed_canHold_29 (by decide) (fun c_5 => ?_) (fun c_5 => ?_)
  · have h := lf_t h c_5
    refine lv_iconst (v := 0) hx hb d_Ed_canHold_36 (by decide) ?_
    rw [hQ]
    have e1 : (0 : Int32) = r := congrArg Prod.fst (Option.some.inj h)
    have e2 : S_4 = S' := congrArg Prod.snd (Option.some.inj h)
    have hP := ly_newP e2.symm hP
    have hD := ly_newD e2.symm hD
    exact W.zret (v := 0) hx hb hr rfl (fun t ht hW => ⟨⟨0, (), rfl, e1, by rw [ht]; exact hP, va_K.moved hW.alike hK, hD⟩, hS.F ht⟩) hS.2.2 d_Ed_canHold_37
  · have h := lf_f h c_5
    refine lv_iconst (v := 1) hx hb d_Ed_canHold_32 (by decide) ?_
    refine lv_goto (tgt := 37) hx hb d_Ed_canHold_33 (by decide) ?_
    rw [hQ]
    have e1 : (1 : Int32) = r := congrArg Prod.fst (Option.some.inj h)
    have e2 : S_4 = S' := congrArg Prod.snd (Option.some.inj h)
    have hP := ly_newP e2.symm hP
    have hD := ly_newD e2.symm hD
    exact W.zret (v := 1) hx hb hr rfl (fun t ht hW => ⟨⟨1, (), rfl, e1, by rw [ht]; exact hP, va_K.moved hW.alike hK, hD⟩, hS.F ht⟩) hS.2.2 d_Ed_canHold_37
set_option maxHeartbeats 4000000 in
set_option maxRecDepth 100000 in
theorem l_Ed_lengthen (l : Launch) (dC : Nat → ClassId) (dI : Nat → Nat → Nat) {K : Nat} {M : CA} {E : (Nat → Prop) → State → Prop} (X : ly_X l dC dI K M E) (sz : Nat) {Y : CT} {G : CG} {S S' : CS} {p0 : Int32} {p1 : Int32} (h : f_Ed_lengthen K G S p0 p1 = some S') : Met l y_Ed_lengthen (.code y_Ed_lengthen cb_Ed_lengthen 7 none :: V_Vq) ({ frames := 5, cells := 0, slots := 0, locals := 110 }) (va_Pc [.ref M.o_Ed, .int p0, .int p1] (fun U => U.heap.size = sz ∧ at_ (dC, dI) (fun _ => True) (wV M Y G S) (tV M) U ∧ E (va_A (wV M Y G S) sz) U)) (va_Qv (fun (u : Unit) => True) (fun (u : Unit) t => at_ (dC, dI) (va_A (wV M Y G S) sz) (wV M Y G S') (tV M) t) (va_A (wV M Y G S) sz)) 0 0 (va_A (wV M Y G S) sz) := by
  refine Met.ofW (cc := cb_Ed_lengthen) (maxL := 7) (ret := none) (by decide) rfl ?_
  intro p e s m args below meth c s₁ B hml hv
  obtain ⟨rfl, hsz, ⟨hP, hK, hD0⟩, hE⟩ := hv
  have hx := B.exec
  have hb := B.bytes
  have hr := B.returns
  have hts0 := atoms_spec (ws := .code y_Ed_lengthen cb_Ed_lengthen 7 none :: V_Vq) B.pre
  have hts : ∀ w ∈ V_Vq, w.before ([.ref M.o_Ed, .int p0, .int p1] : List Value).toArray s = true := fun w h => hts0 w (List.mem_cons_of_mem _ h)
  have hown : s.vm.findClass R_Ed = some m.cls := findClass_of_methodNamed B.named
  subst hsz
  have hD := hD0.self (sz := s.heap.size)
  generalize hAe : va_A (wV M Y G S) s.heap.size = A at hD hE ⊢
  have hA : ∀ q : Nat, s.heap.size ≤ q → A q := fun q h => by rw [← hAe]; exact Or.inr h
  have hS : va_S A s.heap s.heap [] := va_S.rf
  have hP : va_P (dC, dI) classes (wV M Y G S) s.heap := hP
  have hK : va_K (dC, dI) classes (tV M) s := hK
  have hEw : ∀ (H : Heap) (locs : List Loc), va_S A s.heap H locs → ∀ U : State, U.heap = H → s.WarmedH U.vm → E A U := fun H locs hS U hU hW => X.kept A s U H locs hE hS hU hW
  have hl := lv_entry ([.ref M.o_Ed, .int p0, .int p1]) (n := 7) (Nat.le_of_ble_eq_true rfl)
  rw [lg_entry_eq]
  generalize (lg_sl ([.ref M.o_Ed, .int p0, .int p1]) ++ List.replicate (7 - (lg_sl ([.ref M.o_Ed, .int p0, .int p1])).length) Slot.unset).toArray = ls at hl ⊢
  have hl : lv_has ls 7 [(0, .ref M.o_Ed), (1, .int p0), (2, .int p1)] := hl
  refine qabs (fun Q hQ => ?_)
  have hB_85 : ∀ (k : Nat), ∀ (y_2 : Int32) (y_3 : Int32) (y_4 : Int32) (y_5 : Int32) (y_6 : Int32) (S : CS) (H : Heap) (locs : List Loc) (ls : Array Slot), f_Ed_lengthen_85 K G k y_2 y_3 y_4 y_5 y_6 S = some S' → va_P (dC, dI) classes (wV M Y G S) H → va_D A (wV M Y G S) → va_S A s.heap H locs → lv_has ls 7 [(0, .ref M.o_Ed), (2, .int y_2), (3, .int y_3), (4, .int y_4), (5, .int y_5), (6, .int y_6)] → W p l e ({ frames := 5, cells := 0, slots := 0, locals := 110 }) s m ([.ref M.o_Ed, .int p0, .int p1] : List Value).toArray below meth c H locs 0 0 Q (F0 m 85 ls []) := by
    intro k
    induction k with
    | zero => intro y_2 y_3 y_4 y_5 y_6 S H locs ls h; exact lf_no h
    | succ k hr_85 =>
      intro y_2 y_3 y_4 y_5 y_6 S H locs ls h hP hD hS hl
      rw [f_Ed_lengthen_85] at h
      refine lv_iload hx hb d_Ed_lengthen_85 (lv_at hl 5 rfl) ?_
      refine lv_iload hx hb d_Ed_lengthen_87 (lv_at hl 4 rfl) ?_
      refine lv_icmp_ge (tgt := 102) hx hb d_Ed_lengthen_89 (by decide) (fun c_13 => ?_) (fun c_13 => ?_)
      · have h := lf_t h c_13
        refine lv_aload_n hx hb d_Ed_lengthen_102 rfl (lv_at hl 0 rfl) ?_
        refine va_get (D := (dC, dI)) (ci := 8) (v := .ref M.o_Dk) (C := R_Ed) (T := F_Ed) (N := 13) hx hb hts (fun w h => u_Vq_Ed w (i_Ed w h)) hown hK hP 6 rfl rfl 0 (by decide) (hts _ (u_Vq_Ed _ k_Ed_7)) (fun _ h9 => h9) rfl d_Ed_lengthen_103 ?_
        refine lv_iload_n hx hb d_Ed_lengthen_106 rfl (lv_at hl 2 rfl) ?_
        refine lv_bipush (v := 28) hx hb d_Ed_lengthen_107 (by decide) ?_
        refine lv_iadd hx hb d_Ed_lengthen_109 ?_
        refine lv_iload hx hb d_Ed_lengthen_110 (lv_at hl 3 rfl) ?_
        refine lv_iload_n hx hb d_Ed_lengthen_112 rfl (lv_at hl 1 rfl) ?_
        refine lv_iadd hx hb d_Ed_lengthen_113 ?_
        obtain ⟨S_14, hc_14, h⟩ := lf_bE h
        have hFc := lx_free hD hS hA
        refine va_callv (va_runV (As := [.int (y_3 + 28), .int (y_4 + y_2)]) (rest := []) ⟨hx, hb, hml, hown, hts⟩ (l_Dk_putFour l dC dI X _ hc_14) (cwV 2 hts (gwV good_Vq (u_Vq_Ed _ k_Ed_115) (u_Vq_Dk _ k_Dk_30) (u_Vq_Dk _ k_Dk_31) (u_Vq_Dk _ k_Dk_0) (wcs (u_Vq_Dk _ k_Dk_32) (fun _ h => h))) rfl rfl rfl (by decide +kernel) ⟨Nat.le_of_ble_eq_true rfl, Nat.le_of_ble_eq_true rfl⟩) (pv_ofE (X.same _) (fun U z1 z2 => X.mono _ _ U hFc (hEw _ _ hS U z1 z2)) hP hK hD (va_recv hK hP (ci := 0) (q0 := 1) rfl rfl)) rfl rfl hl.1 rfl (lv_room (Nat.le_of_ble_eq_true rfl)) d_Ed_lengthen_114 ⟨by decide, by decide⟩) hS (fun q _ h => hFc q h) hFc (fun u t H locs ht hvm hw hB hz1 hk1 hS => ?_)
        obtain ⟨hP, -, hD⟩ := hB
        rw [ht] at hP
        have hD := lx_dj hD hFc
        rw [hQ]
        have e2 : S_14 = S' := Option.some.inj h
        have hP := ly_newP e2.symm hP
        have hD := ly_newD e2.symm hD
        exact W.vret hx hb hr (fun t ht hW => ⟨⟨(), rfl, trivial, by rw [ht]; exact hP, va_K.moved hW.alike hK, hD⟩, hS.F ht⟩) hS.2.2 d_Ed_lengthen_117
      · have h := lf_f h c_13
        refine lv_aload_n hx hb d_Ed_lengthen_92 rfl (lv_at hl 0 rfl) ?_
        obtain ⟨S_15, hc_15, h⟩ := lf_bE h
        have hFc := lx_free hD hS hA
        refine va_callv (va_runV (As := []) (rest := []) ⟨hx, hb, hml, hown, hts⟩ (l_Ed_lengthenRoad l dC dI X _ hc_15) (cwV 0 hts (gwV good_Vq (u_Vq_Ed _ k_Ed_84) (u_Vq_Ed _ k_Ed_85) (u_Vq_Ed _ k_Ed_137) (u_Vq_Ed _ k_Ed_0) (wcs (u_Vq_Ed _ k_Ed_86) (fun _ h => h))) rfl rfl rfl (by decide +kernel) ⟨Nat.le_of_ble_eq_true rfl, Nat.le_of_ble_eq_true rfl⟩) (pv_ofE (X.same _) (fun U z1 z2 => X.mono _ _ U hFc (hEw _ _ hS U z1 z2)) hP hK hD (va_recv hK hP (ci := 8) (q0 := 6) rfl rfl)) rfl rfl hl.1 rfl (lv_room (Nat.le_of_ble_eq_true rfl)) d_Ed_lengthen_93 ⟨by decide, by decide⟩) hS (fun q _ h => hFc q h) hFc (fun u t H locs ht hvm hw hB hz1 hk1 hS => ?_)
        obtain ⟨hP, -, hD⟩ := hB
        rw [ht] at hP
        have hD := lx_dj hD hFc
        obtain ⟨x_16, ex_16, h⟩ := lf_lX h
        refine lv_iinc (v := x_16) (lv' := [(6, .int x_16), (0, .ref M.o_Ed), (2, .int y_2), (3, .int y_3), (4, .int y_4), (5, .int y_5)]) hx hb d_Ed_lengthen_96 hl (k := 5) rfl (by rw [ex_16]; rfl) (by decide) rfl (fun ls hl => ?_)
        refine lv_goto (tgt := 85) hx hb d_Ed_lengthen_99 (by decide) ?_
        exact hr_85 y_2 y_3 y_4 y_5 x_16 S_15 _ _ _ h hP hD hS (lv_sub hl [1, 2, 3, 4, 5, 0] rfl)
  have hB_79 : ∀ (y_2 : Int32) (y_3 : Int32) (y_4 : Int32) (y_5 : Int32) (S : CS) (H : Heap) (locs : List Loc) (ls : Array Slot), f_Ed_lengthen_79 K G y_2 y_3 y_4 y_5 S = some S' → va_P (dC, dI) classes (wV M Y G S) H → va_D A (wV M Y G S) → va_S A s.heap H locs → lv_has ls 7 [(0, .ref M.o_Ed), (2, .int y_2), (3, .int y_3), (4, .int y_4), (5, .int y_5)] → W p l e ({ frames := 5, cells := 0, slots := 0, locals := 110 }) s m ([.ref M.o_Ed, .int p0, .int p1] : List Value).toArray below meth c H locs 0 0 Q (F0 m 79 ls []) := by
    intro y_2 y_3 y_4 y_5 S H locs ls h hP hD hS hl
    rw [f_Ed_lengthen_79] at h
    refine lv_aload_n hx hb d_Ed_lengthen_79 rfl (lv_at hl 0 rfl) ?_
    refine va_get (D := (dC, dI)) (ci := 8) (v := .int S.v_Ed_roadLength) (C := R_Ed) (T := F_Ed) (N := 13) hx hb hts (fun w h => u_Vq_Ed w (i_Ed w h)) hown hK hP 6 rfl rfl 4 (by decide) (hts _ (u_Vq_Ed _ k_Ed_11)) (fun _ h9 => h9) rfl d_Ed_lengthen_80 ?_
    refine lv_topi (fun x_12 ex_12 => ?_)
    have h := lf_lE h ex_12
    refine lv_istore (lv' := [(6, .int x_12), (0, .ref M.o_Ed), (2, .int y_2), (3, .int y_3), (4, .int y_4), (5, .int y_5)]) hx hb d_Ed_lengthen_83 hl (by decide) rfl (fun ls hl => ?_)
    exact hB_85 K y_2 y_3 y_4 y_5 x_12 S _ _ _ h hP hD hS (lv_sub hl [1, 2, 3, 4, 5, 0] rfl)
  rw [f_Ed_lengthen] at h
  refine lv_aload_n hx hb d_Ed_lengthen_0 rfl (lv_at hl 0 rfl) ?_
  refine va_get (D := (dC, dI)) (ci := 8) (v := .ref M.o_Tr) (C := R_Ed) (T := F_Ed) (N := 13) hx hb hts (fun w h => u_Vq_Ed w (i_Ed w h)) hown hK hP 6 rfl rfl 2 (by decide) (hts _ (u_Vq_Ed _ k_Ed_9)) (fun _ h9 => h9) rfl d_Ed_lengthen_1 ?_
  refine lv_iload_n hx hb d_Ed_lengthen_4 rfl (lv_at hl 1 rfl) ?_
  obtain ⟨r_1, S_1, hc_1, h⟩ := lf_cE h
  have hFc := lx_free hD hS hA
  refine va_calli (va_runV (As := [.int p0]) (rest := []) ⟨hx, hb, hml, hown, hts⟩ (l_Tr_spotOf l dC dI X _ hc_1) (cwV 1 hts (gwV good_Vq (u_Vq_Ed _ k_Ed_58) (u_Vq_Tr _ k_Tr_57) (u_Vq_Tr _ k_Tr_58) (u_Vq_Tr _ k_Tr_0) (wcs (u_Vq_Tr _ k_Tr_59) (fun _ h => h))) rfl rfl rfl (by decide +kernel) ⟨Nat.le_of_ble_eq_true rfl, Nat.le_of_ble_eq_true rfl⟩) (pv_ofE (X.same _) (fun U z1 z2 => X.mono _ _ U hFc (hEw _ _ hS U z1 z2)) hP hK hD (va_recv hK hP (ci := 5) (q0 := 4) rfl rfl)) rfl rfl hl.1 rfl (lv_room (Nat.le_of_ble_eq_true rfl)) d_Ed_lengthen_5 ⟨by decide, by decide⟩) hS (fun q _ h => hFc q h) hFc (fun r_ u t H locs ht hvm hw hB hz1 hk1 hS => ?_)
  rw [hw]
  obtain ⟨hP, -, hD⟩ := hB
  rw [ht] at hP
  have hD := lx_dj hD hFc
  refine lv_istore_n (lv' := [(3, .int r_1), (0, .ref M.o_Ed), (1, .int p0), (2, .int p1)]) hx hb d_Ed_lengthen_8 rfl hl (by decide) rfl (fun ls hl => ?_)
  refine lv_aload_n hx hb d_Ed_lengthen_9 rfl (lv_at hl 1 rfl) ?_
  refine va_get (D := (dC, dI)) (ci := 8) (v := .ref M.o_Tr) (C := R_Ed) (T := F_Ed) (N := 13) hx hb hts (fun w h => u_Vq_Ed w (i_Ed w h)) hown hK hP 6 rfl rfl 2 (by decide) (hts _ (u_Vq_Ed _ k_Ed_9)) (fun _ h9 => h9) rfl d_Ed_lengthen_10 ?_
  refine lv_iload_n hx hb d_Ed_lengthen_13 rfl (lv_at hl 2 rfl) ?_
  obtain ⟨r_2, S_2, hc_2, h⟩ := lf_cE h
  have hFc := lx_free hD hS hA
  refine va_calli (va_runV (As := [.int p0]) (rest := []) ⟨hx, hb, hml, hown, hts⟩ (l_Tr_sizeOf l dC dI X _ hc_2) (cwV 1 hts (gwV good_Vq (u_Vq_Ed _ k_Ed_108) (u_Vq_Tr _ k_Tr_88) (u_Vq_Tr _ k_Tr_89) (u_Vq_Tr _ k_Tr_0) (wcs (u_Vq_Tr _ k_Tr_90) (fun _ h => h))) rfl rfl rfl (by decide +kernel) ⟨Nat.le_of_ble_eq_true rfl, Nat.le_of_ble_eq_true rfl⟩) (pv_ofE (X.same _) (fun U z1 z2 => X.mono _ _ U hFc (hEw _ _ hS U z1 z2)) hP hK hD (va_recv hK hP (ci := 5) (q0 := 4) rfl rfl)) rfl rfl hl.1 rfl (lv_room (Nat.le_of_ble_eq_true rfl)) d_Ed_lengthen_14 ⟨by decide, by decide⟩) hS (fun q _ h => hFc q h) hFc (fun r_ u t H locs ht hvm hw hB hz1 hk1 hS => ?_)
  rw [hw]
  obtain ⟨hP, -, hD⟩ := hB
  rw [ht] at hP
  have hD := lx_dj hD hFc
  refine lv_istore (lv' := [(4, .int r_2), (3, .int r_1), (0, .ref M.o_Ed), (1, .int p0), (2, .int p1)]) hx hb d_Ed_lengthen_17 hl (by decide) rfl (fun ls hl => ?_)
  refine lv_aload_n hx hb d_Ed_lengthen_19 rfl (lv_at hl 2 rfl) ?_
  refine lv_aload_n hx hb d_Ed_lengthen_20 rfl (lv_at hl 2 rfl) ?_
  refine va_get (D := (dC, dI)) (ci := 8) (v := .ref M.o_Tb) (C := R_Ed) (T := F_Ed) (N := 13) hx hb hts (fun w h => u_Vq_Ed w (i_Ed w h)) hown hK hP 6 rfl rfl 1 (by decide) (hts _ (u_Vq_Ed _ k_Ed_8)) (fun _ h9 => h9) rfl d_Ed_lengthen_21 ?_
  refine lv_aload_n hx hb d_Ed_lengthen_24 rfl (lv_at hl 2 rfl) ?_
  refine va_get (D := (dC, dI)) (ci := 8) (v := .ref M.o_Tr) (C := R_Ed) (T := F_Ed) (N := 13) hx hb hts (fun w h => u_Vq_Ed w (i_Ed w h)) hown hK hP 6 rfl rfl 2 (by decide) (hts _ (u_Vq_Ed _ k_Ed_9)) (fun _ h9 => h9) rfl d_Ed_lengthen_25 ?_
  refine lv_iload_n hx hb d_Ed_lengthen_28 rfl (lv_at hl 3 rfl) ?_
  obtain ⟨r_3, S_3, hc_3, h⟩ := lf_cE h
  have hFc := lx_free hD hS hA
  refine va_calli (va_runV (As := [.int p0]) (rest := [.ref M.o_Tb, .ref M.o_Ed]) ⟨hx, hb, hml, hown, hts⟩ (l_Tr_firstOf l dC dI X _ hc_3) (cwV 1 hts (gwV good_Vq (u_Vq_Ed _ k_Ed_30) (u_Vq_Tr _ k_Tr_45) (u_Vq_Tr _ k_Tr_46) (u_Vq_Tr _ k_Tr_0) (wcs (u_Vq_Tr _ k_Tr_47) (fun _ h => h))) rfl rfl rfl (by decide +kernel) ⟨Nat.le_of_ble_eq_true rfl, Nat.le_of_ble_eq_true rfl⟩) (pv_ofE (X.same _) (fun U z1 z2 => X.mono _ _ U hFc (hEw _ _ hS U z1 z2)) hP hK hD (va_recv hK hP (ci := 5) (q0 := 4) rfl rfl)) rfl rfl hl.1 rfl (lv_room (Nat.le_of_ble_eq_true rfl)) d_Ed_lengthen_29 ⟨by decide, by decide⟩) hS (fun q _ h => hFc q h) hFc (fun r_ u t H locs ht hvm hw hB hz1 hk1 hS => ?_)
  rw [hw]
  obtain ⟨hP, -, hD⟩ := hB
  rw [ht] at hP
  have hD := lx_dj hD hFc
  refine lv_aload_n hx hb d_Ed_lengthen_32 rfl (lv_at hl 2 rfl) ?_
  refine va_get (D := (dC, dI)) (ci := 8) (v := .ref M.a_Ed_road) (C := R_Ed) (T := F_Ed) (N := 13) hx hb hts (fun w h => u_Vq_Ed w (i_Ed w h)) hown hK hP 6 rfl rfl 3 (by decide) (hts _ (u_Vq_Ed _ k_Ed_10)) (fun _ h9 => h9) rfl d_Ed_lengthen_33 ?_
  obtain ⟨r_4, S_4, hc_4, h⟩ := lf_cE h
  have hFc := lx_free hD hS hA
  refine va_calli (va_runV (As := [.int r_3, .ref M.a_Ed_road]) (rest := [.ref M.o_Ed]) ⟨hx, hb, hml, hown, hts⟩ (l_Tb_road_Edroad l dC dI X _ hc_4) (cwV 2 hts (gwV good_Vq (u_Vq_Ed _ k_Ed_31) (u_Vq_Tb _ k_Tb_96) (u_Vq_Tb _ k_Tb_97) (u_Vq_Tb _ k_Tb_0) (wcs (u_Vq_Tb _ k_Tb_98) (fun _ h => h))) rfl rfl rfl (by decide +kernel) ⟨Nat.le_of_ble_eq_true rfl, Nat.le_of_ble_eq_true rfl⟩) (pv_ofE (X.same _) (fun U z1 z2 => X.mono _ _ U hFc (hEw _ _ hS U z1 z2)) hP hK hD (va_recv hK hP (ci := 4) (q0 := 3) rfl rfl)) rfl rfl hl.1 rfl (lv_room (Nat.le_of_ble_eq_true rfl)) d_Ed_lengthen_36 ⟨by decide, by decide⟩) hS (fun q _ h => hFc q h) hFc (fun r_ u t H locs ht hvm hw hB hz1 hk1 hS => ?_)
  rw [hw]
  obtain ⟨hP, -, hD⟩ := hB
  rw [ht] at hP
  have hD := lx_dj hD hFc
  refine va_put (D := (dC, dI)) (ci := 8) (v := .int r_4) (ty := .int) (C := R_Ed) (T := F_Ed) (N := 13) hx hb hts (fun w h => u_Vq_Ed w (i_Ed w h)) t_Ed t_Ed_ok n_Ed hown hK hP hD hS 6 rfl rfl 4 (by decide) (hts _ (u_Vq_Ed _ k_Ed_11)) (fun _ h9 => h9) rfl (by decide +kernel) rfl rfl (Nat.le_of_ble_eq_true rfl) d_Ed_lengthen_39 (fun H locs hP hD hS => ?_)
  obtain ⟨S_5, eS_5, h⟩ := lf_lX h
  have hP := ly_newP eS_5 hP
  have hD := ly_newD eS_5 hD
  refine lv_aload_n hx hb d_Ed_lengthen_42 rfl (lv_at hl 2 rfl) ?_
  refine lv_iload hx hb d_Ed_lengthen_43 (lv_at hl 0 rfl) ?_
  refine lv_iload_n hx hb d_Ed_lengthen_45 rfl (lv_at hl 4 rfl) ?_
  refine lv_iadd hx hb d_Ed_lengthen_46 ?_
  obtain ⟨r_6, S_6, hc_6, h⟩ := lf_cE h
  have hFc := lx_free hD hS hA
  refine va_calli (va_runV (As := [.int (r_2 + p1)]) (rest := []) ⟨hx, hb, hml, hown, hts⟩ (l_Ed_clustersFor l dC dI X _ hc_6) (cwV 1 hts (gwV good_Vq (u_Vq_Ed _ k_Ed_109) (u_Vq_Ed _ k_Ed_110) (u_Vq_Ed _ k_Ed_142) (u_Vq_Ed _ k_Ed_0) (wcs (u_Vq_Ed _ k_Ed_111) (fun _ h => h))) rfl rfl rfl (by decide +kernel) ⟨Nat.le_of_ble_eq_true rfl, Nat.le_of_ble_eq_true rfl⟩) (pv_ofE (X.same _) (fun U z1 z2 => X.mono _ _ U hFc (hEw _ _ hS U z1 z2)) hP hK hD (va_recv hK hP (ci := 8) (q0 := 6) rfl rfl)) rfl rfl hl.1 rfl (lv_room (Nat.le_of_ble_eq_true rfl)) d_Ed_lengthen_47 ⟨by decide, by decide⟩) hS (fun q _ h => hFc q h) hFc (fun r_ u t H locs ht hvm hw hB hz1 hk1 hS => ?_)
  rw [hw]
  obtain ⟨hP, -, hD⟩ := hB
  rw [ht] at hP
  have hD := lx_dj hD hFc
  refine lv_istore (lv' := [(5, .int r_6), (4, .int r_2), (3, .int r_1), (0, .ref M.o_Ed), (1, .int p0), (2, .int p1)]) hx hb d_Ed_lengthen_50 hl (by decide) rfl (fun ls hl => ?_)
  refine lv_aload_n hx hb d_Ed_lengthen_52 rfl (lv_at hl 3 rfl) ?_
  refine va_get (D := (dC, dI)) (ci := 8) (v := .int S_6.v_Ed_roadLength) (C := R_Ed) (T := F_Ed) (N := 13) hx hb hts (fun w h => u_Vq_Ed w (i_Ed w h)) hown hK hP 6 rfl rfl 4 (by decide) (hts _ (u_Vq_Ed _ k_Ed_11)) (fun _ h9 => h9) rfl d_Ed_lengthen_53 ?_
  refine lv_if_ne (tgt := 79) hx hb d_Ed_lengthen_56 (by decide) (fun c_7 => ?_) (fun c_7 => ?_)
  · have h := lf_f h c_7
    exact hB_79 p1 r_1 r_2 r_6 S_6 _ _ _ h hP hD hS (lv_sub hl [3, 5, 2, 1, 0] rfl)
  · have h := lf_t h c_7
    refine lv_iload hx hb d_Ed_lengthen_59 (lv_at hl 0 rfl) ?_
    refine lv_if_le (tgt := 79) hx hb d_Ed_lengthen_61 (by decide) (fun c_8 => ?_) (fun c_8 => ?_)
    · have h := lf_t h c_8
      exact hB_79 p1 r_1 r_2 r_6 S_6 _ _ _ h hP hD hS (lv_sub hl [3, 5, 2, 1, 0] rfl)
    · have h := lf_f h c_8
      refine lv_aload_n hx hb d_Ed_lengthen_64 rfl (lv_at hl 3 rfl) ?_
      obtain ⟨S_9, hc_9, h⟩ := lf_bE h
      have hFc := lx_free hD hS hA
      refine va_callv (va_runV (As := []) (rest := []) ⟨hx, hb, hml, hown, hts⟩ (l_Ed_lengthenRoad l dC dI X _ hc_9) (cwV 0 hts (gwV good_Vq (u_Vq_Ed _ k_Ed_84) (u_Vq_Ed _ k_Ed_85) (u_Vq_Ed _ k_Ed_137) (u_Vq_Ed _ k_Ed_0) (wcs (u_Vq_Ed _ k_Ed_86) (fun _ h => h))) rfl rfl rfl (by decide +kernel) ⟨Nat.le_of_ble_eq_true rfl, Nat.le_of_ble_eq_true rfl⟩) (pv_ofE (X.same _) (fun U z1 z2 => X.mono _ _ U hFc (hEw _ _ hS U z1 z2)) hP hK hD (va_recv hK hP (ci := 8) (q0 := 6) rfl rfl)) rfl rfl hl.1 rfl (lv_room (Nat.le_of_ble_eq_true rfl)) d_Ed_lengthen_65 ⟨by decide, by decide⟩) hS (fun q _ h => hFc q h) hFc (fun u t H locs ht hvm hw hB hz1 hk1 hS => ?_)
      obtain ⟨hP, -, hD⟩ := hB
      rw [ht] at hP
      have hD := lx_dj hD hFc
      refine lv_aload_n hx hb d_Ed_lengthen_68 rfl (lv_at hl 3 rfl) ?_
      refine lv_iload_n hx hb d_Ed_lengthen_69 rfl (lv_at hl 2 rfl) ?_
      refine lv_aload_n hx hb d_Ed_lengthen_70 rfl (lv_at hl 3 rfl) ?_
      refine va_get (D := (dC, dI)) (ci := 8) (v := .ref M.a_Ed_road) (C := R_Ed) (T := F_Ed) (N := 13) hx hb hts (fun w h => u_Vq_Ed w (i_Ed w h)) hown hK hP 6 rfl rfl 3 (by decide) (hts _ (u_Vq_Ed _ k_Ed_10)) (fun _ h9 => h9) rfl d_Ed_lengthen_71 ?_
      refine lv_iconst (v := 0) hx hb d_Ed_lengthen_74 (by decide) ?_
      obtain ⟨g_10, h⟩ := lf_gE h
      refine va_iald hx hb hK hP 36 2 rfl rfl g_10 d_Ed_lengthen_75 ?_
      obtain ⟨S_11, hc_11, h⟩ := lf_bE h
      have hFc := lx_free hD hS hA
      refine va_callv (va_runV (As := [.int r_1, .int (S_9.w_Ed_road (0 : Int32).toNatClampNeg)]) (rest := []) ⟨hx, hb, hml, hown, hts⟩ (l_Ed_putFirstCluster l dC dI X _ hc_11) (cwV 2 hts (gwV good_Vq (u_Vq_Ed _ k_Ed_92) (u_Vq_Ed _ k_Ed_93) (u_Vq_Ed _ k_Ed_139) (u_Vq_Ed _ k_Ed_0) (wcs (u_Vq_Ed _ k_Ed_94) (fun _ h => h))) rfl rfl rfl (by decide +kernel) ⟨Nat.le_of_ble_eq_true rfl, Nat.le_of_ble_eq_true rfl⟩) (pv_ofE (X.same _) (fun U z1 z2 => X.mono _ _ U hFc (hEw _ _ hS U z1 z2)) hP hK hD (va_recv hK hP (ci := 8) (q0 := 6) rfl rfl)) rfl rfl hl.1 rfl (lv_room (Nat.le_of_ble_eq_true rfl)) d_Ed_lengthen_76 ⟨by decide, by decide⟩) hS (fun q _ h => hFc q h) hFc (fun u t H locs ht hvm hw hB hz1 hk1 hS => ?_)
      obtain ⟨hP, -, hD⟩ := hB
      rw [ht] at hP
      have hD := lx_dj hD hFc
      exact hB_79 p1 r_1 r_2 r_6 S_11 _ _ _ h hP hD hS (lv_sub hl [3, 5, 2, 1, 0] rfl)
set_option maxHeartbeats 4000000 in
set_option maxRecDepth 100000 in
theorem l_Ed_placeOnRoad (l : Launch) (dC : Nat → ClassId) (dI : Nat → Nat → Nat) {K : Nat} {M : CA} {E : (Nat → Prop) → State → Prop} (X : ly_X l dC dI K M E) (sz : Nat) {Y : CT} {G : CG} {S S' : CS} {p0 : Int32} {r : Int32} (h : f_Ed_placeOnRoad K G S p0 = some (r, S')) : Met l y_Ed_placeOnRoad (.code y_Ed_placeOnRoad cb_Ed_placeOnRoad 3 (some .int) :: V_Vq) ({ frames := 1, cells := 0, slots := 0, locals := 21 }) (va_Pc [.ref M.o_Ed, .int p0] (fun U => U.heap.size = sz ∧ at_ (dC, dI) (fun _ => True) (wV M Y G S) (tV M) U ∧ E (va_A (wV M Y G S) sz) U)) (va_Qi (fun (r_ : Int32) (u : Unit) => r_ = r) (fun (u : Unit) t => at_ (dC, dI) (va_A (wV M Y G S) sz) (wV M Y G S') (tV M) t) (va_A (wV M Y G S) sz)) 0 0 (va_A (wV M Y G S) sz) := by
  refine Met.ofW (cc := cb_Ed_placeOnRoad) (maxL := 3) (ret := (some .int)) (by decide) rfl ?_
  intro p e s m args below meth c s₁ B hml hv
  obtain ⟨rfl, hsz, ⟨hP, hK, hD0⟩, hE⟩ := hv
  have hx := B.exec
  have hb := B.bytes
  have hr := B.returns
  have hts0 := atoms_spec (ws := .code y_Ed_placeOnRoad cb_Ed_placeOnRoad 3 (some .int) :: V_Vq) B.pre
  have hts : ∀ w ∈ V_Vq, w.before ([.ref M.o_Ed, .int p0] : List Value).toArray s = true := fun w h => hts0 w (List.mem_cons_of_mem _ h)
  have hown : s.vm.findClass R_Ed = some m.cls := findClass_of_methodNamed B.named
  subst hsz
  have hD := hD0.self (sz := s.heap.size)
  generalize hAe : va_A (wV M Y G S) s.heap.size = A at hD hE ⊢
  have hA : ∀ q : Nat, s.heap.size ≤ q → A q := fun q h => by rw [← hAe]; exact Or.inr h
  have hS : va_S A s.heap s.heap [] := va_S.rf
  have hP : va_P (dC, dI) classes (wV M Y G S) s.heap := hP
  have hK : va_K (dC, dI) classes (tV M) s := hK
  have hEw : ∀ (H : Heap) (locs : List Loc), va_S A s.heap H locs → ∀ U : State, U.heap = H → s.WarmedH U.vm → E A U := fun H locs hS U hU hW => X.kept A s U H locs hE hS hU hW
  have hl := lv_entry ([.ref M.o_Ed, .int p0]) (n := 3) (Nat.le_of_ble_eq_true rfl)
  rw [lg_entry_eq]
  generalize (lg_sl ([.ref M.o_Ed, .int p0]) ++ List.replicate (3 - (lg_sl ([.ref M.o_Ed, .int p0])).length) Slot.unset).toArray = ls at hl ⊢
  have hl : lv_has ls 3 [(0, .ref M.o_Ed), (1, .int p0)] := hl
  refine qabs (fun Q hQ => ?_)
  have hB_27 : ∀ (S : CS) (H : Heap) (locs : List Loc) (ls : Array Slot), f_Ed_placeOnRoad_27 K G S = some (r, S') → va_P (dC, dI) classes (wV M Y G S) H → va_D A (wV M Y G S) → va_S A s.heap H locs → lv_has ls 3 [] → W p l e ({ frames := 1, cells := 0, slots := 0, locals := 21 }) s m ([.ref M.o_Ed, .int p0] : List Value).toArray below meth c H locs 0 0 Q (F0 m 27 ls []) := by
    intro S H locs ls h hP hD hS hl
    rw [f_Ed_placeOnRoad_27] at h
    refine lv_iconst (v := (-1)) hx hb d_Ed_placeOnRoad_27 (by decide) ?_
    rw [hQ]
    have e1 : ((-1)) = r := congrArg Prod.fst (Option.some.inj h)
    have e2 : S = S' := congrArg Prod.snd (Option.some.inj h)
    have hP := ly_newP e2.symm hP
    have hD := ly_newD e2.symm hD
    exact W.iret (v := ((-1))) hx hb hr (fun t ht hW => ⟨⟨((-1)), (), rfl, e1, by rw [ht]; exact hP, va_K.moved hW.alike hK, hD⟩, hS.F ht⟩) hS.2.2 d_Ed_placeOnRoad_28
  rw [f_Ed_placeOnRoad] at h
  refine lv_aload_n hx hb d_Ed_placeOnRoad_0 rfl (lv_at hl 0 rfl) ?_
  refine va_get (D := (dC, dI)) (ci := 8) (v := .ref M.o_Tb) (C := R_Ed) (T := F_Ed) (N := 13) hx hb hts (fun w h => u_Vq_Ed w (i_Ed w h)) hown hK hP 6 rfl rfl 1 (by decide) (hts _ (u_Vq_Ed _ k_Ed_8)) (fun _ h9 => h9) rfl d_Ed_placeOnRoad_1 ?_
  obtain ⟨r_1, S_1, hc_1, h⟩ := lf_cE h
  have hFc := lx_free hD hS hA
  refine va_calli (va_runV (As := []) (rest := []) ⟨hx, hb, hml, hown, hts⟩ (l_Tb_clusterBytes l dC dI X _ hc_1) (cwV 0 hts (gwV good_Vq (u_Vq_Ed _ k_Ed_36) (u_Vq_Tb _ k_Tb_60) (u_Vq_Tb _ k_Tb_61) (u_Vq_Tb _ k_Tb_0) (wcs (u_Vq_Tb _ k_Tb_62) (fun _ h => h))) rfl rfl rfl (by decide +kernel) ⟨Nat.le_of_ble_eq_true rfl, Nat.le_of_ble_eq_true rfl⟩) (pv_ofE (X.same _) (fun U z1 z2 => X.mono _ _ U hFc (hEw _ _ hS U z1 z2)) hP hK hD (va_recv hK hP (ci := 4) (q0 := 3) rfl rfl)) rfl rfl hl.1 rfl (lv_room (Nat.le_of_ble_eq_true rfl)) d_Ed_placeOnRoad_4 ⟨by decide, by decide⟩) hS (fun q _ h => hFc q h) hFc (fun r_ u t H locs ht hvm hw hB hz1 hk1 hS => ?_)
  rw [hw]
  obtain ⟨hP, -, hD⟩ := hB
  rw [ht] at hP
  have hD := lx_dj hD hFc
  refine lv_istore_n (lv' := [(2, .int r_1), (0, .ref M.o_Ed), (1, .int p0)]) hx hb d_Ed_placeOnRoad_7 rfl hl (by decide) rfl (fun ls hl => ?_)
  refine lv_iload_n hx hb d_Ed_placeOnRoad_8 rfl (lv_at hl 0 rfl) ?_
  refine lv_iconst (v := 1) hx hb d_Ed_placeOnRoad_9 (by decide) ?_
  refine lv_icmp_lt (tgt := 27) hx hb d_Ed_placeOnRoad_10 (by decide) (fun c_2 => ?_) (fun c_2 => ?_)
  · have h := lf_t h c_2
    exact hB_27 S_1 _ _ _ h hP hD hS (lv_sub hl [] rfl)
  · have h := lf_f h c_2
    refine lv_iload_n hx hb d_Ed_placeOnRoad_13 rfl (lv_at hl 2 rfl) ?_
    refine lv_if_lt (tgt := 27) hx hb d_Ed_placeOnRoad_14 (by decide) (fun c_3 => ?_) (fun c_3 => ?_)
    · have h := lf_t h c_3
      exact hB_27 S_1 _ _ _ h hP hD hS (lv_sub hl [] rfl)
    · have h := lf_f h c_3
      refine lv_iload_n hx hb d_Ed_placeOnRoad_17 rfl (lv_at hl 2 rfl) ?_
      refine lv_iload_n hx hb d_Ed_placeOnRoad_18 rfl (lv_at hl 0 rfl) ?_
      obtain ⟨g_4, h⟩ := lf_gE h
      refine lv_idiv hx hb d_Ed_placeOnRoad_19 g_4 ?_
      refine lv_aload_n hx hb d_Ed_placeOnRoad_20 rfl (lv_at hl 1 rfl) ?_
      refine va_get (D := (dC, dI)) (ci := 8) (v := .int S_1.v_Ed_roadLength) (C := R_Ed) (T := F_Ed) (N := 13) hx hb hts (fun w h => u_Vq_Ed w (i_Ed w h)) hown hK hP 6 rfl rfl 4 (by decide) (hts _ (u_Vq_Ed _ k_Ed_11)) (fun _ h9 => h9) rfl d_Ed_placeOnRoad_21 ?_
      refine lv_icmp_lt (tgt := 29) hx hb d_Ed_placeOnRoad_24 (by decide) (fun c_5 => ?_) (fun c_5 => ?_)
      · have h := lf_t h c_5
        refine lv_aload_n hx hb d_Ed_placeOnRoad_29 rfl (lv_at hl 1 rfl) ?_
        refine va_get (D := (dC, dI)) (ci := 8) (v := .ref M.o_Tb) (C := R_Ed) (T := F_Ed) (N := 13) hx hb hts (fun w h => u_Vq_Ed w (i_Ed w h)) hown hK hP 6 rfl rfl 1 (by decide) (hts _ (u_Vq_Ed _ k_Ed_8)) (fun _ h9 => h9) rfl d_Ed_placeOnRoad_30 ?_
        refine lv_aload_n hx hb d_Ed_placeOnRoad_33 rfl (lv_at hl 1 rfl) ?_
        refine va_get (D := (dC, dI)) (ci := 8) (v := .ref M.a_Ed_road) (C := R_Ed) (T := F_Ed) (N := 13) hx hb hts (fun w h => u_Vq_Ed w (i_Ed w h)) hown hK hP 6 rfl rfl 3 (by decide) (hts _ (u_Vq_Ed _ k_Ed_10)) (fun _ h9 => h9) rfl d_Ed_placeOnRoad_34 ?_
        refine lv_iload_n hx hb d_Ed_placeOnRoad_37 rfl (lv_at hl 2 rfl) ?_
        refine lv_iload_n hx hb d_Ed_placeOnRoad_38 rfl (lv_at hl 0 rfl) ?_
        obtain ⟨g_6, h⟩ := lf_gE h
        refine lv_idiv hx hb d_Ed_placeOnRoad_39 g_6 ?_
        obtain ⟨g_7, h⟩ := lf_gE h
        refine va_iald hx hb hK hP 36 2 rfl rfl g_7 d_Ed_placeOnRoad_40 ?_
        obtain ⟨r_8, S_8, hc_8, h⟩ := lf_cE h
        have hFc := lx_free hD hS hA
        refine va_calli (va_runV (As := [.int (S_1.w_Ed_road (p0 / r_1).toNatClampNeg)]) (rest := []) ⟨hx, hb, hml, hown, hts⟩ (l_Tb_place l dC dI X _ hc_8) (cwV 1 hts (gwV good_Vq (u_Vq_Ed _ k_Ed_23) (u_Vq_Tb _ k_Tb_57) (u_Vq_Tb _ k_Tb_58) (u_Vq_Tb _ k_Tb_0) (wcs (u_Vq_Tb _ k_Tb_59) (fun _ h => h))) rfl rfl rfl (by decide +kernel) ⟨Nat.le_of_ble_eq_true rfl, Nat.le_of_ble_eq_true rfl⟩) (pv_ofE (X.same _) (fun U z1 z2 => X.mono _ _ U hFc (hEw _ _ hS U z1 z2)) hP hK hD (va_recv hK hP (ci := 4) (q0 := 3) rfl rfl)) rfl rfl hl.1 rfl (lv_room (Nat.le_of_ble_eq_true rfl)) d_Ed_placeOnRoad_41 ⟨by decide, by decide⟩) hS (fun q _ h => hFc q h) hFc (fun r_ u t H locs ht hvm hw hB hz1 hk1 hS => ?_)
        rw [hw]
        obtain ⟨hP, -, hD⟩ := hB
        rw [ht] at hP
        have hD := lx_dj hD hFc
        refine lv_iload_n hx hb d_Ed_placeOnRoad_44 rfl (lv_at hl 2 rfl) ?_
        refine lv_iload_n hx hb d_Ed_placeOnRoad_45 rfl (lv_at hl 0 rfl) ?_
        obtain ⟨g_9, h⟩ := lf_gE h
        refine lv_irem hx hb d_Ed_placeOnRoad_46 g_9 ?_
        refine lv_iadd hx hb d_Ed_placeOnRoad_47 ?_
        rw [hQ]
        have e1 : (r_8 + (p0 - p0 / r_1 * r_1)) = r := congrArg Prod.fst (Option.some.inj h)
        have e2 : S_8 = S' := congrArg Prod.snd (Option.some.inj h)
        have hP := ly_newP e2.symm hP
        have hD := ly_newD e2.symm hD
        exact W.iret (v := (r_8 + (p0 - p0 / r_1 * r_1))) hx hb hr (fun t ht hW => ⟨⟨(r_8 + (p0 - p0 / r_1 * r_1)), (), rfl, e1, by rw [ht]; exact hP, va_K.moved hW.alike hK, hD⟩, hS.F ht⟩) hS.2.2 d_Ed_placeOnRoad_48
      · have h := lf_f h c_5
        exact hB_27 S_1 _ _ _ h hP hD hS (lv_sub hl [] rfl)
set_option maxHeartbeats 4000000 in
set_option maxRecDepth 100000 in
theorem l_Ed_placeBehind (l : Launch) (dC : Nat → ClassId) (dI : Nat → Nat → Nat) {K : Nat} {M : CA} {E : (Nat → Prop) → State → Prop} (X : ly_X l dC dI K M E) (sz : Nat) {Y : CT} {G : CG} {S S' : CS} {p0 : Int32} {p1 : Int32} {r : Int32} (h : f_Ed_placeBehind K G S p0 p1 = some (r, S')) : Met l y_Ed_placeBehind (.code y_Ed_placeBehind cb_Ed_placeBehind 3 (some .int) :: V_Vq) ({ frames := 2, cells := 0, slots := 0, locals := 43 }) (va_Pc [.ref M.o_Ed, .int p0, .int p1] (fun U => U.heap.size = sz ∧ at_ (dC, dI) (fun _ => True) (wV M Y G S) (tV M) U ∧ E (va_A (wV M Y G S) sz) U)) (va_Qi (fun (r_ : Int32) (u : Unit) => r_ = r) (fun (u : Unit) t => at_ (dC, dI) (va_A (wV M Y G S) sz) (wV M Y G S') (tV M) t) (va_A (wV M Y G S) sz)) 0 0 (va_A (wV M Y G S) sz) := by
  refine Met.ofW (cc := cb_Ed_placeBehind) (maxL := 3) (ret := (some .int)) (by decide) rfl ?_
  intro p e s m args below meth c s₁ B hml hv
  obtain ⟨rfl, hsz, ⟨hP, hK, hD0⟩, hE⟩ := hv
  have hx := B.exec
  have hb := B.bytes
  have hr := B.returns
  have hts0 := atoms_spec (ws := .code y_Ed_placeBehind cb_Ed_placeBehind 3 (some .int) :: V_Vq) B.pre
  have hts : ∀ w ∈ V_Vq, w.before ([.ref M.o_Ed, .int p0, .int p1] : List Value).toArray s = true := fun w h => hts0 w (List.mem_cons_of_mem _ h)
  have hown : s.vm.findClass R_Ed = some m.cls := findClass_of_methodNamed B.named
  subst hsz
  have hD := hD0.self (sz := s.heap.size)
  generalize hAe : va_A (wV M Y G S) s.heap.size = A at hD hE ⊢
  have hA : ∀ q : Nat, s.heap.size ≤ q → A q := fun q h => by rw [← hAe]; exact Or.inr h
  have hS : va_S A s.heap s.heap [] := va_S.rf
  have hP : va_P (dC, dI) classes (wV M Y G S) s.heap := hP
  have hK : va_K (dC, dI) classes (tV M) s := hK
  have hEw : ∀ (H : Heap) (locs : List Loc), va_S A s.heap H locs → ∀ U : State, U.heap = H → s.WarmedH U.vm → E A U := fun H locs hS U hU hW => X.kept A s U H locs hE hS hU hW
  have hl := lv_entry ([.ref M.o_Ed, .int p0, .int p1]) (n := 3) (Nat.le_of_ble_eq_true rfl)
  rw [lg_entry_eq]
  generalize (lg_sl ([.ref M.o_Ed, .int p0, .int p1]) ++ List.replicate (3 - (lg_sl ([.ref M.o_Ed, .int p0, .int p1])).length) Slot.unset).toArray = ls at hl ⊢
  have hl : lv_has ls 3 [(0, .ref M.o_Ed), (1, .int p0), (2, .int p1)] := hl
  refine qabs (fun Q hQ => ?_)
  rw [f_Ed_placeBehind] at h
  refine lv_iload_n hx hb d_Ed_placeBehind_0 rfl (lv_at hl 2 rfl) ?_
  refine lv_sipush (v := 512) hx hb d_Ed_placeBehind_1 (by decide) ?_
  refine lv_irem hx hb d_Ed_placeBehind_4 (by decide) ?_
  refine lv_if_ne (tgt := 16) hx hb d_Ed_placeBehind_5 (by decide) (fun c_1 => ?_) (fun c_1 => ?_)
  · have h := lf_f h c_1
    refine lv_iload_n hx hb d_Ed_placeBehind_16 rfl (lv_at hl 1 rfl) ?_
    refine lv_iconst (v := 1) hx hb d_Ed_placeBehind_17 (by decide) ?_
    refine lv_iadd hx hb d_Ed_placeBehind_18 ?_
    rw [hQ]
    have e1 : (p0 + 1) = r := congrArg Prod.fst (Option.some.inj h)
    have e2 : S = S' := congrArg Prod.snd (Option.some.inj h)
    have hP := ly_newP e2.symm hP
    have hD := ly_newD e2.symm hD
    exact W.iret (v := (p0 + 1)) hx hb hr (fun t ht hW => ⟨⟨(p0 + 1), (), rfl, e1, by rw [ht]; exact hP, va_K.moved hW.alike hK, hD⟩, hS.F ht⟩) hS.2.2 d_Ed_placeBehind_19
  · have h := lf_t h c_1
    refine lv_aload_n hx hb d_Ed_placeBehind_8 rfl (lv_at hl 0 rfl) ?_
    refine lv_iload_n hx hb d_Ed_placeBehind_9 rfl (lv_at hl 2 rfl) ?_
    obtain ⟨r_2, S_2, hc_2, h⟩ := lf_cE h
    have hFc := lx_free hD hS hA
    refine va_calli (va_runV (As := [.int p1]) (rest := []) ⟨hx, hb, hml, hown, hts⟩ (l_Ed_placeOnRoad l dC dI X _ hc_2) (cwV 1 hts (gwV good_Vq (u_Vq_Ed _ k_Ed_32) (u_Vq_Ed _ k_Ed_33) (u_Vq_Ed _ k_Ed_34) (u_Vq_Ed _ k_Ed_0) (wcs (u_Vq_Ed _ k_Ed_35) (fun _ h => h))) rfl rfl rfl (by decide +kernel) ⟨Nat.le_of_ble_eq_true rfl, Nat.le_of_ble_eq_true rfl⟩) (pv_ofE (X.same _) (fun U z1 z2 => X.mono _ _ U hFc (hEw _ _ hS U z1 z2)) hP hK hD (va_recv hK hP (ci := 8) (q0 := 6) rfl rfl)) rfl rfl hl.1 rfl (lv_room (Nat.le_of_ble_eq_true rfl)) d_Ed_placeBehind_10 ⟨by decide, by decide⟩) hS (fun q _ h => hFc q h) hFc (fun r_ u t H locs ht hvm hw hB hz1 hk1 hS => ?_)
    rw [hw]
    obtain ⟨hP, -, hD⟩ := hB
    rw [ht] at hP
    have hD := lx_dj hD hFc
    refine lv_goto (tgt := 19) hx hb d_Ed_placeBehind_13 (by decide) ?_
    rw [hQ]
    have e1 : r_2 = r := congrArg Prod.fst (Option.some.inj h)
    have e2 : S_2 = S' := congrArg Prod.snd (Option.some.inj h)
    have hP := ly_newP e2.symm hP
    have hD := ly_newD e2.symm hD
    exact W.iret (v := r_2) hx hb hr (fun t ht hW => ⟨⟨r_2, (), rfl, e1, by rw [ht]; exact hP, va_K.moved hW.alike hK, hD⟩, hS.F ht⟩) hS.2.2 d_Ed_placeBehind_19
set_option maxHeartbeats 4000000 in
set_option maxRecDepth 100000 in
theorem l_Ed_placeOf (l : Launch) (dC : Nat → ClassId) (dI : Nat → Nat → Nat) {K : Nat} {M : CA} {E : (Nat → Prop) → State → Prop} (X : ly_X l dC dI K M E) (sz : Nat) {Y : CT} {G : CG} {S S' : CS} {p0 : Int32} {p1 : Int32} {r : Int32} (h : f_Ed_placeOf K G S p0 p1 = some (r, S')) : Met l y_Ed_placeOf (.code y_Ed_placeOf cb_Ed_placeOf 3 (some .int) :: V_Vq) ({ frames := 2, cells := 0, slots := 0, locals := 45 }) (va_Pc [.ref M.o_Ed, .int p0, .int p1] (fun U => U.heap.size = sz ∧ at_ (dC, dI) (fun _ => True) (wV M Y G S) (tV M) U ∧ E (va_A (wV M Y G S) sz) U)) (va_Qi (fun (r_ : Int32) (u : Unit) => r_ = r) (fun (u : Unit) t => at_ (dC, dI) (va_A (wV M Y G S) sz) (wV M Y G S') (tV M) t) (va_A (wV M Y G S) sz)) 0 0 (va_A (wV M Y G S) sz) := by
  refine Met.ofW (cc := cb_Ed_placeOf) (maxL := 3) (ret := (some .int)) (by decide) rfl ?_
  intro p e s m args below meth c s₁ B hml hv
  obtain ⟨rfl, hsz, ⟨hP, hK, hD0⟩, hE⟩ := hv
  have hx := B.exec
  have hb := B.bytes
  have hr := B.returns
  have hts0 := atoms_spec (ws := .code y_Ed_placeOf cb_Ed_placeOf 3 (some .int) :: V_Vq) B.pre
  have hts : ∀ w ∈ V_Vq, w.before ([.ref M.o_Ed, .int p0, .int p1] : List Value).toArray s = true := fun w h => hts0 w (List.mem_cons_of_mem _ h)
  have hown : s.vm.findClass R_Ed = some m.cls := findClass_of_methodNamed B.named
  subst hsz
  have hD := hD0.self (sz := s.heap.size)
  generalize hAe : va_A (wV M Y G S) s.heap.size = A at hD hE ⊢
  have hA : ∀ q : Nat, s.heap.size ≤ q → A q := fun q h => by rw [← hAe]; exact Or.inr h
  have hS : va_S A s.heap s.heap [] := va_S.rf
  have hP : va_P (dC, dI) classes (wV M Y G S) s.heap := hP
  have hK : va_K (dC, dI) classes (tV M) s := hK
  have hEw : ∀ (H : Heap) (locs : List Loc), va_S A s.heap H locs → ∀ U : State, U.heap = H → s.WarmedH U.vm → E A U := fun H locs hS U hU hW => X.kept A s U H locs hE hS hU hW
  have hl := lv_entry ([.ref M.o_Ed, .int p0, .int p1]) (n := 3) (Nat.le_of_ble_eq_true rfl)
  rw [lg_entry_eq]
  generalize (lg_sl ([.ref M.o_Ed, .int p0, .int p1]) ++ List.replicate (3 - (lg_sl ([.ref M.o_Ed, .int p0, .int p1])).length) Slot.unset).toArray = ls at hl ⊢
  have hl : lv_has ls 3 [(0, .ref M.o_Ed), (1, .int p0), (2, .int p1)] := hl
  refine qabs (fun Q hQ => ?_)
  rw [f_Ed_placeOf] at h
  refine lv_aload_n hx hb d_Ed_placeOf_0 rfl (lv_at hl 0 rfl) ?_
  refine lv_aload_n hx hb d_Ed_placeOf_1 rfl (lv_at hl 0 rfl) ?_
  refine va_get (D := (dC, dI)) (ci := 8) (v := .ref M.o_Tb) (C := R_Ed) (T := F_Ed) (N := 13) hx hb hts (fun w h => u_Vq_Ed w (i_Ed w h)) hown hK hP 6 rfl rfl 1 (by decide) (hts _ (u_Vq_Ed _ k_Ed_8)) (fun _ h9 => h9) rfl d_Ed_placeOf_2 ?_
  refine lv_aload_n hx hb d_Ed_placeOf_5 rfl (lv_at hl 0 rfl) ?_
  refine va_get (D := (dC, dI)) (ci := 8) (v := .ref M.o_Tr) (C := R_Ed) (T := F_Ed) (N := 13) hx hb hts (fun w h => u_Vq_Ed w (i_Ed w h)) hown hK hP 6 rfl rfl 2 (by decide) (hts _ (u_Vq_Ed _ k_Ed_9)) (fun _ h9 => h9) rfl d_Ed_placeOf_6 ?_
  refine lv_iload_n hx hb d_Ed_placeOf_9 rfl (lv_at hl 1 rfl) ?_
  obtain ⟨r_1, S_1, hc_1, h⟩ := lf_cE h
  have hFc := lx_free hD hS hA
  refine va_calli (va_runV (As := [.int p0]) (rest := [.ref M.o_Tb, .ref M.o_Ed]) ⟨hx, hb, hml, hown, hts⟩ (l_Tr_firstOf l dC dI X _ hc_1) (cwV 1 hts (gwV good_Vq (u_Vq_Ed _ k_Ed_30) (u_Vq_Tr _ k_Tr_45) (u_Vq_Tr _ k_Tr_46) (u_Vq_Tr _ k_Tr_0) (wcs (u_Vq_Tr _ k_Tr_47) (fun _ h => h))) rfl rfl rfl (by decide +kernel) ⟨Nat.le_of_ble_eq_true rfl, Nat.le_of_ble_eq_true rfl⟩) (pv_ofE (X.same _) (fun U z1 z2 => X.mono _ _ U hFc (hEw _ _ hS U z1 z2)) hP hK hD (va_recv hK hP (ci := 5) (q0 := 4) rfl rfl)) rfl rfl hl.1 rfl (lv_room (Nat.le_of_ble_eq_true rfl)) d_Ed_placeOf_10 ⟨by decide, by decide⟩) hS (fun q _ h => hFc q h) hFc (fun r_ u t H locs ht hvm hw hB hz1 hk1 hS => ?_)
  rw [hw]
  obtain ⟨hP, -, hD⟩ := hB
  rw [ht] at hP
  have hD := lx_dj hD hFc
  refine lv_aload_n hx hb d_Ed_placeOf_13 rfl (lv_at hl 0 rfl) ?_
  refine va_get (D := (dC, dI)) (ci := 8) (v := .ref M.a_Ed_road) (C := R_Ed) (T := F_Ed) (N := 13) hx hb hts (fun w h => u_Vq_Ed w (i_Ed w h)) hown hK hP 6 rfl rfl 3 (by decide) (hts _ (u_Vq_Ed _ k_Ed_10)) (fun _ h9 => h9) rfl d_Ed_placeOf_14 ?_
  obtain ⟨r_2, S_2, hc_2, h⟩ := lf_cE h
  have hFc := lx_free hD hS hA
  refine va_calli (va_runV (As := [.int r_1, .ref M.a_Ed_road]) (rest := [.ref M.o_Ed]) ⟨hx, hb, hml, hown, hts⟩ (l_Tb_road_Edroad l dC dI X _ hc_2) (cwV 2 hts (gwV good_Vq (u_Vq_Ed _ k_Ed_31) (u_Vq_Tb _ k_Tb_96) (u_Vq_Tb _ k_Tb_97) (u_Vq_Tb _ k_Tb_0) (wcs (u_Vq_Tb _ k_Tb_98) (fun _ h => h))) rfl rfl rfl (by decide +kernel) ⟨Nat.le_of_ble_eq_true rfl, Nat.le_of_ble_eq_true rfl⟩) (pv_ofE (X.same _) (fun U z1 z2 => X.mono _ _ U hFc (hEw _ _ hS U z1 z2)) hP hK hD (va_recv hK hP (ci := 4) (q0 := 3) rfl rfl)) rfl rfl hl.1 rfl (lv_room (Nat.le_of_ble_eq_true rfl)) d_Ed_placeOf_17 ⟨by decide, by decide⟩) hS (fun q _ h => hFc q h) hFc (fun r_ u t H locs ht hvm hw hB hz1 hk1 hS => ?_)
  rw [hw]
  obtain ⟨hP, -, hD⟩ := hB
  rw [ht] at hP
  have hD := lx_dj hD hFc
  refine va_put (D := (dC, dI)) (ci := 8) (v := .int r_2) (ty := .int) (C := R_Ed) (T := F_Ed) (N := 13) hx hb hts (fun w h => u_Vq_Ed w (i_Ed w h)) t_Ed t_Ed_ok n_Ed hown hK hP hD hS 6 rfl rfl 4 (by decide) (hts _ (u_Vq_Ed _ k_Ed_11)) (fun _ h9 => h9) rfl (by decide +kernel) rfl rfl (Nat.le_of_ble_eq_true rfl) d_Ed_placeOf_20 (fun H locs hP hD hS => ?_)
  obtain ⟨S_3, eS_3, h⟩ := lf_lX h
  have hP := ly_newP eS_3 hP
  have hD := ly_newD eS_3 hD
  refine lv_aload_n hx hb d_Ed_placeOf_23 rfl (lv_at hl 0 rfl) ?_
  refine lv_iload_n hx hb d_Ed_placeOf_24 rfl (lv_at hl 2 rfl) ?_
  obtain ⟨r_4, S_4, hc_4, h⟩ := lf_cE h
  have hFc := lx_free hD hS hA
  refine va_calli (va_runV (As := [.int p1]) (rest := []) ⟨hx, hb, hml, hown, hts⟩ (l_Ed_placeOnRoad l dC dI X _ hc_4) (cwV 1 hts (gwV good_Vq (u_Vq_Ed _ k_Ed_32) (u_Vq_Ed _ k_Ed_33) (u_Vq_Ed _ k_Ed_34) (u_Vq_Ed _ k_Ed_0) (wcs (u_Vq_Ed _ k_Ed_35) (fun _ h => h))) rfl rfl rfl (by decide +kernel) ⟨Nat.le_of_ble_eq_true rfl, Nat.le_of_ble_eq_true rfl⟩) (pv_ofE (X.same _) (fun U z1 z2 => X.mono _ _ U hFc (hEw _ _ hS U z1 z2)) hP hK hD (va_recv hK hP (ci := 8) (q0 := 6) rfl rfl)) rfl rfl hl.1 rfl (lv_room (Nat.le_of_ble_eq_true rfl)) d_Ed_placeOf_25 ⟨by decide, by decide⟩) hS (fun q _ h => hFc q h) hFc (fun r_ u t H locs ht hvm hw hB hz1 hk1 hS => ?_)
  rw [hw]
  obtain ⟨hP, -, hD⟩ := hB
  rw [ht] at hP
  have hD := lx_dj hD hFc
  rw [hQ]
  have e1 : r_4 = r := congrArg Prod.fst (Option.some.inj h)
  have e2 : S_4 = S' := congrArg Prod.snd (Option.some.inj h)
  have hP := ly_newP e2.symm hP
  have hD := ly_newD e2.symm hD
  exact W.iret (v := r_4) hx hb hr (fun t ht hW => ⟨⟨r_4, (), rfl, e1, by rw [ht]; exact hP, va_K.moved hW.alike hK, hD⟩, hS.F ht⟩) hS.2.2 d_Ed_placeOf_28
set_option maxHeartbeats 4000000 in
set_option maxRecDepth 100000 in
theorem l_Ed_shorten (l : Launch) (dC : Nat → ClassId) (dI : Nat → Nat → Nat) {K : Nat} {M : CA} {E : (Nat → Prop) → State → Prop} (X : ly_X l dC dI K M E) (sz : Nat) {Y : CT} {G : CG} {S S' : CS} {p0 : Int32} {p1 : Int32} {r : Int32} (h : f_Ed_shorten K G S p0 p1 = some (r, S')) : Met l y_Ed_shorten (.code y_Ed_shorten cb_Ed_shorten 6 (some .int) :: V_Vq) ({ frames := 2, cells := 0, slots := 0, locals := 46 }) (va_Pc [.ref M.o_Ed, .int p0, .int p1] (fun U => U.heap.size = sz ∧ at_ (dC, dI) (fun _ => True) (wV M Y G S) (tV M) U ∧ E (va_A (wV M Y G S) sz) U)) (va_Qi (fun (r_ : Int32) (u : Unit) => r_ = r) (fun (u : Unit) t => at_ (dC, dI) (va_A (wV M Y G S) sz) (wV M Y G S') (tV M) t) (va_A (wV M Y G S) sz)) 0 0 (va_A (wV M Y G S) sz) := by
  refine Met.ofW (cc := cb_Ed_shorten) (maxL := 6) (ret := (some .int)) (by decide) rfl ?_
  intro p e s m args below meth c s₁ B hml hv
  obtain ⟨rfl, hsz, ⟨hP, hK, hD0⟩, hE⟩ := hv
  have hx := B.exec
  have hb := B.bytes
  have hr := B.returns
  have hts0 := atoms_spec (ws := .code y_Ed_shorten cb_Ed_shorten 6 (some .int) :: V_Vq) B.pre
  have hts : ∀ w ∈ V_Vq, w.before ([.ref M.o_Ed, .int p0, .int p1] : List Value).toArray s = true := fun w h => hts0 w (List.mem_cons_of_mem _ h)
  have hown : s.vm.findClass R_Ed = some m.cls := findClass_of_methodNamed B.named
  subst hsz
  have hD := hD0.self (sz := s.heap.size)
  generalize hAe : va_A (wV M Y G S) s.heap.size = A at hD hE ⊢
  have hA : ∀ q : Nat, s.heap.size ≤ q → A q := fun q h => by rw [← hAe]; exact Or.inr h
  have hS : va_S A s.heap s.heap [] := va_S.rf
  have hP : va_P (dC, dI) classes (wV M Y G S) s.heap := hP
  have hK : va_K (dC, dI) classes (tV M) s := hK
  have hEw : ∀ (H : Heap) (locs : List Loc), va_S A s.heap H locs → ∀ U : State, U.heap = H → s.WarmedH U.vm → E A U := fun H locs hS U hU hW => X.kept A s U H locs hE hS hU hW
  have hl := lv_entry ([.ref M.o_Ed, .int p0, .int p1]) (n := 6) (Nat.le_of_ble_eq_true rfl)
  rw [lg_entry_eq]
  generalize (lg_sl ([.ref M.o_Ed, .int p0, .int p1]) ++ List.replicate (6 - (lg_sl ([.ref M.o_Ed, .int p0, .int p1])).length) Slot.unset).toArray = ls at hl ⊢
  have hl : lv_has ls 6 [(0, .ref M.o_Ed), (1, .int p0), (2, .int p1)] := hl
  refine qabs (fun Q hQ => ?_)
  have hB_86 : ∀ (k : Nat), ∀ (y_2 : Int32) (y_3 : Int32) (y_4 : Int32) (y_5 : Int32) (S : CS) (H : Heap) (locs : List Loc) (ls : Array Slot), f_Ed_shorten_86 K G k y_2 y_3 y_4 y_5 S = some (r, S') → va_P (dC, dI) classes (wV M Y G S) H → va_D A (wV M Y G S) → va_S A s.heap H locs → lv_has ls 6 [(0, .ref M.o_Ed), (2, .int y_2), (3, .int y_3), (4, .int y_4), (5, .int y_5)] → W p l e ({ frames := 2, cells := 0, slots := 0, locals := 46 }) s m ([.ref M.o_Ed, .int p0, .int p1] : List Value).toArray below meth c H locs 0 0 Q (F0 m 86 ls []) := by
    intro k
    induction k with
    | zero => intro y_2 y_3 y_4 y_5 S H locs ls h; exact lf_no h
    | succ k hr_86 =>
      intro y_2 y_3 y_4 y_5 S H locs ls h hP hD hS hl
      rw [f_Ed_shorten_86] at h
      refine lv_iload hx hb d_Ed_shorten_86 (lv_at hl 4 rfl) ?_
      refine lv_aload_n hx hb d_Ed_shorten_88 rfl (lv_at hl 0 rfl) ?_
      refine va_get (D := (dC, dI)) (ci := 8) (v := .int S.v_Ed_roadLength) (C := R_Ed) (T := F_Ed) (N := 13) hx hb hts (fun w h => u_Vq_Ed w (i_Ed w h)) hown hK hP 6 rfl rfl 4 (by decide) (hts _ (u_Vq_Ed _ k_Ed_11)) (fun _ h9 => h9) rfl d_Ed_shorten_89 ?_
      refine lv_icmp_ge (tgt := 116) hx hb d_Ed_shorten_92 (by decide) (fun c_12 => ?_) (fun c_12 => ?_)
      · have h := lf_t h c_12
        refine lv_aload_n hx hb d_Ed_shorten_116 rfl (lv_at hl 0 rfl) ?_
        refine va_get (D := (dC, dI)) (ci := 8) (v := .ref M.o_Dk) (C := R_Ed) (T := F_Ed) (N := 13) hx hb hts (fun w h => u_Vq_Ed w (i_Ed w h)) hown hK hP 6 rfl rfl 0 (by decide) (hts _ (u_Vq_Ed _ k_Ed_7)) (fun _ h9 => h9) rfl d_Ed_shorten_117 ?_
        refine lv_iload_n hx hb d_Ed_shorten_120 rfl (lv_at hl 2 rfl) ?_
        refine lv_bipush (v := 28) hx hb d_Ed_shorten_121 (by decide) ?_
        refine lv_iadd hx hb d_Ed_shorten_123 ?_
        refine lv_iload_n hx hb d_Ed_shorten_124 rfl (lv_at hl 1 rfl) ?_
        obtain ⟨S_13, hc_13, h⟩ := lf_bE h
        have hFc := lx_free hD hS hA
        refine va_callv (va_runV (As := [.int (y_3 + 28), .int y_2]) (rest := []) ⟨hx, hb, hml, hown, hts⟩ (l_Dk_putFour l dC dI X _ hc_13) (cwV 2 hts (gwV good_Vq (u_Vq_Ed _ k_Ed_115) (u_Vq_Dk _ k_Dk_30) (u_Vq_Dk _ k_Dk_31) (u_Vq_Dk _ k_Dk_0) (wcs (u_Vq_Dk _ k_Dk_32) (fun _ h => h))) rfl rfl rfl (by decide +kernel) ⟨Nat.le_of_ble_eq_true rfl, Nat.le_of_ble_eq_true rfl⟩) (pv_ofE (X.same _) (fun U z1 z2 => X.mono _ _ U hFc (hEw _ _ hS U z1 z2)) hP hK hD (va_recv hK hP (ci := 0) (q0 := 1) rfl rfl)) rfl rfl hl.1 rfl (lv_room (Nat.le_of_ble_eq_true rfl)) d_Ed_shorten_125 ⟨by decide, by decide⟩) hS (fun q _ h => hFc q h) hFc (fun u t H locs ht hvm hw hB hz1 hk1 hS => ?_)
        obtain ⟨hP, -, hD⟩ := hB
        rw [ht] at hP
        have hD := lx_dj hD hFc
        refine lv_aload_n hx hb d_Ed_shorten_128 rfl (lv_at hl 0 rfl) ?_
        refine va_get (D := (dC, dI)) (ci := 8) (v := .int S_13.v_Ed_roadLength) (C := R_Ed) (T := F_Ed) (N := 13) hx hb hts (fun w h => u_Vq_Ed w (i_Ed w h)) hown hK hP 6 rfl rfl 4 (by decide) (hts _ (u_Vq_Ed _ k_Ed_11)) (fun _ h9 => h9) rfl d_Ed_shorten_129 ?_
        refine lv_iload hx hb d_Ed_shorten_132 (lv_at hl 3 rfl) ?_
        refine lv_isub hx hb d_Ed_shorten_134 ?_
        rw [hQ]
        have e1 : (S_13.v_Ed_roadLength - y_4) = r := congrArg Prod.fst (Option.some.inj h)
        have e2 : S_13 = S' := congrArg Prod.snd (Option.some.inj h)
        have hP := ly_newP e2.symm hP
        have hD := ly_newD e2.symm hD
        exact W.iret (v := (S_13.v_Ed_roadLength - y_4)) hx hb hr (fun t ht hW => ⟨⟨(S_13.v_Ed_roadLength - y_4), (), rfl, e1, by rw [ht]; exact hP, va_K.moved hW.alike hK, hD⟩, hS.F ht⟩) hS.2.2 d_Ed_shorten_135
      · have h := lf_f h c_12
        refine lv_aload_n hx hb d_Ed_shorten_95 rfl (lv_at hl 0 rfl) ?_
        refine va_get (D := (dC, dI)) (ci := 8) (v := .ref M.o_Tb) (C := R_Ed) (T := F_Ed) (N := 13) hx hb hts (fun w h => u_Vq_Ed w (i_Ed w h)) hown hK hP 6 rfl rfl 1 (by decide) (hts _ (u_Vq_Ed _ k_Ed_8)) (fun _ h9 => h9) rfl d_Ed_shorten_96 ?_
        refine lv_aload_n hx hb d_Ed_shorten_99 rfl (lv_at hl 0 rfl) ?_
        refine va_get (D := (dC, dI)) (ci := 8) (v := .ref M.a_Ed_road) (C := R_Ed) (T := F_Ed) (N := 13) hx hb hts (fun w h => u_Vq_Ed w (i_Ed w h)) hown hK hP 6 rfl rfl 3 (by decide) (hts _ (u_Vq_Ed _ k_Ed_10)) (fun _ h9 => h9) rfl d_Ed_shorten_100 ?_
        refine lv_iload hx hb d_Ed_shorten_103 (lv_at hl 4 rfl) ?_
        obtain ⟨g_14, h⟩ := lf_gE h
        refine va_iald hx hb hK hP 36 2 rfl rfl g_14 d_Ed_shorten_105 ?_
        refine lv_iconst (v := 0) hx hb d_Ed_shorten_106 (by decide) ?_
        obtain ⟨S_15, hc_15, h⟩ := lf_bE h
        have hFc := lx_free hD hS hA
        refine va_callv (va_runV (As := [.int (S.w_Ed_road y_5.toNatClampNeg), .int 0]) (rest := []) ⟨hx, hb, hml, hown, hts⟩ (l_Tb_link l dC dI X _ hc_15) (cwV 2 hts (gwV good_Vq (u_Vq_Ed _ k_Ed_87) (u_Vq_Tb _ k_Tb_92) (u_Vq_Tb _ k_Tb_93) (u_Vq_Tb _ k_Tb_0) (wcs (u_Vq_Tb _ k_Tb_94) (fun _ h => h))) rfl rfl rfl (by decide +kernel) ⟨Nat.le_of_ble_eq_true rfl, Nat.le_of_ble_eq_true rfl⟩) (pv_ofE (X.same _) (fun U z1 z2 => X.mono _ _ U hFc (hEw _ _ hS U z1 z2)) hP hK hD (va_recv hK hP (ci := 4) (q0 := 3) rfl rfl)) rfl rfl hl.1 rfl (lv_room (Nat.le_of_ble_eq_true rfl)) d_Ed_shorten_107 ⟨by decide, by decide⟩) hS (fun q _ h => hFc q h) hFc (fun u t H locs ht hvm hw hB hz1 hk1 hS => ?_)
        obtain ⟨hP, -, hD⟩ := hB
        rw [ht] at hP
        have hD := lx_dj hD hFc
        obtain ⟨x_16, ex_16, h⟩ := lf_lX h
        refine lv_iinc (v := x_16) (lv' := [(5, .int x_16), (0, .ref M.o_Ed), (2, .int y_2), (3, .int y_3), (4, .int y_4)]) hx hb d_Ed_shorten_110 hl (k := 4) rfl (by rw [ex_16]; rfl) (by decide) rfl (fun ls hl => ?_)
        refine lv_goto (tgt := 86) hx hb d_Ed_shorten_113 (by decide) ?_
        exact hr_86 y_2 y_3 y_4 x_16 S_15 _ _ _ h hP hD hS (lv_sub hl [1, 2, 3, 4, 0] rfl)
  have hB_82 : ∀ (y_2 : Int32) (y_3 : Int32) (y_4 : Int32) (S : CS) (H : Heap) (locs : List Loc) (ls : Array Slot), f_Ed_shorten_82 K G y_2 y_3 y_4 S = some (r, S') → va_P (dC, dI) classes (wV M Y G S) H → va_D A (wV M Y G S) → va_S A s.heap H locs → lv_has ls 6 [(0, .ref M.o_Ed), (2, .int y_2), (3, .int y_3), (4, .int y_4)] → W p l e ({ frames := 2, cells := 0, slots := 0, locals := 46 }) s m ([.ref M.o_Ed, .int p0, .int p1] : List Value).toArray below meth c H locs 0 0 Q (F0 m 82 ls []) := by
    intro y_2 y_3 y_4 S H locs ls h hP hD hS hl
    rw [f_Ed_shorten_82] at h
    refine lv_iload hx hb d_Ed_shorten_82 (lv_at hl 3 rfl) ?_
    refine lv_istore (lv' := [(5, .int y_4), (0, .ref M.o_Ed), (2, .int y_2), (3, .int y_3), (4, .int y_4)]) hx hb d_Ed_shorten_84 hl (by decide) rfl (fun ls hl => ?_)
    exact hB_86 K y_2 y_3 y_4 y_4 S _ _ _ h hP hD hS (lv_sub hl [1, 2, 3, 4, 0] rfl)
  have hB_71 : ∀ (y_2 : Int32) (y_3 : Int32) (y_4 : Int32) (S : CS) (H : Heap) (locs : List Loc) (ls : Array Slot), f_Ed_shorten_71 K G y_2 y_3 y_4 S = some (r, S') → va_P (dC, dI) classes (wV M Y G S) H → va_D A (wV M Y G S) → va_S A s.heap H locs → lv_has ls 6 [(0, .ref M.o_Ed), (2, .int y_2), (3, .int y_3), (4, .int y_4)] → W p l e ({ frames := 2, cells := 0, slots := 0, locals := 46 }) s m ([.ref M.o_Ed, .int p0, .int p1] : List Value).toArray below meth c H locs 0 0 Q (F0 m 71 ls []) := by
    intro y_2 y_3 y_4 S H locs ls h hP hD hS hl
    rw [f_Ed_shorten_71] at h
    refine lv_iload hx hb d_Ed_shorten_71 (lv_at hl 3 rfl) ?_
    refine lv_if_ne (tgt := 82) hx hb d_Ed_shorten_73 (by decide) (fun c_10 => ?_) (fun c_10 => ?_)
    · have h := lf_f h c_10
      exact hB_82 y_2 y_3 y_4 S _ _ _ h hP hD hS (lv_sub hl [0, 1, 2, 3] rfl)
    · have h := lf_t h c_10
      refine lv_aload_n hx hb d_Ed_shorten_76 rfl (lv_at hl 0 rfl) ?_
      refine lv_iload_n hx hb d_Ed_shorten_77 rfl (lv_at hl 2 rfl) ?_
      refine lv_iconst (v := 0) hx hb d_Ed_shorten_78 (by decide) ?_
      obtain ⟨S_11, hc_11, h⟩ := lf_bE h
      have hFc := lx_free hD hS hA
      refine va_callv (va_runV (As := [.int y_3, .int 0]) (rest := []) ⟨hx, hb, hml, hown, hts⟩ (l_Ed_putFirstCluster l dC dI X _ hc_11) (cwV 2 hts (gwV good_Vq (u_Vq_Ed _ k_Ed_92) (u_Vq_Ed _ k_Ed_93) (u_Vq_Ed _ k_Ed_139) (u_Vq_Ed _ k_Ed_0) (wcs (u_Vq_Ed _ k_Ed_94) (fun _ h => h))) rfl rfl rfl (by decide +kernel) ⟨Nat.le_of_ble_eq_true rfl, Nat.le_of_ble_eq_true rfl⟩) (pv_ofE (X.same _) (fun U z1 z2 => X.mono _ _ U hFc (hEw _ _ hS U z1 z2)) hP hK hD (va_recv hK hP (ci := 8) (q0 := 6) rfl rfl)) rfl rfl hl.1 rfl (lv_room (Nat.le_of_ble_eq_true rfl)) d_Ed_shorten_79 ⟨by decide, by decide⟩) hS (fun q _ h => hFc q h) hFc (fun u t H locs ht hvm hw hB hz1 hk1 hS => ?_)
      obtain ⟨hP, -, hD⟩ := hB
      rw [ht] at hP
      have hD := lx_dj hD hFc
      exact hB_82 y_2 y_3 y_4 S_11 _ _ _ h hP hD hS (lv_sub hl [0, 1, 2, 3] rfl)
  rw [f_Ed_shorten] at h
  refine lv_aload_n hx hb d_Ed_shorten_0 rfl (lv_at hl 0 rfl) ?_
  refine va_get (D := (dC, dI)) (ci := 8) (v := .ref M.o_Tr) (C := R_Ed) (T := F_Ed) (N := 13) hx hb hts (fun w h => u_Vq_Ed w (i_Ed w h)) hown hK hP 6 rfl rfl 2 (by decide) (hts _ (u_Vq_Ed _ k_Ed_9)) (fun _ h9 => h9) rfl d_Ed_shorten_1 ?_
  refine lv_iload_n hx hb d_Ed_shorten_4 rfl (lv_at hl 1 rfl) ?_
  obtain ⟨r_1, S_1, hc_1, h⟩ := lf_cE h
  have hFc := lx_free hD hS hA
  refine va_calli (va_runV (As := [.int p0]) (rest := []) ⟨hx, hb, hml, hown, hts⟩ (l_Tr_spotOf l dC dI X _ hc_1) (cwV 1 hts (gwV good_Vq (u_Vq_Ed _ k_Ed_58) (u_Vq_Tr _ k_Tr_57) (u_Vq_Tr _ k_Tr_58) (u_Vq_Tr _ k_Tr_0) (wcs (u_Vq_Tr _ k_Tr_59) (fun _ h => h))) rfl rfl rfl (by decide +kernel) ⟨Nat.le_of_ble_eq_true rfl, Nat.le_of_ble_eq_true rfl⟩) (pv_ofE (X.same _) (fun U z1 z2 => X.mono _ _ U hFc (hEw _ _ hS U z1 z2)) hP hK hD (va_recv hK hP (ci := 5) (q0 := 4) rfl rfl)) rfl rfl hl.1 rfl (lv_room (Nat.le_of_ble_eq_true rfl)) d_Ed_shorten_5 ⟨by decide, by decide⟩) hS (fun q _ h => hFc q h) hFc (fun r_ u t H locs ht hvm hw hB hz1 hk1 hS => ?_)
  rw [hw]
  obtain ⟨hP, -, hD⟩ := hB
  rw [ht] at hP
  have hD := lx_dj hD hFc
  refine lv_istore_n (lv' := [(3, .int r_1), (0, .ref M.o_Ed), (1, .int p0), (2, .int p1)]) hx hb d_Ed_shorten_8 rfl hl (by decide) rfl (fun ls hl => ?_)
  refine lv_aload_n hx hb d_Ed_shorten_9 rfl (lv_at hl 1 rfl) ?_
  refine lv_aload_n hx hb d_Ed_shorten_10 rfl (lv_at hl 1 rfl) ?_
  refine va_get (D := (dC, dI)) (ci := 8) (v := .ref M.o_Tb) (C := R_Ed) (T := F_Ed) (N := 13) hx hb hts (fun w h => u_Vq_Ed w (i_Ed w h)) hown hK hP 6 rfl rfl 1 (by decide) (hts _ (u_Vq_Ed _ k_Ed_8)) (fun _ h9 => h9) rfl d_Ed_shorten_11 ?_
  refine lv_aload_n hx hb d_Ed_shorten_14 rfl (lv_at hl 1 rfl) ?_
  refine va_get (D := (dC, dI)) (ci := 8) (v := .ref M.o_Tr) (C := R_Ed) (T := F_Ed) (N := 13) hx hb hts (fun w h => u_Vq_Ed w (i_Ed w h)) hown hK hP 6 rfl rfl 2 (by decide) (hts _ (u_Vq_Ed _ k_Ed_9)) (fun _ h9 => h9) rfl d_Ed_shorten_15 ?_
  refine lv_iload_n hx hb d_Ed_shorten_18 rfl (lv_at hl 2 rfl) ?_
  obtain ⟨r_2, S_2, hc_2, h⟩ := lf_cE h
  have hFc := lx_free hD hS hA
  refine va_calli (va_runV (As := [.int p0]) (rest := [.ref M.o_Tb, .ref M.o_Ed]) ⟨hx, hb, hml, hown, hts⟩ (l_Tr_firstOf l dC dI X _ hc_2) (cwV 1 hts (gwV good_Vq (u_Vq_Ed _ k_Ed_30) (u_Vq_Tr _ k_Tr_45) (u_Vq_Tr _ k_Tr_46) (u_Vq_Tr _ k_Tr_0) (wcs (u_Vq_Tr _ k_Tr_47) (fun _ h => h))) rfl rfl rfl (by decide +kernel) ⟨Nat.le_of_ble_eq_true rfl, Nat.le_of_ble_eq_true rfl⟩) (pv_ofE (X.same _) (fun U z1 z2 => X.mono _ _ U hFc (hEw _ _ hS U z1 z2)) hP hK hD (va_recv hK hP (ci := 5) (q0 := 4) rfl rfl)) rfl rfl hl.1 rfl (lv_room (Nat.le_of_ble_eq_true rfl)) d_Ed_shorten_19 ⟨by decide, by decide⟩) hS (fun q _ h => hFc q h) hFc (fun r_ u t H locs ht hvm hw hB hz1 hk1 hS => ?_)
  rw [hw]
  obtain ⟨hP, -, hD⟩ := hB
  rw [ht] at hP
  have hD := lx_dj hD hFc
  refine lv_aload_n hx hb d_Ed_shorten_22 rfl (lv_at hl 1 rfl) ?_
  refine va_get (D := (dC, dI)) (ci := 8) (v := .ref M.a_Ed_road) (C := R_Ed) (T := F_Ed) (N := 13) hx hb hts (fun w h => u_Vq_Ed w (i_Ed w h)) hown hK hP 6 rfl rfl 3 (by decide) (hts _ (u_Vq_Ed _ k_Ed_10)) (fun _ h9 => h9) rfl d_Ed_shorten_23 ?_
  obtain ⟨r_3, S_3, hc_3, h⟩ := lf_cE h
  have hFc := lx_free hD hS hA
  refine va_calli (va_runV (As := [.int r_2, .ref M.a_Ed_road]) (rest := [.ref M.o_Ed]) ⟨hx, hb, hml, hown, hts⟩ (l_Tb_road_Edroad l dC dI X _ hc_3) (cwV 2 hts (gwV good_Vq (u_Vq_Ed _ k_Ed_31) (u_Vq_Tb _ k_Tb_96) (u_Vq_Tb _ k_Tb_97) (u_Vq_Tb _ k_Tb_0) (wcs (u_Vq_Tb _ k_Tb_98) (fun _ h => h))) rfl rfl rfl (by decide +kernel) ⟨Nat.le_of_ble_eq_true rfl, Nat.le_of_ble_eq_true rfl⟩) (pv_ofE (X.same _) (fun U z1 z2 => X.mono _ _ U hFc (hEw _ _ hS U z1 z2)) hP hK hD (va_recv hK hP (ci := 4) (q0 := 3) rfl rfl)) rfl rfl hl.1 rfl (lv_room (Nat.le_of_ble_eq_true rfl)) d_Ed_shorten_26 ⟨by decide, by decide⟩) hS (fun q _ h => hFc q h) hFc (fun r_ u t H locs ht hvm hw hB hz1 hk1 hS => ?_)
  rw [hw]
  obtain ⟨hP, -, hD⟩ := hB
  rw [ht] at hP
  have hD := lx_dj hD hFc
  refine va_put (D := (dC, dI)) (ci := 8) (v := .int r_3) (ty := .int) (C := R_Ed) (T := F_Ed) (N := 13) hx hb hts (fun w h => u_Vq_Ed w (i_Ed w h)) t_Ed t_Ed_ok n_Ed hown hK hP hD hS 6 rfl rfl 4 (by decide) (hts _ (u_Vq_Ed _ k_Ed_11)) (fun _ h9 => h9) rfl (by decide +kernel) rfl rfl (Nat.le_of_ble_eq_true rfl) d_Ed_shorten_29 (fun H locs hP hD hS => ?_)
  obtain ⟨S_4, eS_4, h⟩ := lf_lX h
  have hP := ly_newP eS_4 hP
  have hD := ly_newD eS_4 hD
  refine lv_aload_n hx hb d_Ed_shorten_32 rfl (lv_at hl 1 rfl) ?_
  refine lv_iload_n hx hb d_Ed_shorten_33 rfl (lv_at hl 3 rfl) ?_
  obtain ⟨r_5, S_5, hc_5, h⟩ := lf_cE h
  have hFc := lx_free hD hS hA
  refine va_calli (va_runV (As := [.int p1]) (rest := []) ⟨hx, hb, hml, hown, hts⟩ (l_Ed_clustersFor l dC dI X _ hc_5) (cwV 1 hts (gwV good_Vq (u_Vq_Ed _ k_Ed_109) (u_Vq_Ed _ k_Ed_110) (u_Vq_Ed _ k_Ed_142) (u_Vq_Ed _ k_Ed_0) (wcs (u_Vq_Ed _ k_Ed_111) (fun _ h => h))) rfl rfl rfl (by decide +kernel) ⟨Nat.le_of_ble_eq_true rfl, Nat.le_of_ble_eq_true rfl⟩) (pv_ofE (X.same _) (fun U z1 z2 => X.mono _ _ U hFc (hEw _ _ hS U z1 z2)) hP hK hD (va_recv hK hP (ci := 8) (q0 := 6) rfl rfl)) rfl rfl hl.1 rfl (lv_room (Nat.le_of_ble_eq_true rfl)) d_Ed_shorten_34 ⟨by decide, by decide⟩) hS (fun q _ h => hFc q h) hFc (fun r_ u t H locs ht hvm hw hB hz1 hk1 hS => ?_)
  rw [hw]
  obtain ⟨hP, -, hD⟩ := hB
  rw [ht] at hP
  have hD := lx_dj hD hFc
  refine lv_istore (lv' := [(4, .int r_5), (3, .int r_1), (0, .ref M.o_Ed), (1, .int p0), (2, .int p1)]) hx hb d_Ed_shorten_37 hl (by decide) rfl (fun ls hl => ?_)
  refine lv_iload hx hb d_Ed_shorten_39 (lv_at hl 0 rfl) ?_
  refine lv_aload_n hx hb d_Ed_shorten_41 rfl (lv_at hl 2 rfl) ?_
  refine va_get (D := (dC, dI)) (ci := 8) (v := .int S_5.v_Ed_roadLength) (C := R_Ed) (T := F_Ed) (N := 13) hx hb hts (fun w h => u_Vq_Ed w (i_Ed w h)) hown hK hP 6 rfl rfl 4 (by decide) (hts _ (u_Vq_Ed _ k_Ed_11)) (fun _ h9 => h9) rfl d_Ed_shorten_42 ?_
  refine lv_icmp_ge (tgt := 71) hx hb d_Ed_shorten_45 (by decide) (fun c_6 => ?_) (fun c_6 => ?_)
  · have h := lf_t h c_6
    exact hB_71 p1 r_1 r_5 S_5 _ _ _ h hP hD hS (lv_sub hl [2, 4, 1, 0] rfl)
  · have h := lf_f h c_6
    refine lv_iload hx hb d_Ed_shorten_48 (lv_at hl 0 rfl) ?_
    refine lv_if_le (tgt := 71) hx hb d_Ed_shorten_50 (by decide) (fun c_7 => ?_) (fun c_7 => ?_)
    · have h := lf_t h c_7
      exact hB_71 p1 r_1 r_5 S_5 _ _ _ h hP hD hS (lv_sub hl [2, 4, 1, 0] rfl)
    · have h := lf_f h c_7
      refine lv_aload_n hx hb d_Ed_shorten_53 rfl (lv_at hl 2 rfl) ?_
      refine va_get (D := (dC, dI)) (ci := 8) (v := .ref M.o_Tb) (C := R_Ed) (T := F_Ed) (N := 13) hx hb hts (fun w h => u_Vq_Ed w (i_Ed w h)) hown hK hP 6 rfl rfl 1 (by decide) (hts _ (u_Vq_Ed _ k_Ed_8)) (fun _ h9 => h9) rfl d_Ed_shorten_54 ?_
      refine lv_aload_n hx hb d_Ed_shorten_57 rfl (lv_at hl 2 rfl) ?_
      refine va_get (D := (dC, dI)) (ci := 8) (v := .ref M.a_Ed_road) (C := R_Ed) (T := F_Ed) (N := 13) hx hb hts (fun w h => u_Vq_Ed w (i_Ed w h)) hown hK hP 6 rfl rfl 3 (by decide) (hts _ (u_Vq_Ed _ k_Ed_10)) (fun _ h9 => h9) rfl d_Ed_shorten_58 ?_
      refine lv_iload hx hb d_Ed_shorten_61 (lv_at hl 0 rfl) ?_
      refine lv_iconst (v := 1) hx hb d_Ed_shorten_63 (by decide) ?_
      refine lv_isub hx hb d_Ed_shorten_64 ?_
      obtain ⟨g_8, h⟩ := lf_gE h
      refine va_iald hx hb hK hP 36 2 rfl rfl g_8 d_Ed_shorten_65 ?_
      refine lv_ldc (v := 268435455) hx hb hown (hts _ (u_Vq_Ed _ k_Ed_122)) d_Ed_shorten_66 ?_
      obtain ⟨S_9, hc_9, h⟩ := lf_bE h
      have hFc := lx_free hD hS hA
      refine va_callv (va_runV (As := [.int (S_5.w_Ed_road (r_5 - 1).toNatClampNeg), .int 268435455]) (rest := []) ⟨hx, hb, hml, hown, hts⟩ (l_Tb_link l dC dI X _ hc_9) (cwV 2 hts (gwV good_Vq (u_Vq_Ed _ k_Ed_87) (u_Vq_Tb _ k_Tb_92) (u_Vq_Tb _ k_Tb_93) (u_Vq_Tb _ k_Tb_0) (wcs (u_Vq_Tb _ k_Tb_94) (fun _ h => h))) rfl rfl rfl (by decide +kernel) ⟨Nat.le_of_ble_eq_true rfl, Nat.le_of_ble_eq_true rfl⟩) (pv_ofE (X.same _) (fun U z1 z2 => X.mono _ _ U hFc (hEw _ _ hS U z1 z2)) hP hK hD (va_recv hK hP (ci := 4) (q0 := 3) rfl rfl)) rfl rfl hl.1 rfl (lv_room (Nat.le_of_ble_eq_true rfl)) d_Ed_shorten_68 ⟨by decide, by decide⟩) hS (fun q _ h => hFc q h) hFc (fun u t H locs ht hvm hw hB hz1 hk1 hS => ?_)
      obtain ⟨hP, -, hD⟩ := hB
      rw [ht] at hP
      have hD := lx_dj hD hFc
      exact hB_71 p1 r_1 r_5 S_9 _ _ _ h hP hD hS (lv_sub hl [2, 4, 1, 0] rfl)
set_option maxHeartbeats 4000000 in
set_option maxRecDepth 100000 in
theorem l_Ed_dropItem (l : Launch) (dC : Nat → ClassId) (dI : Nat → Nat → Nat) {K : Nat} {M : CA} {E : (Nat → Prop) → State → Prop} (X : ly_X l dC dI K M E) (sz : Nat) {Y : CT} {G : CG} {S S' : CS} {p0 : Int32} {p1 : Int32} (h : f_Ed_dropItem K G S p0 p1 = some S') : Met l y_Ed_dropItem (.code y_Ed_dropItem cb_Ed_dropItem 5 none :: V_Vq) ({ frames := 3, cells := 0, slots := 0, locals := 65 }) (va_Pc [.ref M.o_Ed, .int p0, .int p1] (fun U => U.heap.size = sz ∧ at_ (dC, dI) (fun _ => True) (wV M Y G S) (tV M) U ∧ E (va_A (wV M Y G S) sz) U)) (va_Qv (fun (u : Unit) => True) (fun (u : Unit) t => at_ (dC, dI) (va_A (wV M Y G S) sz) (wV M Y G S') (tV M) t) (va_A (wV M Y G S) sz)) 0 0 (va_A (wV M Y G S) sz) := by
  refine Met.ofW (cc := cb_Ed_dropItem) (maxL := 5) (ret := none) (by decide) rfl ?_
  intro p e s m args below meth c s₁ B hml hv
  obtain ⟨rfl, hsz, ⟨hP, hK, hD0⟩, hE⟩ := hv
  have hx := B.exec
  have hb := B.bytes
  have hr := B.returns
  have hts0 := atoms_spec (ws := .code y_Ed_dropItem cb_Ed_dropItem 5 none :: V_Vq) B.pre
  have hts : ∀ w ∈ V_Vq, w.before ([.ref M.o_Ed, .int p0, .int p1] : List Value).toArray s = true := fun w h => hts0 w (List.mem_cons_of_mem _ h)
  have hown : s.vm.findClass R_Ed = some m.cls := findClass_of_methodNamed B.named
  subst hsz
  have hD := hD0.self (sz := s.heap.size)
  generalize hAe : va_A (wV M Y G S) s.heap.size = A at hD hE ⊢
  have hA : ∀ q : Nat, s.heap.size ≤ q → A q := fun q h => by rw [← hAe]; exact Or.inr h
  have hS : va_S A s.heap s.heap [] := va_S.rf
  have hP : va_P (dC, dI) classes (wV M Y G S) s.heap := hP
  have hK : va_K (dC, dI) classes (tV M) s := hK
  have hEw : ∀ (H : Heap) (locs : List Loc), va_S A s.heap H locs → ∀ U : State, U.heap = H → s.WarmedH U.vm → E A U := fun H locs hS U hU hW => X.kept A s U H locs hE hS hU hW
  have hl := lv_entry ([.ref M.o_Ed, .int p0, .int p1]) (n := 5) (Nat.le_of_ble_eq_true rfl)
  rw [lg_entry_eq]
  generalize (lg_sl ([.ref M.o_Ed, .int p0, .int p1]) ++ List.replicate (5 - (lg_sl ([.ref M.o_Ed, .int p0, .int p1])).length) Slot.unset).toArray = ls at hl ⊢
  have hl : lv_has ls 5 [(0, .ref M.o_Ed), (1, .int p0), (2, .int p1)] := hl
  refine qabs (fun Q hQ => ?_)
  have hB_98 : ∀ (k : Nat), ∀ (y_4 : Int32) (S : CS) (H : Heap) (locs : List Loc) (ls : Array Slot), f_Ed_dropItem_98 K G k y_4 S = some S' → va_P (dC, dI) classes (wV M Y G S) H → va_D A (wV M Y G S) → va_S A s.heap H locs → lv_has ls 5 [(0, .ref M.o_Ed), (4, .int y_4)] → W p l e ({ frames := 3, cells := 0, slots := 0, locals := 65 }) s m ([.ref M.o_Ed, .int p0, .int p1] : List Value).toArray below meth c H locs 0 0 Q (F0 m 98 ls []) := by
    intro k
    induction k with
    | zero => intro y_4 S H locs ls h; exact lf_no h
    | succ k hr_98 =>
      intro y_4 S H locs ls h hP hD hS hl
      rw [f_Ed_dropItem_98] at h
      refine lv_iload hx hb d_Ed_dropItem_98 (lv_at hl 1 rfl) ?_
      refine lv_aload_n hx hb d_Ed_dropItem_100 rfl (lv_at hl 0 rfl) ?_
      refine va_get (D := (dC, dI)) (ci := 8) (v := .int S.v_Ed_roadLength) (C := R_Ed) (T := F_Ed) (N := 13) hx hb hts (fun w h => u_Vq_Ed w (i_Ed w h)) hown hK hP 6 rfl rfl 4 (by decide) (hts _ (u_Vq_Ed _ k_Ed_11)) (fun _ h9 => h9) rfl d_Ed_dropItem_101 ?_
      refine lv_icmp_ge (tgt := 128) hx hb d_Ed_dropItem_104 (by decide) (fun c_14 => ?_) (fun c_14 => ?_)
      · have h := lf_t h c_14
        rw [hQ]
        have e2 : S = S' := Option.some.inj h
        have hP := ly_newP e2.symm hP
        have hD := ly_newD e2.symm hD
        exact W.vret hx hb hr (fun t ht hW => ⟨⟨(), rfl, trivial, by rw [ht]; exact hP, va_K.moved hW.alike hK, hD⟩, hS.F ht⟩) hS.2.2 d_Ed_dropItem_128
      · have h := lf_f h c_14
        refine lv_aload_n hx hb d_Ed_dropItem_107 rfl (lv_at hl 0 rfl) ?_
        refine va_get (D := (dC, dI)) (ci := 8) (v := .ref M.o_Tb) (C := R_Ed) (T := F_Ed) (N := 13) hx hb hts (fun w h => u_Vq_Ed w (i_Ed w h)) hown hK hP 6 rfl rfl 1 (by decide) (hts _ (u_Vq_Ed _ k_Ed_8)) (fun _ h9 => h9) rfl d_Ed_dropItem_108 ?_
        refine lv_aload_n hx hb d_Ed_dropItem_111 rfl (lv_at hl 0 rfl) ?_
        refine va_get (D := (dC, dI)) (ci := 8) (v := .ref M.a_Ed_road) (C := R_Ed) (T := F_Ed) (N := 13) hx hb hts (fun w h => u_Vq_Ed w (i_Ed w h)) hown hK hP 6 rfl rfl 3 (by decide) (hts _ (u_Vq_Ed _ k_Ed_10)) (fun _ h9 => h9) rfl d_Ed_dropItem_112 ?_
        refine lv_iload hx hb d_Ed_dropItem_115 (lv_at hl 1 rfl) ?_
        obtain ⟨g_15, h⟩ := lf_gE h
        refine va_iald hx hb hK hP 36 2 rfl rfl g_15 d_Ed_dropItem_117 ?_
        refine lv_iconst (v := 0) hx hb d_Ed_dropItem_118 (by decide) ?_
        obtain ⟨S_16, hc_16, h⟩ := lf_bE h
        have hFc := lx_free hD hS hA
        refine va_callv (va_runV (As := [.int (S.w_Ed_road y_4.toNatClampNeg), .int 0]) (rest := []) ⟨hx, hb, hml, hown, hts⟩ (l_Tb_link l dC dI X _ hc_16) (cwV 2 hts (gwV good_Vq (u_Vq_Ed _ k_Ed_87) (u_Vq_Tb _ k_Tb_92) (u_Vq_Tb _ k_Tb_93) (u_Vq_Tb _ k_Tb_0) (wcs (u_Vq_Tb _ k_Tb_94) (fun _ h => h))) rfl rfl rfl (by decide +kernel) ⟨Nat.le_of_ble_eq_true rfl, Nat.le_of_ble_eq_true rfl⟩) (pv_ofE (X.same _) (fun U z1 z2 => X.mono _ _ U hFc (hEw _ _ hS U z1 z2)) hP hK hD (va_recv hK hP (ci := 4) (q0 := 3) rfl rfl)) rfl rfl hl.1 rfl (lv_room (Nat.le_of_ble_eq_true rfl)) d_Ed_dropItem_119 ⟨by decide, by decide⟩) hS (fun q _ h => hFc q h) hFc (fun u t H locs ht hvm hw hB hz1 hk1 hS => ?_)
        obtain ⟨hP, -, hD⟩ := hB
        rw [ht] at hP
        have hD := lx_dj hD hFc
        obtain ⟨x_17, ex_17, h⟩ := lf_lX h
        refine lv_iinc (v := x_17) (lv' := [(4, .int x_17), (0, .ref M.o_Ed)]) hx hb d_Ed_dropItem_122 hl (k := 1) rfl (by rw [ex_17]; rfl) (by decide) rfl (fun ls hl => ?_)
        refine lv_goto (tgt := 98) hx hb d_Ed_dropItem_125 (by decide) ?_
        exact hr_98 x_17 S_16 _ _ _ h hP hD hS (lv_sub hl [1, 0] rfl)
  have hB_44 : ∀ (k : Nat), ∀ (y_2 : Int32) (y_3 : Int32) (y_4 : Int32) (S : CS) (H : Heap) (locs : List Loc) (ls : Array Slot), f_Ed_dropItem_44 K G k y_2 y_3 y_4 S = some S' → va_P (dC, dI) classes (wV M Y G S) H → va_D A (wV M Y G S) → va_S A s.heap H locs → lv_has ls 5 [(0, .ref M.o_Ed), (2, .int y_2), (3, .int y_3), (4, .int y_4)] → W p l e ({ frames := 3, cells := 0, slots := 0, locals := 65 }) s m ([.ref M.o_Ed, .int p0, .int p1] : List Value).toArray below meth c H locs 0 0 Q (F0 m 44 ls []) := by
    intro k
    induction k with
    | zero => intro y_2 y_3 y_4 S H locs ls h; exact lf_no h
    | succ k hr_44 =>
      intro y_2 y_3 y_4 S H locs ls h hP hD hS hl
      rw [f_Ed_dropItem_44] at h
      refine lv_iload hx hb d_Ed_dropItem_44 (lv_at hl 3 rfl) ?_
      refine lv_iload_n hx hb d_Ed_dropItem_46 rfl (lv_at hl 2 rfl) ?_
      refine lv_icmp_gt (tgt := 72) hx hb d_Ed_dropItem_47 (by decide) (fun c_7 => ?_) (fun c_7 => ?_)
      · have h := lf_t h c_7
        refine lv_aload_n hx hb d_Ed_dropItem_72 rfl (lv_at hl 0 rfl) ?_
        refine lv_aload_n hx hb d_Ed_dropItem_73 rfl (lv_at hl 0 rfl) ?_
        refine va_get (D := (dC, dI)) (ci := 8) (v := .ref M.o_Tb) (C := R_Ed) (T := F_Ed) (N := 13) hx hb hts (fun w h => u_Vq_Ed w (i_Ed w h)) hown hK hP 6 rfl rfl 1 (by decide) (hts _ (u_Vq_Ed _ k_Ed_8)) (fun _ h9 => h9) rfl d_Ed_dropItem_74 ?_
        refine lv_aload_n hx hb d_Ed_dropItem_77 rfl (lv_at hl 0 rfl) ?_
        refine va_get (D := (dC, dI)) (ci := 8) (v := .ref M.o_Tr) (C := R_Ed) (T := F_Ed) (N := 13) hx hb hts (fun w h => u_Vq_Ed w (i_Ed w h)) hown hK hP 6 rfl rfl 2 (by decide) (hts _ (u_Vq_Ed _ k_Ed_9)) (fun _ h9 => h9) rfl d_Ed_dropItem_78 ?_
        refine lv_iload_n hx hb d_Ed_dropItem_81 rfl (lv_at hl 1 rfl) ?_
        obtain ⟨r_8, S_8, hc_8, h⟩ := lf_cE h
        have hFc := lx_free hD hS hA
        refine va_calli (va_runV (As := [.int y_2]) (rest := [.ref M.o_Tb, .ref M.o_Ed]) ⟨hx, hb, hml, hown, hts⟩ (l_Tr_firstOf l dC dI X _ hc_8) (cwV 1 hts (gwV good_Vq (u_Vq_Ed _ k_Ed_30) (u_Vq_Tr _ k_Tr_45) (u_Vq_Tr _ k_Tr_46) (u_Vq_Tr _ k_Tr_0) (wcs (u_Vq_Tr _ k_Tr_47) (fun _ h => h))) rfl rfl rfl (by decide +kernel) ⟨Nat.le_of_ble_eq_true rfl, Nat.le_of_ble_eq_true rfl⟩) (pv_ofE (X.same _) (fun U z1 z2 => X.mono _ _ U hFc (hEw _ _ hS U z1 z2)) hP hK hD (va_recv hK hP (ci := 5) (q0 := 4) rfl rfl)) rfl rfl hl.1 rfl (lv_room (Nat.le_of_ble_eq_true rfl)) d_Ed_dropItem_82 ⟨by decide, by decide⟩) hS (fun q _ h => hFc q h) hFc (fun r_ u t H locs ht hvm hw hB hz1 hk1 hS => ?_)
        rw [hw]
        obtain ⟨hP, -, hD⟩ := hB
        rw [ht] at hP
        have hD := lx_dj hD hFc
        refine lv_aload_n hx hb d_Ed_dropItem_85 rfl (lv_at hl 0 rfl) ?_
        refine va_get (D := (dC, dI)) (ci := 8) (v := .ref M.a_Ed_road) (C := R_Ed) (T := F_Ed) (N := 13) hx hb hts (fun w h => u_Vq_Ed w (i_Ed w h)) hown hK hP 6 rfl rfl 3 (by decide) (hts _ (u_Vq_Ed _ k_Ed_10)) (fun _ h9 => h9) rfl d_Ed_dropItem_86 ?_
        obtain ⟨r_9, S_9, hc_9, h⟩ := lf_cE h
        have hFc := lx_free hD hS hA
        refine va_calli (va_runV (As := [.int r_8, .ref M.a_Ed_road]) (rest := [.ref M.o_Ed]) ⟨hx, hb, hml, hown, hts⟩ (l_Tb_road_Edroad l dC dI X _ hc_9) (cwV 2 hts (gwV good_Vq (u_Vq_Ed _ k_Ed_31) (u_Vq_Tb _ k_Tb_96) (u_Vq_Tb _ k_Tb_97) (u_Vq_Tb _ k_Tb_0) (wcs (u_Vq_Tb _ k_Tb_98) (fun _ h => h))) rfl rfl rfl (by decide +kernel) ⟨Nat.le_of_ble_eq_true rfl, Nat.le_of_ble_eq_true rfl⟩) (pv_ofE (X.same _) (fun U z1 z2 => X.mono _ _ U hFc (hEw _ _ hS U z1 z2)) hP hK hD (va_recv hK hP (ci := 4) (q0 := 3) rfl rfl)) rfl rfl hl.1 rfl (lv_room (Nat.le_of_ble_eq_true rfl)) d_Ed_dropItem_89 ⟨by decide, by decide⟩) hS (fun q _ h => hFc q h) hFc (fun r_ u t H locs ht hvm hw hB hz1 hk1 hS => ?_)
        rw [hw]
        obtain ⟨hP, -, hD⟩ := hB
        rw [ht] at hP
        have hD := lx_dj hD hFc
        refine va_put (D := (dC, dI)) (ci := 8) (v := .int r_9) (ty := .int) (C := R_Ed) (T := F_Ed) (N := 13) hx hb hts (fun w h => u_Vq_Ed w (i_Ed w h)) t_Ed t_Ed_ok n_Ed hown hK hP hD hS 6 rfl rfl 4 (by decide) (hts _ (u_Vq_Ed _ k_Ed_11)) (fun _ h9 => h9) rfl (by decide +kernel) rfl rfl (Nat.le_of_ble_eq_true rfl) d_Ed_dropItem_92 (fun H locs hP hD hS => ?_)
        obtain ⟨S_10, eS_10, h⟩ := lf_lX h
        have hP := ly_newP eS_10 hP
        have hD := ly_newD eS_10 hD
        refine lv_iconst (v := 0) hx hb d_Ed_dropItem_95 (by decide) ?_
        refine lv_istore (lv' := [(4, .int 0), (0, .ref M.o_Ed), (2, .int y_2), (3, .int y_3)]) hx hb d_Ed_dropItem_96 hl (by decide) rfl (fun ls hl => ?_)
        exact hB_98 K 0 S_10 _ _ _ h hP hD hS (lv_sub hl [1, 0] rfl)
      · have h := lf_f h c_7
        refine lv_aload_n hx hb d_Ed_dropItem_50 rfl (lv_at hl 0 rfl) ?_
        refine va_get (D := (dC, dI)) (ci := 8) (v := .ref M.o_Dk) (C := R_Ed) (T := F_Ed) (N := 13) hx hb hts (fun w h => u_Vq_Ed w (i_Ed w h)) hown hK hP 6 rfl rfl 0 (by decide) (hts _ (u_Vq_Ed _ k_Ed_7)) (fun _ h9 => h9) rfl d_Ed_dropItem_51 ?_
        refine lv_aload_n hx hb d_Ed_dropItem_54 rfl (lv_at hl 0 rfl) ?_
        refine lv_iload hx hb d_Ed_dropItem_55 (lv_at hl 3 rfl) ?_
        obtain ⟨r_11, S_11, hc_11, h⟩ := lf_cE h
        have hFc := lx_free hD hS hA
        refine va_calli (va_runV (As := [.int y_4]) (rest := [.ref M.o_Dk]) ⟨hx, hb, hml, hown, hts⟩ (l_Ed_slotPlace l dC dI X _ hc_11) (cwV 1 hts (gwV good_Vq (u_Vq_Ed _ k_Ed_64) (u_Vq_Ed _ k_Ed_65) (u_Vq_Ed _ k_Ed_136) (u_Vq_Ed _ k_Ed_0) (wcs (u_Vq_Ed _ k_Ed_66) (fun _ h => h))) rfl rfl rfl (by decide +kernel) ⟨Nat.le_of_ble_eq_true rfl, Nat.le_of_ble_eq_true rfl⟩) (pv_ofE (X.same _) (fun U z1 z2 => X.mono _ _ U hFc (hEw _ _ hS U z1 z2)) hP hK hD (va_recv hK hP (ci := 8) (q0 := 6) rfl rfl)) rfl rfl hl.1 rfl (lv_room (Nat.le_of_ble_eq_true rfl)) d_Ed_dropItem_57 ⟨by decide, by decide⟩) hS (fun q _ h => hFc q h) hFc (fun r_ u t H locs ht hvm hw hB hz1 hk1 hS => ?_)
        rw [hw]
        obtain ⟨hP, -, hD⟩ := hB
        rw [ht] at hP
        have hD := lx_dj hD hFc
        refine lv_sipush (v := 229) hx hb d_Ed_dropItem_60 (by decide) ?_
        obtain ⟨S_12, hc_12, h⟩ := lf_bE h
        have hFc := lx_free hD hS hA
        refine va_callv (va_runV (As := [.int r_11, .int 229]) (rest := []) ⟨hx, hb, hml, hown, hts⟩ (l_Dk_putOne l dC dI X _ hc_12) (cwV 2 hts (gwV good_Vq (u_Vq_Ed _ k_Ed_25) (u_Vq_Dk _ k_Dk_11) (u_Vq_Dk _ k_Dk_12) (u_Vq_Dk _ k_Dk_0) (wcs (u_Vq_Dk _ k_Dk_13) (fun _ h => h))) rfl rfl rfl (by decide +kernel) ⟨Nat.le_of_ble_eq_true rfl, Nat.le_of_ble_eq_true rfl⟩) (pv_ofE (X.same _) (fun U z1 z2 => X.mono _ _ U hFc (hEw _ _ hS U z1 z2)) hP hK hD (va_recv hK hP (ci := 0) (q0 := 1) rfl rfl)) rfl rfl hl.1 rfl (lv_room (Nat.le_of_ble_eq_true rfl)) d_Ed_dropItem_63 ⟨by decide, by decide⟩) hS (fun q _ h => hFc q h) hFc (fun u t H locs ht hvm hw hB hz1 hk1 hS => ?_)
        obtain ⟨hP, -, hD⟩ := hB
        rw [ht] at hP
        have hD := lx_dj hD hFc
        obtain ⟨x_13, ex_13, h⟩ := lf_lX h
        refine lv_iinc (v := x_13) (lv' := [(4, .int x_13), (0, .ref M.o_Ed), (2, .int y_2), (3, .int y_3)]) hx hb d_Ed_dropItem_66 hl (k := 3) rfl (by rw [ex_13]; rfl) (by decide) rfl (fun ls hl => ?_)
        refine lv_goto (tgt := 44) hx hb d_Ed_dropItem_69 (by decide) ?_
        exact hr_44 y_2 y_3 x_13 S_12 _ _ _ h hP hD hS (lv_sub hl [1, 2, 3, 0] rfl)
  rw [f_Ed_dropItem] at h
  refine lv_aload_n hx hb d_Ed_dropItem_0 rfl (lv_at hl 0 rfl) ?_
  refine lv_aload_n hx hb d_Ed_dropItem_1 rfl (lv_at hl 0 rfl) ?_
  refine va_get (D := (dC, dI)) (ci := 8) (v := .ref M.o_Tb) (C := R_Ed) (T := F_Ed) (N := 13) hx hb hts (fun w h => u_Vq_Ed w (i_Ed w h)) hown hK hP 6 rfl rfl 1 (by decide) (hts _ (u_Vq_Ed _ k_Ed_8)) (fun _ h9 => h9) rfl d_Ed_dropItem_2 ?_
  refine lv_aload_n hx hb d_Ed_dropItem_5 rfl (lv_at hl 0 rfl) ?_
  refine va_get (D := (dC, dI)) (ci := 8) (v := .ref M.o_Tr) (C := R_Ed) (T := F_Ed) (N := 13) hx hb hts (fun w h => u_Vq_Ed w (i_Ed w h)) hown hK hP 6 rfl rfl 2 (by decide) (hts _ (u_Vq_Ed _ k_Ed_9)) (fun _ h9 => h9) rfl d_Ed_dropItem_6 ?_
  refine lv_iload_n hx hb d_Ed_dropItem_9 rfl (lv_at hl 1 rfl) ?_
  obtain ⟨r_1, S_1, hc_1, h⟩ := lf_cE h
  have hFc := lx_free hD hS hA
  refine va_calli (va_runV (As := [.int p0]) (rest := [.ref M.o_Tb, .ref M.o_Ed]) ⟨hx, hb, hml, hown, hts⟩ (l_Tr_firstOf l dC dI X _ hc_1) (cwV 1 hts (gwV good_Vq (u_Vq_Ed _ k_Ed_30) (u_Vq_Tr _ k_Tr_45) (u_Vq_Tr _ k_Tr_46) (u_Vq_Tr _ k_Tr_0) (wcs (u_Vq_Tr _ k_Tr_47) (fun _ h => h))) rfl rfl rfl (by decide +kernel) ⟨Nat.le_of_ble_eq_true rfl, Nat.le_of_ble_eq_true rfl⟩) (pv_ofE (X.same _) (fun U z1 z2 => X.mono _ _ U hFc (hEw _ _ hS U z1 z2)) hP hK hD (va_recv hK hP (ci := 5) (q0 := 4) rfl rfl)) rfl rfl hl.1 rfl (lv_room (Nat.le_of_ble_eq_true rfl)) d_Ed_dropItem_10 ⟨by decide, by decide⟩) hS (fun q _ h => hFc q h) hFc (fun r_ u t H locs ht hvm hw hB hz1 hk1 hS => ?_)
  rw [hw]
  obtain ⟨hP, -, hD⟩ := hB
  rw [ht] at hP
  have hD := lx_dj hD hFc
  refine lv_aload_n hx hb d_Ed_dropItem_13 rfl (lv_at hl 0 rfl) ?_
  refine va_get (D := (dC, dI)) (ci := 8) (v := .ref M.a_Ed_road) (C := R_Ed) (T := F_Ed) (N := 13) hx hb hts (fun w h => u_Vq_Ed w (i_Ed w h)) hown hK hP 6 rfl rfl 3 (by decide) (hts _ (u_Vq_Ed _ k_Ed_10)) (fun _ h9 => h9) rfl d_Ed_dropItem_14 ?_
  obtain ⟨r_2, S_2, hc_2, h⟩ := lf_cE h
  have hFc := lx_free hD hS hA
  refine va_calli (va_runV (As := [.int r_1, .ref M.a_Ed_road]) (rest := [.ref M.o_Ed]) ⟨hx, hb, hml, hown, hts⟩ (l_Tb_road_Edroad l dC dI X _ hc_2) (cwV 2 hts (gwV good_Vq (u_Vq_Ed _ k_Ed_31) (u_Vq_Tb _ k_Tb_96) (u_Vq_Tb _ k_Tb_97) (u_Vq_Tb _ k_Tb_0) (wcs (u_Vq_Tb _ k_Tb_98) (fun _ h => h))) rfl rfl rfl (by decide +kernel) ⟨Nat.le_of_ble_eq_true rfl, Nat.le_of_ble_eq_true rfl⟩) (pv_ofE (X.same _) (fun U z1 z2 => X.mono _ _ U hFc (hEw _ _ hS U z1 z2)) hP hK hD (va_recv hK hP (ci := 4) (q0 := 3) rfl rfl)) rfl rfl hl.1 rfl (lv_room (Nat.le_of_ble_eq_true rfl)) d_Ed_dropItem_17 ⟨by decide, by decide⟩) hS (fun q _ h => hFc q h) hFc (fun r_ u t H locs ht hvm hw hB hz1 hk1 hS => ?_)
  rw [hw]
  obtain ⟨hP, -, hD⟩ := hB
  rw [ht] at hP
  have hD := lx_dj hD hFc
  refine va_put (D := (dC, dI)) (ci := 8) (v := .int r_2) (ty := .int) (C := R_Ed) (T := F_Ed) (N := 13) hx hb hts (fun w h => u_Vq_Ed w (i_Ed w h)) t_Ed t_Ed_ok n_Ed hown hK hP hD hS 6 rfl rfl 4 (by decide) (hts _ (u_Vq_Ed _ k_Ed_11)) (fun _ h9 => h9) rfl (by decide +kernel) rfl rfl (Nat.le_of_ble_eq_true rfl) d_Ed_dropItem_20 (fun H locs hP hD hS => ?_)
  obtain ⟨S_3, eS_3, h⟩ := lf_lX h
  have hP := ly_newP eS_3 hP
  have hD := ly_newD eS_3 hD
  refine lv_aload_n hx hb d_Ed_dropItem_23 rfl (lv_at hl 0 rfl) ?_
  refine va_get (D := (dC, dI)) (ci := 8) (v := .ref M.o_Tr) (C := R_Ed) (T := F_Ed) (N := 13) hx hb hts (fun w h => u_Vq_Ed w (i_Ed w h)) hown hK hP 6 rfl rfl 2 (by decide) (hts _ (u_Vq_Ed _ k_Ed_9)) (fun _ h9 => h9) rfl d_Ed_dropItem_24 ?_
  refine lv_iload_n hx hb d_Ed_dropItem_27 rfl (lv_at hl 2 rfl) ?_
  obtain ⟨r_4, S_4, hc_4, h⟩ := lf_cE h
  have hFc := lx_free hD hS hA
  refine va_calli (va_runV (As := [.int p1]) (rest := []) ⟨hx, hb, hml, hown, hts⟩ (l_Tr_slotOf l dC dI X _ hc_4) (cwV 1 hts (gwV good_Vq (u_Vq_Ed _ k_Ed_104) (u_Vq_Tr _ k_Tr_104) (u_Vq_Tr _ k_Tr_105) (u_Vq_Tr _ k_Tr_0) (wcs (u_Vq_Tr _ k_Tr_106) (fun _ h => h))) rfl rfl rfl (by decide +kernel) ⟨Nat.le_of_ble_eq_true rfl, Nat.le_of_ble_eq_true rfl⟩) (pv_ofE (X.same _) (fun U z1 z2 => X.mono _ _ U hFc (hEw _ _ hS U z1 z2)) hP hK hD (va_recv hK hP (ci := 5) (q0 := 4) rfl rfl)) rfl rfl hl.1 rfl (lv_room (Nat.le_of_ble_eq_true rfl)) d_Ed_dropItem_28 ⟨by decide, by decide⟩) hS (fun q _ h => hFc q h) hFc (fun r_ u t H locs ht hvm hw hB hz1 hk1 hS => ?_)
  rw [hw]
  obtain ⟨hP, -, hD⟩ := hB
  rw [ht] at hP
  have hD := lx_dj hD hFc
  refine lv_istore_n (lv' := [(3, .int r_4), (0, .ref M.o_Ed), (1, .int p0), (2, .int p1)]) hx hb d_Ed_dropItem_31 rfl hl (by decide) rfl (fun ls hl => ?_)
  refine lv_iload_n hx hb d_Ed_dropItem_32 rfl (lv_at hl 0 rfl) ?_
  refine lv_aload_n hx hb d_Ed_dropItem_33 rfl (lv_at hl 1 rfl) ?_
  refine va_get (D := (dC, dI)) (ci := 8) (v := .ref M.o_Tr) (C := R_Ed) (T := F_Ed) (N := 13) hx hb hts (fun w h => u_Vq_Ed w (i_Ed w h)) hown hK hP 6 rfl rfl 2 (by decide) (hts _ (u_Vq_Ed _ k_Ed_9)) (fun _ h9 => h9) rfl d_Ed_dropItem_34 ?_
  refine lv_iload_n hx hb d_Ed_dropItem_37 rfl (lv_at hl 3 rfl) ?_
  obtain ⟨r_5, S_5, hc_5, h⟩ := lf_cE h
  have hFc := lx_free hD hS hA
  refine va_calli (va_runV (As := [.int p1]) (rest := [.int r_4]) ⟨hx, hb, hml, hown, hts⟩ (l_Tr_partsOf l dC dI X _ hc_5) (cwV 1 hts (gwV good_Vq (u_Vq_Ed _ k_Ed_126) (u_Vq_Tr _ k_Tr_107) (u_Vq_Tr _ k_Tr_108) (u_Vq_Tr _ k_Tr_0) (wcs (u_Vq_Tr _ k_Tr_109) (fun _ h => h))) rfl rfl rfl (by decide +kernel) ⟨Nat.le_of_ble_eq_true rfl, Nat.le_of_ble_eq_true rfl⟩) (pv_ofE (X.same _) (fun U z1 z2 => X.mono _ _ U hFc (hEw _ _ hS U z1 z2)) hP hK hD (va_recv hK hP (ci := 5) (q0 := 4) rfl rfl)) rfl rfl hl.1 rfl (lv_room (Nat.le_of_ble_eq_true rfl)) d_Ed_dropItem_38 ⟨by decide, by decide⟩) hS (fun q _ h => hFc q h) hFc (fun r_ u t H locs ht hvm hw hB hz1 hk1 hS => ?_)
  rw [hw]
  obtain ⟨hP, -, hD⟩ := hB
  rw [ht] at hP
  have hD := lx_dj hD hFc
  refine lv_isub hx hb d_Ed_dropItem_41 ?_
  refine lv_topi (fun x_6 ex_6 => ?_)
  have h := lf_lE h ex_6
  refine lv_istore (lv' := [(4, .int x_6), (3, .int r_4), (0, .ref M.o_Ed), (1, .int p0), (2, .int p1)]) hx hb d_Ed_dropItem_42 hl (by decide) rfl (fun ls hl => ?_)
  exact hB_44 K p1 r_4 x_6 S_5 _ _ _ h hP hD hS (lv_sub hl [2, 4, 1, 0] rfl)
