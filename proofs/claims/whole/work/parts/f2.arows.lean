set_option maxHeartbeats 4000000 in
set_option maxRecDepth 100000 in
theorem l_Tr_widen (l : Launch) (dC : Nat → ClassId) (dI : Nat → Nat → Nat) {K : Nat} {M : CA} {E : (Nat → Prop) → State → Prop} (X : ly_X l dC dI K M E) (sz : Nat) {Y : CT} {G0 G' : CG} {S S' : CS} {p0 : Int32} (h : f_Tr_widen K G0 S p0 = some ((), G', S')) : Met l y_Tr_widen (.code y_Tr_widen cb_Tr_widen 2 none :: V_Vq) ({ frames := 2, cells := G'.gc - G0.gc, slots := G'.gs - G0.gs, locals := 82 }) (va_Pc [.ref M.o_Tr, .int p0] (fun U => U.heap.size = sz ∧ at_ (dC, dI) (fun _ => True) (wV M Y G0 S) (tV M) U ∧ E (va_A (wV M Y G0 S) sz) U)) (va_Qv (fun (u : CT) => True) (fun (u : CT) t => at_ (dC, dI) (va_A (wV M Y G0 S) sz) (wV M u G' S') (tV M) t) (va_A (wV M Y G0 S) sz)) (G'.gc - G0.gc) (G'.gs - G0.gs) (va_A (wV M Y G0 S) sz) := by
  refine Met.ofW (cc := cb_Tr_widen) (maxL := 2) (ret := none) (by decide) rfl ?_
  intro p e s m args below meth c s₁ B hml hv
  obtain ⟨rfl, hsz, ⟨hP, hK, hD0⟩, hE⟩ := hv
  have hx := B.exec
  have hb := B.bytes
  have hr := B.returns
  have hts0 := atoms_spec (ws := .code y_Tr_widen cb_Tr_widen 2 none :: V_Vq) B.pre
  have hts : ∀ w ∈ V_Vq, w.before ([.ref M.o_Tr, .int p0] : List Value).toArray s = true := fun w h => hts0 w (List.mem_cons_of_mem _ h)
  have hown : s.vm.findClass R_Tr = some m.cls := findClass_of_methodNamed B.named
  subst hsz
  have hD := hD0.self (sz := s.heap.size)
  generalize hAe : va_A (wV M Y G0 S) s.heap.size = A at hD hE ⊢
  have hA : ∀ q : Nat, s.heap.size ≤ q → A q := fun q h => by rw [← hAe]; exact Or.inr h
  have hS : va_S A s.heap s.heap [] := va_S.rf
  have hP : va_P (dC, dI) classes (wV M Y G0 S) s.heap := hP
  have hK : va_K (dC, dI) classes (tV M) s := hK
  have hEw : ∀ (H : Heap) (locs : List Loc), va_S A s.heap H locs → ∀ U : State, U.heap = H → s.WarmedH U.vm → E A U := fun H locs hS U hU hW => X.kept A s U H locs hE hS hU hW
  have hl := lv_entry ([.ref M.o_Tr, .int p0]) (n := 2) (Nat.le_of_ble_eq_true rfl)
  rw [lg_entry_eq]
  generalize (lg_sl ([.ref M.o_Tr, .int p0]) ++ List.replicate (2 - (lg_sl ([.ref M.o_Tr, .int p0])).length) Slot.unset).toArray = ls at hl ⊢
  have hl : lv_has ls 2 [(0, .ref M.o_Tr), (1, .int p0)] := hl
  refine qabs (fun Q hQ => ?_)
  have hB_168 : ∀ (Y : CT) (G : CG) (S : CS) (H : Heap) (locs : List Loc) (ls : Array Slot), f_Tr_widen_168 K G S = some ((), G', S') → CG.le G0 G → va_P (dC, dI) classes (wV M Y G S) H → va_D A (wV M Y G S) → va_S A s.heap H locs → lv_has ls 2 [] → W p l e ({ frames := 2, cells := G'.gc - G0.gc, slots := G'.gs - G0.gs, locals := 82 }) s m ([.ref M.o_Tr, .int p0] : List Value).toArray below meth c H locs (G.gc - G0.gc) (G.gs - G0.gs) Q (F0 m 168 ls []) := by
    intro Y G S H locs ls h m0 hP hD hS hl
    have mF := mo_Tr_widen_168 h
    rw [f_Tr_widen_168] at h
    rw [hQ]
    have e2 : G = G' := congrArg (fun z => z.2.1) (Option.some.inj h)
    have e3 : S = S' := congrArg (fun z => z.2.2) (Option.some.inj h)
    have hP := ly_newP3 e2.symm e3.symm hP
    have hD := ly_newD3 e2.symm e3.symm hD
    refine W.widen (k := G'.gc - G0.gc) (n := G'.gs - G0.gs) (ly_wc e2) (ly_ws e2) ?_
    exact W.vret hx hb hr (fun t ht hW => ⟨⟨Y, rfl, trivial, by rw [ht]; exact hP, va_K.moved hW.alike hK, hD⟩, hS.F ht⟩) hS.2.2 d_Tr_widen_168
  have hB_156 : ∀ (y_1 : Int32) (Y : CT) (G : CG) (S : CS) (H : Heap) (locs : List Loc) (ls : Array Slot), f_Tr_widen_156 K y_1 G S = some ((), G', S') → CG.le G0 G → va_P (dC, dI) classes (wV M Y G S) H → va_D A (wV M Y G S) → va_S A s.heap H locs → lv_has ls 2 [(0, .ref M.o_Tr), (1, .int y_1)] → W p l e ({ frames := 2, cells := G'.gc - G0.gc, slots := G'.gs - G0.gs, locals := 82 }) s m ([.ref M.o_Tr, .int p0] : List Value).toArray below meth c H locs (G.gc - G0.gc) (G.gs - G0.gs) Q (F0 m 156 ls []) := by
    intro y_1 Y G S H locs ls h m0 hP hD hS hl
    have mF := mo_Tr_widen_156 h
    rw [f_Tr_widen_156] at h
    refine lv_aload_n hx hb d_Tr_widen_156 rfl (lv_at hl 0 rfl) ?_
    refine lv_aload_n hx hb d_Tr_widen_157 rfl (lv_at hl 0 rfl) ?_
    refine va_get (D := (dC, dI)) (ci := 5) (v := .ref Y.a_builtBlocks) (C := R_Tr) (T := F_Tr) (N := 18) hx hb hts (fun w h => u_Vq_Tr w (i_Tr w h)) hown hK hP 4 rfl rfl 15 (by decide) (hts _ (u_Vq_Tr _ k_Tr_20)) (fun _ h9 => h9) rfl d_Tr_widen_158 ?_
    refine lv_iload_n hx hb d_Tr_widen_161 rfl (lv_at hl 1 rfl) ?_
    obtain ⟨g_27, h⟩ := lf_gE h
    obtain ⟨G_28, eG_28, h⟩ := lf_lX h
    obtain ⟨S_28, eS_28, h⟩ := lf_lX h
    have mc : CG.le G G_28 := by rw [eG_28]; exact ⟨Nat.le_add_right _ _, Nat.le_add_right _ _⟩
    have ml_28 : CG.le G G_28 := by rw [eG_28]; exact ⟨Nat.le_add_right _ _, Nat.le_add_right _ _⟩
    have mF1 := mo_Tr_widen_168 h
    have hPc := hP.sub (ws' := [(Y.a_builtBlocks, .inl (M.kI, G.l_builtBlocks, .inl S.w_Tr_builtBlocks))]) [30] rfl
    have hDc := hD.sub (ws' := [(Y.a_builtBlocks, .inl (M.kI, G.l_builtBlocks, .inl S.w_Tr_builtBlocks))]) [30] (by decide) rfl
    have hKc := hK.sub (tys' := [(M.kI, .int)]) [2] rfl
    have hFc := va_free (wc := [(Y.a_builtBlocks, .inl (M.kI, G.l_builtBlocks, .inl S.w_Tr_builtBlocks))]) hD hS hA [30] rfl
    refine va_callr (va_runS (As := [.ref Y.a_builtBlocks, .int y_1]) (rest := [.ref M.o_Tr]) ⟨hx, hb, hml, hown, hts⟩ (l_Ar_copyOf l dC dI Y.a_builtBlocks _ M.kI G.l_builtBlocks S.w_Tr_builtBlocks g_27.2.2.2 g_27.1 ⟨g_27.2.1, g_27.2.2.1⟩) (va_cwS 2 hts (gwS good_Vq (u_Vq_Tr _ k_Tr_33) (u_Vq_J _ k_J_16) (u_Vq_J _ k_J_2) (wcs (u_Vq_J _ k_J_17) u_Vq_J)) rfl rfl rfl (by decide +kernel) ⟨Nat.le_of_ble_eq_true rfl, Nat.le_of_ble_eq_true rfl⟩) (ps_of hPc hKc hDc) rfl rfl hl.1 rfl (lv_room (Nat.le_of_ble_eq_true rfl)) d_Tr_widen_162 (ly_c3_builtBlocks rfl rfl eG_28 m0 mF1)) hS (fun q _ h => hFc q h) hFc (fun u ra t H locs ht hvm hw hB hz1 hk1 hS => ?_)
    obtain ⟨hP1, -, hD1⟩ := hB
    rw [ht] at hP1
    obtain ⟨hP, hD⟩ := va_join (wr := (wV M Y G S).eraseIdx 30) (w1 := [(Y.a_builtBlocks, .inl (M.kI, G.l_builtBlocks, .inl S.w_Tr_builtBlocks)), (ra, .inl (M.kI, y_1.toNatClampNeg, .inl (va_cpy S.w_Tr_builtBlocks (fun _ => 0) 0 0 (min G.l_builtBlocks y_1.toNatClampNeg))))]) hP hD [30] [0, 1, 2, 3, 4, 5, 6, 7, 8, 9, 10, 11, 12, 13, 14, 15, 16, 17, 18, 19, 20, 21, 22, 23, 24, 25, 26, 27, 28, 29, 31, 32, 33, 34, 35, 36, 37, 38, 39, 40, 41, 42, 43, 44] rfl rfl (by decide) (by decide) hk1 hFc hP1 hD1
    have hP := hP.sub (ws' := wV M Y G S ++ [(ra, .inl (M.kI, y_1.toNatClampNeg, .inl (va_cpy S.w_Tr_builtBlocks (fun _ => 0) 0 0 (min G.l_builtBlocks y_1.toNatClampNeg))))]) [0, 1, 2, 3, 4, 5, 6, 7, 8, 9, 10, 11, 12, 13, 14, 15, 16, 17, 18, 19, 20, 21, 22, 23, 24, 25, 26, 27, 28, 29, 44, 30, 31, 32, 33, 34, 35, 36, 37, 38, 39, 40, 41, 42, 43, 45] rfl
    have hD := hD.sub (ws' := wV M Y G S ++ [(ra, .inl (M.kI, y_1.toNatClampNeg, .inl (va_cpy S.w_Tr_builtBlocks (fun _ => 0) 0 0 (min G.l_builtBlocks y_1.toNatClampNeg))))]) [0, 1, 2, 3, 4, 5, 6, 7, 8, 9, 10, 11, 12, 13, 14, 15, 16, 17, 18, 19, 20, 21, 22, 23, 24, 25, 26, 27, 28, 29, 44, 30, 31, 32, 33, 34, 35, 36, 37, 38, 39, 40, 41, 42, 43, 45] (by decide) rfl
    refine va_put (D := (dC, dI)) (ci := 5) (v := .ref ra) (ty := .array .int) (C := R_Tr) (T := F_Tr) (N := 18) hx hb hts (fun w h => u_Vq_Tr w (i_Tr w h)) t_Tr t_Tr_ok n_Tr hown hK hP hD hS 4 rfl rfl 15 (by decide) (hts _ (u_Vq_Tr _ k_Tr_20)) (fun _ h9 => h9) rfl (by decide +kernel) rfl rfl (Nat.le_of_ble_eq_true rfl) d_Tr_widen_165 (fun H locs hP hD hS => ?_)
    have hP := ly_newP3 eG_28 eS_28 (hP.sub (ws' := wV M (Y.u_a_builtBlocks ra) ((G.u_l_builtBlocks y_1.toNatClampNeg).made 1 y_1.toNatClampNeg) (S.u_w_Tr_builtBlocks (va_cpy S.w_Tr_builtBlocks (fun _ => 0) 0 0 (min G.l_builtBlocks y_1.toNatClampNeg)))) [0, 1, 2, 3, 4, 5, 6, 7, 8, 9, 10, 11, 12, 13, 14, 15, 16, 17, 18, 19, 20, 21, 22, 23, 24, 25, 26, 27, 28, 29, 45, 31, 32, 33, 34, 35, 36, 37, 38, 39, 40, 41, 42, 43, 44] rfl)
    have hD := ly_newD3 eG_28 eS_28 (hD.sub (ws' := wV M (Y.u_a_builtBlocks ra) ((G.u_l_builtBlocks y_1.toNatClampNeg).made 1 y_1.toNatClampNeg) (S.u_w_Tr_builtBlocks (va_cpy S.w_Tr_builtBlocks (fun _ => 0) 0 0 (min G.l_builtBlocks y_1.toNatClampNeg)))) [0, 1, 2, 3, 4, 5, 6, 7, 8, 9, 10, 11, 12, 13, 14, 15, 16, 17, 18, 19, 20, 21, 22, 23, 24, 25, 26, 27, 28, 29, 45, 31, 32, 33, 34, 35, 36, 37, 38, 39, 40, 41, 42, 43, 44] (by decide) rfl)
    refine W.widen (k := G_28.gc - G0.gc) (n := G_28.gs - G0.gs) (ly_c4_builtBlocks eG_28 m0) (ly_c5_builtBlocks eG_28 m0) ?_
    have m0 := CG.le_tr m0 mc
    obtain ⟨Y_28, eY⟩ : ∃ y, y = (Y.u_a_builtBlocks ra) := ⟨_, rfl⟩
    rw [← eY] at hP hD
    exact hB_168 Y_28 G_28 S_28 _ _ _ h m0 hP hD hS (lv_sub hl [] rfl)
  have hB_144 : ∀ (y_1 : Int32) (Y : CT) (G : CG) (S : CS) (H : Heap) (locs : List Loc) (ls : Array Slot), f_Tr_widen_144 K y_1 G S = some ((), G', S') → CG.le G0 G → va_P (dC, dI) classes (wV M Y G S) H → va_D A (wV M Y G S) → va_S A s.heap H locs → lv_has ls 2 [(0, .ref M.o_Tr), (1, .int y_1)] → W p l e ({ frames := 2, cells := G'.gc - G0.gc, slots := G'.gs - G0.gs, locals := 82 }) s m ([.ref M.o_Tr, .int p0] : List Value).toArray below meth c H locs (G.gc - G0.gc) (G.gs - G0.gs) Q (F0 m 144 ls []) := by
    intro y_1 Y G S H locs ls h m0 hP hD hS hl
    have mF := mo_Tr_widen_144 h
    rw [f_Tr_widen_144] at h
    refine lv_aload_n hx hb d_Tr_widen_144 rfl (lv_at hl 0 rfl) ?_
    refine lv_aload_n hx hb d_Tr_widen_145 rfl (lv_at hl 0 rfl) ?_
    refine va_get (D := (dC, dI)) (ci := 5) (v := .ref Y.a_built) (C := R_Tr) (T := F_Tr) (N := 18) hx hb hts (fun w h => u_Vq_Tr w (i_Tr w h)) hown hK hP 4 rfl rfl 14 (by decide) (hts _ (u_Vq_Tr _ k_Tr_19)) (fun _ h9 => h9) rfl d_Tr_widen_146 ?_
    refine lv_iload_n hx hb d_Tr_widen_149 rfl (lv_at hl 1 rfl) ?_
    obtain ⟨g_25, h⟩ := lf_gE h
    obtain ⟨G_26, eG_26, h⟩ := lf_lX h
    obtain ⟨S_26, eS_26, h⟩ := lf_lX h
    have mc : CG.le G G_26 := by rw [eG_26]; exact ⟨Nat.le_add_right _ _, Nat.le_add_right _ _⟩
    have ml_26 : CG.le G G_26 := by rw [eG_26]; exact ⟨Nat.le_add_right _ _, Nat.le_add_right _ _⟩
    have mF1 := mo_Tr_widen_156 h
    have hPc := hP.sub (ws' := [(Y.a_built, .inl (M.kI, G.l_built, .inl S.w_Tr_built))]) [29] rfl
    have hDc := hD.sub (ws' := [(Y.a_built, .inl (M.kI, G.l_built, .inl S.w_Tr_built))]) [29] (by decide) rfl
    have hKc := hK.sub (tys' := [(M.kI, .int)]) [2] rfl
    have hFc := va_free (wc := [(Y.a_built, .inl (M.kI, G.l_built, .inl S.w_Tr_built))]) hD hS hA [29] rfl
    refine va_callr (va_runS (As := [.ref Y.a_built, .int y_1]) (rest := [.ref M.o_Tr]) ⟨hx, hb, hml, hown, hts⟩ (l_Ar_copyOf l dC dI Y.a_built _ M.kI G.l_built S.w_Tr_built g_25.2.2.2 g_25.1 ⟨g_25.2.1, g_25.2.2.1⟩) (va_cwS 2 hts (gwS good_Vq (u_Vq_Tr _ k_Tr_33) (u_Vq_J _ k_J_16) (u_Vq_J _ k_J_2) (wcs (u_Vq_J _ k_J_17) u_Vq_J)) rfl rfl rfl (by decide +kernel) ⟨Nat.le_of_ble_eq_true rfl, Nat.le_of_ble_eq_true rfl⟩) (ps_of hPc hKc hDc) rfl rfl hl.1 rfl (lv_room (Nat.le_of_ble_eq_true rfl)) d_Tr_widen_150 (ly_c3_built rfl rfl eG_26 m0 mF1)) hS (fun q _ h => hFc q h) hFc (fun u ra t H locs ht hvm hw hB hz1 hk1 hS => ?_)
    obtain ⟨hP1, -, hD1⟩ := hB
    rw [ht] at hP1
    obtain ⟨hP, hD⟩ := va_join (wr := (wV M Y G S).eraseIdx 29) (w1 := [(Y.a_built, .inl (M.kI, G.l_built, .inl S.w_Tr_built)), (ra, .inl (M.kI, y_1.toNatClampNeg, .inl (va_cpy S.w_Tr_built (fun _ => 0) 0 0 (min G.l_built y_1.toNatClampNeg))))]) hP hD [29] [0, 1, 2, 3, 4, 5, 6, 7, 8, 9, 10, 11, 12, 13, 14, 15, 16, 17, 18, 19, 20, 21, 22, 23, 24, 25, 26, 27, 28, 30, 31, 32, 33, 34, 35, 36, 37, 38, 39, 40, 41, 42, 43, 44] rfl rfl (by decide) (by decide) hk1 hFc hP1 hD1
    have hP := hP.sub (ws' := wV M Y G S ++ [(ra, .inl (M.kI, y_1.toNatClampNeg, .inl (va_cpy S.w_Tr_built (fun _ => 0) 0 0 (min G.l_built y_1.toNatClampNeg))))]) [0, 1, 2, 3, 4, 5, 6, 7, 8, 9, 10, 11, 12, 13, 14, 15, 16, 17, 18, 19, 20, 21, 22, 23, 24, 25, 26, 27, 28, 44, 29, 30, 31, 32, 33, 34, 35, 36, 37, 38, 39, 40, 41, 42, 43, 45] rfl
    have hD := hD.sub (ws' := wV M Y G S ++ [(ra, .inl (M.kI, y_1.toNatClampNeg, .inl (va_cpy S.w_Tr_built (fun _ => 0) 0 0 (min G.l_built y_1.toNatClampNeg))))]) [0, 1, 2, 3, 4, 5, 6, 7, 8, 9, 10, 11, 12, 13, 14, 15, 16, 17, 18, 19, 20, 21, 22, 23, 24, 25, 26, 27, 28, 44, 29, 30, 31, 32, 33, 34, 35, 36, 37, 38, 39, 40, 41, 42, 43, 45] (by decide) rfl
    refine va_put (D := (dC, dI)) (ci := 5) (v := .ref ra) (ty := .array .int) (C := R_Tr) (T := F_Tr) (N := 18) hx hb hts (fun w h => u_Vq_Tr w (i_Tr w h)) t_Tr t_Tr_ok n_Tr hown hK hP hD hS 4 rfl rfl 14 (by decide) (hts _ (u_Vq_Tr _ k_Tr_19)) (fun _ h9 => h9) rfl (by decide +kernel) rfl rfl (Nat.le_of_ble_eq_true rfl) d_Tr_widen_153 (fun H locs hP hD hS => ?_)
    have hP := ly_newP3 eG_26 eS_26 (hP.sub (ws' := wV M (Y.u_a_built ra) ((G.u_l_built y_1.toNatClampNeg).made 1 y_1.toNatClampNeg) (S.u_w_Tr_built (va_cpy S.w_Tr_built (fun _ => 0) 0 0 (min G.l_built y_1.toNatClampNeg)))) [0, 1, 2, 3, 4, 5, 6, 7, 8, 9, 10, 11, 12, 13, 14, 15, 16, 17, 18, 19, 20, 21, 22, 23, 24, 25, 26, 27, 28, 45, 30, 31, 32, 33, 34, 35, 36, 37, 38, 39, 40, 41, 42, 43, 44] rfl)
    have hD := ly_newD3 eG_26 eS_26 (hD.sub (ws' := wV M (Y.u_a_built ra) ((G.u_l_built y_1.toNatClampNeg).made 1 y_1.toNatClampNeg) (S.u_w_Tr_built (va_cpy S.w_Tr_built (fun _ => 0) 0 0 (min G.l_built y_1.toNatClampNeg)))) [0, 1, 2, 3, 4, 5, 6, 7, 8, 9, 10, 11, 12, 13, 14, 15, 16, 17, 18, 19, 20, 21, 22, 23, 24, 25, 26, 27, 28, 45, 30, 31, 32, 33, 34, 35, 36, 37, 38, 39, 40, 41, 42, 43, 44] (by decide) rfl)
    refine W.widen (k := G_26.gc - G0.gc) (n := G_26.gs - G0.gs) (ly_c4_built eG_26 m0) (ly_c5_built eG_26 m0) ?_
    have m0 := CG.le_tr m0 mc
    obtain ⟨Y_26, eY⟩ : ∃ y, y = (Y.u_a_built ra) := ⟨_, rfl⟩
    rw [← eY] at hP hD
    exact hB_156 y_1 Y_26 G_26 S_26 _ _ _ h m0 hP hD hS (lv_sub hl [0, 1] rfl)
  have hB_132 : ∀ (y_1 : Int32) (Y : CT) (G : CG) (S : CS) (H : Heap) (locs : List Loc) (ls : Array Slot), f_Tr_widen_132 K y_1 G S = some ((), G', S') → CG.le G0 G → va_P (dC, dI) classes (wV M Y G S) H → va_D A (wV M Y G S) → va_S A s.heap H locs → lv_has ls 2 [(0, .ref M.o_Tr), (1, .int y_1)] → W p l e ({ frames := 2, cells := G'.gc - G0.gc, slots := G'.gs - G0.gs, locals := 82 }) s m ([.ref M.o_Tr, .int p0] : List Value).toArray below meth c H locs (G.gc - G0.gc) (G.gs - G0.gs) Q (F0 m 132 ls []) := by
    intro y_1 Y G S H locs ls h m0 hP hD hS hl
    have mF := mo_Tr_widen_132 h
    rw [f_Tr_widen_132] at h
    refine lv_aload_n hx hb d_Tr_widen_132 rfl (lv_at hl 0 rfl) ?_
    refine lv_aload_n hx hb d_Tr_widen_133 rfl (lv_at hl 0 rfl) ?_
    refine va_get (D := (dC, dI)) (ci := 5) (v := .ref Y.a_nameBytes) (C := R_Tr) (T := F_Tr) (N := 18) hx hb hts (fun w h => u_Vq_Tr w (i_Tr w h)) hown hK hP 4 rfl rfl 13 (by decide) (hts _ (u_Vq_Tr _ k_Tr_18)) (fun _ h9 => h9) rfl d_Tr_widen_134 ?_
    refine lv_iload_n hx hb d_Tr_widen_137 rfl (lv_at hl 1 rfl) ?_
    obtain ⟨g_23, h⟩ := lf_gE h
    obtain ⟨G_24, eG_24, h⟩ := lf_lX h
    obtain ⟨S_24, eS_24, h⟩ := lf_lX h
    have mc : CG.le G G_24 := by rw [eG_24]; exact ⟨Nat.le_add_right _ _, Nat.le_add_right _ _⟩
    have ml_24 : CG.le G G_24 := by rw [eG_24]; exact ⟨Nat.le_add_right _ _, Nat.le_add_right _ _⟩
    have mF1 := mo_Tr_widen_144 h
    have hPc := hP.sub (ws' := [(Y.a_nameBytes, .inl (M.kI, G.l_nameBytes, .inl S.w_Tr_nameBytes))]) [28] rfl
    have hDc := hD.sub (ws' := [(Y.a_nameBytes, .inl (M.kI, G.l_nameBytes, .inl S.w_Tr_nameBytes))]) [28] (by decide) rfl
    have hKc := hK.sub (tys' := [(M.kI, .int)]) [2] rfl
    have hFc := va_free (wc := [(Y.a_nameBytes, .inl (M.kI, G.l_nameBytes, .inl S.w_Tr_nameBytes))]) hD hS hA [28] rfl
    refine va_callr (va_runS (As := [.ref Y.a_nameBytes, .int y_1]) (rest := [.ref M.o_Tr]) ⟨hx, hb, hml, hown, hts⟩ (l_Ar_copyOf l dC dI Y.a_nameBytes _ M.kI G.l_nameBytes S.w_Tr_nameBytes g_23.2.2.2 g_23.1 ⟨g_23.2.1, g_23.2.2.1⟩) (va_cwS 2 hts (gwS good_Vq (u_Vq_Tr _ k_Tr_33) (u_Vq_J _ k_J_16) (u_Vq_J _ k_J_2) (wcs (u_Vq_J _ k_J_17) u_Vq_J)) rfl rfl rfl (by decide +kernel) ⟨Nat.le_of_ble_eq_true rfl, Nat.le_of_ble_eq_true rfl⟩) (ps_of hPc hKc hDc) rfl rfl hl.1 rfl (lv_room (Nat.le_of_ble_eq_true rfl)) d_Tr_widen_138 (ly_c3_nameBytes rfl rfl eG_24 m0 mF1)) hS (fun q _ h => hFc q h) hFc (fun u ra t H locs ht hvm hw hB hz1 hk1 hS => ?_)
    obtain ⟨hP1, -, hD1⟩ := hB
    rw [ht] at hP1
    obtain ⟨hP, hD⟩ := va_join (wr := (wV M Y G S).eraseIdx 28) (w1 := [(Y.a_nameBytes, .inl (M.kI, G.l_nameBytes, .inl S.w_Tr_nameBytes)), (ra, .inl (M.kI, y_1.toNatClampNeg, .inl (va_cpy S.w_Tr_nameBytes (fun _ => 0) 0 0 (min G.l_nameBytes y_1.toNatClampNeg))))]) hP hD [28] [0, 1, 2, 3, 4, 5, 6, 7, 8, 9, 10, 11, 12, 13, 14, 15, 16, 17, 18, 19, 20, 21, 22, 23, 24, 25, 26, 27, 29, 30, 31, 32, 33, 34, 35, 36, 37, 38, 39, 40, 41, 42, 43, 44] rfl rfl (by decide) (by decide) hk1 hFc hP1 hD1
    have hP := hP.sub (ws' := wV M Y G S ++ [(ra, .inl (M.kI, y_1.toNatClampNeg, .inl (va_cpy S.w_Tr_nameBytes (fun _ => 0) 0 0 (min G.l_nameBytes y_1.toNatClampNeg))))]) [0, 1, 2, 3, 4, 5, 6, 7, 8, 9, 10, 11, 12, 13, 14, 15, 16, 17, 18, 19, 20, 21, 22, 23, 24, 25, 26, 27, 44, 28, 29, 30, 31, 32, 33, 34, 35, 36, 37, 38, 39, 40, 41, 42, 43, 45] rfl
    have hD := hD.sub (ws' := wV M Y G S ++ [(ra, .inl (M.kI, y_1.toNatClampNeg, .inl (va_cpy S.w_Tr_nameBytes (fun _ => 0) 0 0 (min G.l_nameBytes y_1.toNatClampNeg))))]) [0, 1, 2, 3, 4, 5, 6, 7, 8, 9, 10, 11, 12, 13, 14, 15, 16, 17, 18, 19, 20, 21, 22, 23, 24, 25, 26, 27, 44, 28, 29, 30, 31, 32, 33, 34, 35, 36, 37, 38, 39, 40, 41, 42, 43, 45] (by decide) rfl
    refine va_put (D := (dC, dI)) (ci := 5) (v := .ref ra) (ty := .array .int) (C := R_Tr) (T := F_Tr) (N := 18) hx hb hts (fun w h => u_Vq_Tr w (i_Tr w h)) t_Tr t_Tr_ok n_Tr hown hK hP hD hS 4 rfl rfl 13 (by decide) (hts _ (u_Vq_Tr _ k_Tr_18)) (fun _ h9 => h9) rfl (by decide +kernel) rfl rfl (Nat.le_of_ble_eq_true rfl) d_Tr_widen_141 (fun H locs hP hD hS => ?_)
    have hP := ly_newP3 eG_24 eS_24 (hP.sub (ws' := wV M (Y.u_a_nameBytes ra) ((G.u_l_nameBytes y_1.toNatClampNeg).made 1 y_1.toNatClampNeg) (S.u_w_Tr_nameBytes (va_cpy S.w_Tr_nameBytes (fun _ => 0) 0 0 (min G.l_nameBytes y_1.toNatClampNeg)))) [0, 1, 2, 3, 4, 5, 6, 7, 8, 9, 10, 11, 12, 13, 14, 15, 16, 17, 18, 19, 20, 21, 22, 23, 24, 25, 26, 27, 45, 29, 30, 31, 32, 33, 34, 35, 36, 37, 38, 39, 40, 41, 42, 43, 44] rfl)
    have hD := ly_newD3 eG_24 eS_24 (hD.sub (ws' := wV M (Y.u_a_nameBytes ra) ((G.u_l_nameBytes y_1.toNatClampNeg).made 1 y_1.toNatClampNeg) (S.u_w_Tr_nameBytes (va_cpy S.w_Tr_nameBytes (fun _ => 0) 0 0 (min G.l_nameBytes y_1.toNatClampNeg)))) [0, 1, 2, 3, 4, 5, 6, 7, 8, 9, 10, 11, 12, 13, 14, 15, 16, 17, 18, 19, 20, 21, 22, 23, 24, 25, 26, 27, 45, 29, 30, 31, 32, 33, 34, 35, 36, 37, 38, 39, 40, 41, 42, 43, 44] (by decide) rfl)
    refine W.widen (k := G_24.gc - G0.gc) (n := G_24.gs - G0.gs) (ly_c4_nameBytes eG_24 m0) (ly_c5_nameBytes eG_24 m0) ?_
    have m0 := CG.le_tr m0 mc
    obtain ⟨Y_24, eY⟩ : ∃ y, y = (Y.u_a_nameBytes ra) := ⟨_, rfl⟩
    rw [← eY] at hP hD
    exact hB_144 y_1 Y_24 G_24 S_24 _ _ _ h m0 hP hD hS (lv_sub hl [0, 1] rfl)
  have hB_120 : ∀ (y_1 : Int32) (Y : CT) (G : CG) (S : CS) (H : Heap) (locs : List Loc) (ls : Array Slot), f_Tr_widen_120 K y_1 G S = some ((), G', S') → CG.le G0 G → va_P (dC, dI) classes (wV M Y G S) H → va_D A (wV M Y G S) → va_S A s.heap H locs → lv_has ls 2 [(0, .ref M.o_Tr), (1, .int y_1)] → W p l e ({ frames := 2, cells := G'.gc - G0.gc, slots := G'.gs - G0.gs, locals := 82 }) s m ([.ref M.o_Tr, .int p0] : List Value).toArray below meth c H locs (G.gc - G0.gc) (G.gs - G0.gs) Q (F0 m 120 ls []) := by
    intro y_1 Y G S H locs ls h m0 hP hD hS hl
    have mF := mo_Tr_widen_120 h
    rw [f_Tr_widen_120] at h
    refine lv_aload_n hx hb d_Tr_widen_120 rfl (lv_at hl 0 rfl) ?_
    refine lv_aload_n hx hb d_Tr_widen_121 rfl (lv_at hl 0 rfl) ?_
    refine va_get (D := (dC, dI)) (ci := 5) (v := .ref Y.a_nameLength) (C := R_Tr) (T := F_Tr) (N := 18) hx hb hts (fun w h => u_Vq_Tr w (i_Tr w h)) hown hK hP 4 rfl rfl 12 (by decide) (hts _ (u_Vq_Tr _ k_Tr_17)) (fun _ h9 => h9) rfl d_Tr_widen_122 ?_
    refine lv_iload_n hx hb d_Tr_widen_125 rfl (lv_at hl 1 rfl) ?_
    obtain ⟨g_21, h⟩ := lf_gE h
    obtain ⟨G_22, eG_22, h⟩ := lf_lX h
    obtain ⟨S_22, eS_22, h⟩ := lf_lX h
    have mc : CG.le G G_22 := by rw [eG_22]; exact ⟨Nat.le_add_right _ _, Nat.le_add_right _ _⟩
    have ml_22 : CG.le G G_22 := by rw [eG_22]; exact ⟨Nat.le_add_right _ _, Nat.le_add_right _ _⟩
    have mF1 := mo_Tr_widen_132 h
    have hPc := hP.sub (ws' := [(Y.a_nameLength, .inl (M.kI, G.l_nameLength, .inl S.w_Tr_nameLength))]) [27] rfl
    have hDc := hD.sub (ws' := [(Y.a_nameLength, .inl (M.kI, G.l_nameLength, .inl S.w_Tr_nameLength))]) [27] (by decide) rfl
    have hKc := hK.sub (tys' := [(M.kI, .int)]) [2] rfl
    have hFc := va_free (wc := [(Y.a_nameLength, .inl (M.kI, G.l_nameLength, .inl S.w_Tr_nameLength))]) hD hS hA [27] rfl
    refine va_callr (va_runS (As := [.ref Y.a_nameLength, .int y_1]) (rest := [.ref M.o_Tr]) ⟨hx, hb, hml, hown, hts⟩ (l_Ar_copyOf l dC dI Y.a_nameLength _ M.kI G.l_nameLength S.w_Tr_nameLength g_21.2.2.2 g_21.1 ⟨g_21.2.1, g_21.2.2.1⟩) (va_cwS 2 hts (gwS good_Vq (u_Vq_Tr _ k_Tr_33) (u_Vq_J _ k_J_16) (u_Vq_J _ k_J_2) (wcs (u_Vq_J _ k_J_17) u_Vq_J)) rfl rfl rfl (by decide +kernel) ⟨Nat.le_of_ble_eq_true rfl, Nat.le_of_ble_eq_true rfl⟩) (ps_of hPc hKc hDc) rfl rfl hl.1 rfl (lv_room (Nat.le_of_ble_eq_true rfl)) d_Tr_widen_126 (ly_c3_nameLength rfl rfl eG_22 m0 mF1)) hS (fun q _ h => hFc q h) hFc (fun u ra t H locs ht hvm hw hB hz1 hk1 hS => ?_)
    obtain ⟨hP1, -, hD1⟩ := hB
    rw [ht] at hP1
    obtain ⟨hP, hD⟩ := va_join (wr := (wV M Y G S).eraseIdx 27) (w1 := [(Y.a_nameLength, .inl (M.kI, G.l_nameLength, .inl S.w_Tr_nameLength)), (ra, .inl (M.kI, y_1.toNatClampNeg, .inl (va_cpy S.w_Tr_nameLength (fun _ => 0) 0 0 (min G.l_nameLength y_1.toNatClampNeg))))]) hP hD [27] [0, 1, 2, 3, 4, 5, 6, 7, 8, 9, 10, 11, 12, 13, 14, 15, 16, 17, 18, 19, 20, 21, 22, 23, 24, 25, 26, 28, 29, 30, 31, 32, 33, 34, 35, 36, 37, 38, 39, 40, 41, 42, 43, 44] rfl rfl (by decide) (by decide) hk1 hFc hP1 hD1
    have hP := hP.sub (ws' := wV M Y G S ++ [(ra, .inl (M.kI, y_1.toNatClampNeg, .inl (va_cpy S.w_Tr_nameLength (fun _ => 0) 0 0 (min G.l_nameLength y_1.toNatClampNeg))))]) [0, 1, 2, 3, 4, 5, 6, 7, 8, 9, 10, 11, 12, 13, 14, 15, 16, 17, 18, 19, 20, 21, 22, 23, 24, 25, 26, 44, 27, 28, 29, 30, 31, 32, 33, 34, 35, 36, 37, 38, 39, 40, 41, 42, 43, 45] rfl
    have hD := hD.sub (ws' := wV M Y G S ++ [(ra, .inl (M.kI, y_1.toNatClampNeg, .inl (va_cpy S.w_Tr_nameLength (fun _ => 0) 0 0 (min G.l_nameLength y_1.toNatClampNeg))))]) [0, 1, 2, 3, 4, 5, 6, 7, 8, 9, 10, 11, 12, 13, 14, 15, 16, 17, 18, 19, 20, 21, 22, 23, 24, 25, 26, 44, 27, 28, 29, 30, 31, 32, 33, 34, 35, 36, 37, 38, 39, 40, 41, 42, 43, 45] (by decide) rfl
    refine va_put (D := (dC, dI)) (ci := 5) (v := .ref ra) (ty := .array .int) (C := R_Tr) (T := F_Tr) (N := 18) hx hb hts (fun w h => u_Vq_Tr w (i_Tr w h)) t_Tr t_Tr_ok n_Tr hown hK hP hD hS 4 rfl rfl 12 (by decide) (hts _ (u_Vq_Tr _ k_Tr_17)) (fun _ h9 => h9) rfl (by decide +kernel) rfl rfl (Nat.le_of_ble_eq_true rfl) d_Tr_widen_129 (fun H locs hP hD hS => ?_)
    have hP := ly_newP3 eG_22 eS_22 (hP.sub (ws' := wV M (Y.u_a_nameLength ra) ((G.u_l_nameLength y_1.toNatClampNeg).made 1 y_1.toNatClampNeg) (S.u_w_Tr_nameLength (va_cpy S.w_Tr_nameLength (fun _ => 0) 0 0 (min G.l_nameLength y_1.toNatClampNeg)))) [0, 1, 2, 3, 4, 5, 6, 7, 8, 9, 10, 11, 12, 13, 14, 15, 16, 17, 18, 19, 20, 21, 22, 23, 24, 25, 26, 45, 28, 29, 30, 31, 32, 33, 34, 35, 36, 37, 38, 39, 40, 41, 42, 43, 44] rfl)
    have hD := ly_newD3 eG_22 eS_22 (hD.sub (ws' := wV M (Y.u_a_nameLength ra) ((G.u_l_nameLength y_1.toNatClampNeg).made 1 y_1.toNatClampNeg) (S.u_w_Tr_nameLength (va_cpy S.w_Tr_nameLength (fun _ => 0) 0 0 (min G.l_nameLength y_1.toNatClampNeg)))) [0, 1, 2, 3, 4, 5, 6, 7, 8, 9, 10, 11, 12, 13, 14, 15, 16, 17, 18, 19, 20, 21, 22, 23, 24, 25, 26, 45, 28, 29, 30, 31, 32, 33, 34, 35, 36, 37, 38, 39, 40, 41, 42, 43, 44] (by decide) rfl)
    refine W.widen (k := G_22.gc - G0.gc) (n := G_22.gs - G0.gs) (ly_c4_nameLength eG_22 m0) (ly_c5_nameLength eG_22 m0) ?_
    have m0 := CG.le_tr m0 mc
    obtain ⟨Y_22, eY⟩ : ∃ y, y = (Y.u_a_nameLength ra) := ⟨_, rfl⟩
    rw [← eY] at hP hD
    exact hB_132 y_1 Y_22 G_22 S_22 _ _ _ h m0 hP hD hS (lv_sub hl [0, 1] rfl)
  have hB_108 : ∀ (y_1 : Int32) (Y : CT) (G : CG) (S : CS) (H : Heap) (locs : List Loc) (ls : Array Slot), f_Tr_widen_108 K y_1 G S = some ((), G', S') → CG.le G0 G → va_P (dC, dI) classes (wV M Y G S) H → va_D A (wV M Y G S) → va_S A s.heap H locs → lv_has ls 2 [(0, .ref M.o_Tr), (1, .int y_1)] → W p l e ({ frames := 2, cells := G'.gc - G0.gc, slots := G'.gs - G0.gs, locals := 82 }) s m ([.ref M.o_Tr, .int p0] : List Value).toArray below meth c H locs (G.gc - G0.gc) (G.gs - G0.gs) Q (F0 m 108 ls []) := by
    intro y_1 Y G S H locs ls h m0 hP hD hS hl
    have mF := mo_Tr_widen_108 h
    rw [f_Tr_widen_108] at h
    refine lv_aload_n hx hb d_Tr_widen_108 rfl (lv_at hl 0 rfl) ?_
    refine lv_aload_n hx hb d_Tr_widen_109 rfl (lv_at hl 0 rfl) ?_
    refine va_get (D := (dC, dI)) (ci := 5) (v := .ref Y.a_nameAt) (C := R_Tr) (T := F_Tr) (N := 18) hx hb hts (fun w h => u_Vq_Tr w (i_Tr w h)) hown hK hP 4 rfl rfl 11 (by decide) (hts _ (u_Vq_Tr _ k_Tr_16)) (fun _ h9 => h9) rfl d_Tr_widen_110 ?_
    refine lv_iload_n hx hb d_Tr_widen_113 rfl (lv_at hl 1 rfl) ?_
    obtain ⟨g_19, h⟩ := lf_gE h
    obtain ⟨G_20, eG_20, h⟩ := lf_lX h
    obtain ⟨S_20, eS_20, h⟩ := lf_lX h
    have mc : CG.le G G_20 := by rw [eG_20]; exact ⟨Nat.le_add_right _ _, Nat.le_add_right _ _⟩
    have ml_20 : CG.le G G_20 := by rw [eG_20]; exact ⟨Nat.le_add_right _ _, Nat.le_add_right _ _⟩
    have mF1 := mo_Tr_widen_120 h
    have hPc := hP.sub (ws' := [(Y.a_nameAt, .inl (M.kI, G.l_nameAt, .inl S.w_Tr_nameAt))]) [26] rfl
    have hDc := hD.sub (ws' := [(Y.a_nameAt, .inl (M.kI, G.l_nameAt, .inl S.w_Tr_nameAt))]) [26] (by decide) rfl
    have hKc := hK.sub (tys' := [(M.kI, .int)]) [2] rfl
    have hFc := va_free (wc := [(Y.a_nameAt, .inl (M.kI, G.l_nameAt, .inl S.w_Tr_nameAt))]) hD hS hA [26] rfl
    refine va_callr (va_runS (As := [.ref Y.a_nameAt, .int y_1]) (rest := [.ref M.o_Tr]) ⟨hx, hb, hml, hown, hts⟩ (l_Ar_copyOf l dC dI Y.a_nameAt _ M.kI G.l_nameAt S.w_Tr_nameAt g_19.2.2.2 g_19.1 ⟨g_19.2.1, g_19.2.2.1⟩) (va_cwS 2 hts (gwS good_Vq (u_Vq_Tr _ k_Tr_33) (u_Vq_J _ k_J_16) (u_Vq_J _ k_J_2) (wcs (u_Vq_J _ k_J_17) u_Vq_J)) rfl rfl rfl (by decide +kernel) ⟨Nat.le_of_ble_eq_true rfl, Nat.le_of_ble_eq_true rfl⟩) (ps_of hPc hKc hDc) rfl rfl hl.1 rfl (lv_room (Nat.le_of_ble_eq_true rfl)) d_Tr_widen_114 (ly_c3_nameAt rfl rfl eG_20 m0 mF1)) hS (fun q _ h => hFc q h) hFc (fun u ra t H locs ht hvm hw hB hz1 hk1 hS => ?_)
    obtain ⟨hP1, -, hD1⟩ := hB
    rw [ht] at hP1
    obtain ⟨hP, hD⟩ := va_join (wr := (wV M Y G S).eraseIdx 26) (w1 := [(Y.a_nameAt, .inl (M.kI, G.l_nameAt, .inl S.w_Tr_nameAt)), (ra, .inl (M.kI, y_1.toNatClampNeg, .inl (va_cpy S.w_Tr_nameAt (fun _ => 0) 0 0 (min G.l_nameAt y_1.toNatClampNeg))))]) hP hD [26] [0, 1, 2, 3, 4, 5, 6, 7, 8, 9, 10, 11, 12, 13, 14, 15, 16, 17, 18, 19, 20, 21, 22, 23, 24, 25, 27, 28, 29, 30, 31, 32, 33, 34, 35, 36, 37, 38, 39, 40, 41, 42, 43, 44] rfl rfl (by decide) (by decide) hk1 hFc hP1 hD1
    have hP := hP.sub (ws' := wV M Y G S ++ [(ra, .inl (M.kI, y_1.toNatClampNeg, .inl (va_cpy S.w_Tr_nameAt (fun _ => 0) 0 0 (min G.l_nameAt y_1.toNatClampNeg))))]) [0, 1, 2, 3, 4, 5, 6, 7, 8, 9, 10, 11, 12, 13, 14, 15, 16, 17, 18, 19, 20, 21, 22, 23, 24, 25, 44, 26, 27, 28, 29, 30, 31, 32, 33, 34, 35, 36, 37, 38, 39, 40, 41, 42, 43, 45] rfl
    have hD := hD.sub (ws' := wV M Y G S ++ [(ra, .inl (M.kI, y_1.toNatClampNeg, .inl (va_cpy S.w_Tr_nameAt (fun _ => 0) 0 0 (min G.l_nameAt y_1.toNatClampNeg))))]) [0, 1, 2, 3, 4, 5, 6, 7, 8, 9, 10, 11, 12, 13, 14, 15, 16, 17, 18, 19, 20, 21, 22, 23, 24, 25, 44, 26, 27, 28, 29, 30, 31, 32, 33, 34, 35, 36, 37, 38, 39, 40, 41, 42, 43, 45] (by decide) rfl
    refine va_put (D := (dC, dI)) (ci := 5) (v := .ref ra) (ty := .array .int) (C := R_Tr) (T := F_Tr) (N := 18) hx hb hts (fun w h => u_Vq_Tr w (i_Tr w h)) t_Tr t_Tr_ok n_Tr hown hK hP hD hS 4 rfl rfl 11 (by decide) (hts _ (u_Vq_Tr _ k_Tr_16)) (fun _ h9 => h9) rfl (by decide +kernel) rfl rfl (Nat.le_of_ble_eq_true rfl) d_Tr_widen_117 (fun H locs hP hD hS => ?_)
    have hP := ly_newP3 eG_20 eS_20 (hP.sub (ws' := wV M (Y.u_a_nameAt ra) ((G.u_l_nameAt y_1.toNatClampNeg).made 1 y_1.toNatClampNeg) (S.u_w_Tr_nameAt (va_cpy S.w_Tr_nameAt (fun _ => 0) 0 0 (min G.l_nameAt y_1.toNatClampNeg)))) [0, 1, 2, 3, 4, 5, 6, 7, 8, 9, 10, 11, 12, 13, 14, 15, 16, 17, 18, 19, 20, 21, 22, 23, 24, 25, 45, 27, 28, 29, 30, 31, 32, 33, 34, 35, 36, 37, 38, 39, 40, 41, 42, 43, 44] rfl)
    have hD := ly_newD3 eG_20 eS_20 (hD.sub (ws' := wV M (Y.u_a_nameAt ra) ((G.u_l_nameAt y_1.toNatClampNeg).made 1 y_1.toNatClampNeg) (S.u_w_Tr_nameAt (va_cpy S.w_Tr_nameAt (fun _ => 0) 0 0 (min G.l_nameAt y_1.toNatClampNeg)))) [0, 1, 2, 3, 4, 5, 6, 7, 8, 9, 10, 11, 12, 13, 14, 15, 16, 17, 18, 19, 20, 21, 22, 23, 24, 25, 45, 27, 28, 29, 30, 31, 32, 33, 34, 35, 36, 37, 38, 39, 40, 41, 42, 43, 44] (by decide) rfl)
    refine W.widen (k := G_20.gc - G0.gc) (n := G_20.gs - G0.gs) (ly_c4_nameAt eG_20 m0) (ly_c5_nameAt eG_20 m0) ?_
    have m0 := CG.le_tr m0 mc
    obtain ⟨Y_20, eY⟩ : ∃ y, y = (Y.u_a_nameAt ra) := ⟨_, rfl⟩
    rw [← eY] at hP hD
    exact hB_120 y_1 Y_20 G_20 S_20 _ _ _ h m0 hP hD hS (lv_sub hl [0, 1] rfl)
  have hB_96 : ∀ (y_1 : Int32) (Y : CT) (G : CG) (S : CS) (H : Heap) (locs : List Loc) (ls : Array Slot), f_Tr_widen_96 K y_1 G S = some ((), G', S') → CG.le G0 G → va_P (dC, dI) classes (wV M Y G S) H → va_D A (wV M Y G S) → va_S A s.heap H locs → lv_has ls 2 [(0, .ref M.o_Tr), (1, .int y_1)] → W p l e ({ frames := 2, cells := G'.gc - G0.gc, slots := G'.gs - G0.gs, locals := 82 }) s m ([.ref M.o_Tr, .int p0] : List Value).toArray below meth c H locs (G.gc - G0.gc) (G.gs - G0.gs) Q (F0 m 96 ls []) := by
    intro y_1 Y G S H locs ls h m0 hP hD hS hl
    have mF := mo_Tr_widen_96 h
    rw [f_Tr_widen_96] at h
    refine lv_aload_n hx hb d_Tr_widen_96 rfl (lv_at hl 0 rfl) ?_
    refine lv_aload_n hx hb d_Tr_widen_97 rfl (lv_at hl 0 rfl) ?_
    refine va_get (D := (dC, dI)) (ci := 5) (v := .ref Y.a_kidCount) (C := R_Tr) (T := F_Tr) (N := 18) hx hb hts (fun w h => u_Vq_Tr w (i_Tr w h)) hown hK hP 4 rfl rfl 10 (by decide) (hts _ (u_Vq_Tr _ k_Tr_15)) (fun _ h9 => h9) rfl d_Tr_widen_98 ?_
    refine lv_iload_n hx hb d_Tr_widen_101 rfl (lv_at hl 1 rfl) ?_
    obtain ⟨g_17, h⟩ := lf_gE h
    obtain ⟨G_18, eG_18, h⟩ := lf_lX h
    obtain ⟨S_18, eS_18, h⟩ := lf_lX h
    have mc : CG.le G G_18 := by rw [eG_18]; exact ⟨Nat.le_add_right _ _, Nat.le_add_right _ _⟩
    have ml_18 : CG.le G G_18 := by rw [eG_18]; exact ⟨Nat.le_add_right _ _, Nat.le_add_right _ _⟩
    have mF1 := mo_Tr_widen_108 h
    have hPc := hP.sub (ws' := [(Y.a_kidCount, .inl (M.kI, G.l_kidCount, .inl S.w_Tr_kidCount))]) [25] rfl
    have hDc := hD.sub (ws' := [(Y.a_kidCount, .inl (M.kI, G.l_kidCount, .inl S.w_Tr_kidCount))]) [25] (by decide) rfl
    have hKc := hK.sub (tys' := [(M.kI, .int)]) [2] rfl
    have hFc := va_free (wc := [(Y.a_kidCount, .inl (M.kI, G.l_kidCount, .inl S.w_Tr_kidCount))]) hD hS hA [25] rfl
    refine va_callr (va_runS (As := [.ref Y.a_kidCount, .int y_1]) (rest := [.ref M.o_Tr]) ⟨hx, hb, hml, hown, hts⟩ (l_Ar_copyOf l dC dI Y.a_kidCount _ M.kI G.l_kidCount S.w_Tr_kidCount g_17.2.2.2 g_17.1 ⟨g_17.2.1, g_17.2.2.1⟩) (va_cwS 2 hts (gwS good_Vq (u_Vq_Tr _ k_Tr_33) (u_Vq_J _ k_J_16) (u_Vq_J _ k_J_2) (wcs (u_Vq_J _ k_J_17) u_Vq_J)) rfl rfl rfl (by decide +kernel) ⟨Nat.le_of_ble_eq_true rfl, Nat.le_of_ble_eq_true rfl⟩) (ps_of hPc hKc hDc) rfl rfl hl.1 rfl (lv_room (Nat.le_of_ble_eq_true rfl)) d_Tr_widen_102 (ly_c3_kidCount rfl rfl eG_18 m0 mF1)) hS (fun q _ h => hFc q h) hFc (fun u ra t H locs ht hvm hw hB hz1 hk1 hS => ?_)
    obtain ⟨hP1, -, hD1⟩ := hB
    rw [ht] at hP1
    obtain ⟨hP, hD⟩ := va_join (wr := (wV M Y G S).eraseIdx 25) (w1 := [(Y.a_kidCount, .inl (M.kI, G.l_kidCount, .inl S.w_Tr_kidCount)), (ra, .inl (M.kI, y_1.toNatClampNeg, .inl (va_cpy S.w_Tr_kidCount (fun _ => 0) 0 0 (min G.l_kidCount y_1.toNatClampNeg))))]) hP hD [25] [0, 1, 2, 3, 4, 5, 6, 7, 8, 9, 10, 11, 12, 13, 14, 15, 16, 17, 18, 19, 20, 21, 22, 23, 24, 26, 27, 28, 29, 30, 31, 32, 33, 34, 35, 36, 37, 38, 39, 40, 41, 42, 43, 44] rfl rfl (by decide) (by decide) hk1 hFc hP1 hD1
    have hP := hP.sub (ws' := wV M Y G S ++ [(ra, .inl (M.kI, y_1.toNatClampNeg, .inl (va_cpy S.w_Tr_kidCount (fun _ => 0) 0 0 (min G.l_kidCount y_1.toNatClampNeg))))]) [0, 1, 2, 3, 4, 5, 6, 7, 8, 9, 10, 11, 12, 13, 14, 15, 16, 17, 18, 19, 20, 21, 22, 23, 24, 44, 25, 26, 27, 28, 29, 30, 31, 32, 33, 34, 35, 36, 37, 38, 39, 40, 41, 42, 43, 45] rfl
    have hD := hD.sub (ws' := wV M Y G S ++ [(ra, .inl (M.kI, y_1.toNatClampNeg, .inl (va_cpy S.w_Tr_kidCount (fun _ => 0) 0 0 (min G.l_kidCount y_1.toNatClampNeg))))]) [0, 1, 2, 3, 4, 5, 6, 7, 8, 9, 10, 11, 12, 13, 14, 15, 16, 17, 18, 19, 20, 21, 22, 23, 24, 44, 25, 26, 27, 28, 29, 30, 31, 32, 33, 34, 35, 36, 37, 38, 39, 40, 41, 42, 43, 45] (by decide) rfl
    refine va_put (D := (dC, dI)) (ci := 5) (v := .ref ra) (ty := .array .int) (C := R_Tr) (T := F_Tr) (N := 18) hx hb hts (fun w h => u_Vq_Tr w (i_Tr w h)) t_Tr t_Tr_ok n_Tr hown hK hP hD hS 4 rfl rfl 10 (by decide) (hts _ (u_Vq_Tr _ k_Tr_15)) (fun _ h9 => h9) rfl (by decide +kernel) rfl rfl (Nat.le_of_ble_eq_true rfl) d_Tr_widen_105 (fun H locs hP hD hS => ?_)
    have hP := ly_newP3 eG_18 eS_18 (hP.sub (ws' := wV M (Y.u_a_kidCount ra) ((G.u_l_kidCount y_1.toNatClampNeg).made 1 y_1.toNatClampNeg) (S.u_w_Tr_kidCount (va_cpy S.w_Tr_kidCount (fun _ => 0) 0 0 (min G.l_kidCount y_1.toNatClampNeg)))) [0, 1, 2, 3, 4, 5, 6, 7, 8, 9, 10, 11, 12, 13, 14, 15, 16, 17, 18, 19, 20, 21, 22, 23, 24, 45, 26, 27, 28, 29, 30, 31, 32, 33, 34, 35, 36, 37, 38, 39, 40, 41, 42, 43, 44] rfl)
    have hD := ly_newD3 eG_18 eS_18 (hD.sub (ws' := wV M (Y.u_a_kidCount ra) ((G.u_l_kidCount y_1.toNatClampNeg).made 1 y_1.toNatClampNeg) (S.u_w_Tr_kidCount (va_cpy S.w_Tr_kidCount (fun _ => 0) 0 0 (min G.l_kidCount y_1.toNatClampNeg)))) [0, 1, 2, 3, 4, 5, 6, 7, 8, 9, 10, 11, 12, 13, 14, 15, 16, 17, 18, 19, 20, 21, 22, 23, 24, 45, 26, 27, 28, 29, 30, 31, 32, 33, 34, 35, 36, 37, 38, 39, 40, 41, 42, 43, 44] (by decide) rfl)
    refine W.widen (k := G_18.gc - G0.gc) (n := G_18.gs - G0.gs) (ly_c4_kidCount eG_18 m0) (ly_c5_kidCount eG_18 m0) ?_
    have m0 := CG.le_tr m0 mc
    obtain ⟨Y_18, eY⟩ : ∃ y, y = (Y.u_a_kidCount ra) := ⟨_, rfl⟩
    rw [← eY] at hP hD
    exact hB_108 y_1 Y_18 G_18 S_18 _ _ _ h m0 hP hD hS (lv_sub hl [0, 1] rfl)
  have hB_84 : ∀ (y_1 : Int32) (Y : CT) (G : CG) (S : CS) (H : Heap) (locs : List Loc) (ls : Array Slot), f_Tr_widen_84 K y_1 G S = some ((), G', S') → CG.le G0 G → va_P (dC, dI) classes (wV M Y G S) H → va_D A (wV M Y G S) → va_S A s.heap H locs → lv_has ls 2 [(0, .ref M.o_Tr), (1, .int y_1)] → W p l e ({ frames := 2, cells := G'.gc - G0.gc, slots := G'.gs - G0.gs, locals := 82 }) s m ([.ref M.o_Tr, .int p0] : List Value).toArray below meth c H locs (G.gc - G0.gc) (G.gs - G0.gs) Q (F0 m 84 ls []) := by
    intro y_1 Y G S H locs ls h m0 hP hD hS hl
    have mF := mo_Tr_widen_84 h
    rw [f_Tr_widen_84] at h
    refine lv_aload_n hx hb d_Tr_widen_84 rfl (lv_at hl 0 rfl) ?_
    refine lv_aload_n hx hb d_Tr_widen_85 rfl (lv_at hl 0 rfl) ?_
    refine va_get (D := (dC, dI)) (ci := 5) (v := .ref Y.a_kids) (C := R_Tr) (T := F_Tr) (N := 18) hx hb hts (fun w h => u_Vq_Tr w (i_Tr w h)) hown hK hP 4 rfl rfl 9 (by decide) (hts _ (u_Vq_Tr _ k_Tr_14)) (fun _ h9 => h9) rfl d_Tr_widen_86 ?_
    refine lv_iload_n hx hb d_Tr_widen_89 rfl (lv_at hl 1 rfl) ?_
    obtain ⟨g_15, h⟩ := lf_gE h
    obtain ⟨G_16, eG_16, h⟩ := lf_lX h
    obtain ⟨S_16, eS_16, h⟩ := lf_lX h
    have mc : CG.le G G_16 := by rw [eG_16]; exact ⟨Nat.le_add_right _ _, Nat.le_add_right _ _⟩
    have ml_16 : CG.le G G_16 := by rw [eG_16]; exact ⟨Nat.le_add_right _ _, Nat.le_add_right _ _⟩
    have mF1 := mo_Tr_widen_96 h
    have hPc := hP.sub (ws' := [(Y.a_kids, .inl (M.kI, G.l_kids, .inl S.w_Tr_kids))]) [24] rfl
    have hDc := hD.sub (ws' := [(Y.a_kids, .inl (M.kI, G.l_kids, .inl S.w_Tr_kids))]) [24] (by decide) rfl
    have hKc := hK.sub (tys' := [(M.kI, .int)]) [2] rfl
    have hFc := va_free (wc := [(Y.a_kids, .inl (M.kI, G.l_kids, .inl S.w_Tr_kids))]) hD hS hA [24] rfl
    refine va_callr (va_runS (As := [.ref Y.a_kids, .int y_1]) (rest := [.ref M.o_Tr]) ⟨hx, hb, hml, hown, hts⟩ (l_Ar_copyOf l dC dI Y.a_kids _ M.kI G.l_kids S.w_Tr_kids g_15.2.2.2 g_15.1 ⟨g_15.2.1, g_15.2.2.1⟩) (va_cwS 2 hts (gwS good_Vq (u_Vq_Tr _ k_Tr_33) (u_Vq_J _ k_J_16) (u_Vq_J _ k_J_2) (wcs (u_Vq_J _ k_J_17) u_Vq_J)) rfl rfl rfl (by decide +kernel) ⟨Nat.le_of_ble_eq_true rfl, Nat.le_of_ble_eq_true rfl⟩) (ps_of hPc hKc hDc) rfl rfl hl.1 rfl (lv_room (Nat.le_of_ble_eq_true rfl)) d_Tr_widen_90 (ly_c3_kids rfl rfl eG_16 m0 mF1)) hS (fun q _ h => hFc q h) hFc (fun u ra t H locs ht hvm hw hB hz1 hk1 hS => ?_)
    obtain ⟨hP1, -, hD1⟩ := hB
    rw [ht] at hP1
    obtain ⟨hP, hD⟩ := va_join (wr := (wV M Y G S).eraseIdx 24) (w1 := [(Y.a_kids, .inl (M.kI, G.l_kids, .inl S.w_Tr_kids)), (ra, .inl (M.kI, y_1.toNatClampNeg, .inl (va_cpy S.w_Tr_kids (fun _ => 0) 0 0 (min G.l_kids y_1.toNatClampNeg))))]) hP hD [24] [0, 1, 2, 3, 4, 5, 6, 7, 8, 9, 10, 11, 12, 13, 14, 15, 16, 17, 18, 19, 20, 21, 22, 23, 25, 26, 27, 28, 29, 30, 31, 32, 33, 34, 35, 36, 37, 38, 39, 40, 41, 42, 43, 44] rfl rfl (by decide) (by decide) hk1 hFc hP1 hD1
    have hP := hP.sub (ws' := wV M Y G S ++ [(ra, .inl (M.kI, y_1.toNatClampNeg, .inl (va_cpy S.w_Tr_kids (fun _ => 0) 0 0 (min G.l_kids y_1.toNatClampNeg))))]) [0, 1, 2, 3, 4, 5, 6, 7, 8, 9, 10, 11, 12, 13, 14, 15, 16, 17, 18, 19, 20, 21, 22, 23, 44, 24, 25, 26, 27, 28, 29, 30, 31, 32, 33, 34, 35, 36, 37, 38, 39, 40, 41, 42, 43, 45] rfl
    have hD := hD.sub (ws' := wV M Y G S ++ [(ra, .inl (M.kI, y_1.toNatClampNeg, .inl (va_cpy S.w_Tr_kids (fun _ => 0) 0 0 (min G.l_kids y_1.toNatClampNeg))))]) [0, 1, 2, 3, 4, 5, 6, 7, 8, 9, 10, 11, 12, 13, 14, 15, 16, 17, 18, 19, 20, 21, 22, 23, 44, 24, 25, 26, 27, 28, 29, 30, 31, 32, 33, 34, 35, 36, 37, 38, 39, 40, 41, 42, 43, 45] (by decide) rfl
    refine va_put (D := (dC, dI)) (ci := 5) (v := .ref ra) (ty := .array .int) (C := R_Tr) (T := F_Tr) (N := 18) hx hb hts (fun w h => u_Vq_Tr w (i_Tr w h)) t_Tr t_Tr_ok n_Tr hown hK hP hD hS 4 rfl rfl 9 (by decide) (hts _ (u_Vq_Tr _ k_Tr_14)) (fun _ h9 => h9) rfl (by decide +kernel) rfl rfl (Nat.le_of_ble_eq_true rfl) d_Tr_widen_93 (fun H locs hP hD hS => ?_)
    have hP := ly_newP3 eG_16 eS_16 (hP.sub (ws' := wV M (Y.u_a_kids ra) ((G.u_l_kids y_1.toNatClampNeg).made 1 y_1.toNatClampNeg) (S.u_w_Tr_kids (va_cpy S.w_Tr_kids (fun _ => 0) 0 0 (min G.l_kids y_1.toNatClampNeg)))) [0, 1, 2, 3, 4, 5, 6, 7, 8, 9, 10, 11, 12, 13, 14, 15, 16, 17, 18, 19, 20, 21, 22, 23, 45, 25, 26, 27, 28, 29, 30, 31, 32, 33, 34, 35, 36, 37, 38, 39, 40, 41, 42, 43, 44] rfl)
    have hD := ly_newD3 eG_16 eS_16 (hD.sub (ws' := wV M (Y.u_a_kids ra) ((G.u_l_kids y_1.toNatClampNeg).made 1 y_1.toNatClampNeg) (S.u_w_Tr_kids (va_cpy S.w_Tr_kids (fun _ => 0) 0 0 (min G.l_kids y_1.toNatClampNeg)))) [0, 1, 2, 3, 4, 5, 6, 7, 8, 9, 10, 11, 12, 13, 14, 15, 16, 17, 18, 19, 20, 21, 22, 23, 45, 25, 26, 27, 28, 29, 30, 31, 32, 33, 34, 35, 36, 37, 38, 39, 40, 41, 42, 43, 44] (by decide) rfl)
    refine W.widen (k := G_16.gc - G0.gc) (n := G_16.gs - G0.gs) (ly_c4_kids eG_16 m0) (ly_c5_kids eG_16 m0) ?_
    have m0 := CG.le_tr m0 mc
    obtain ⟨Y_16, eY⟩ : ∃ y, y = (Y.u_a_kids ra) := ⟨_, rfl⟩
    rw [← eY] at hP hD
    exact hB_96 y_1 Y_16 G_16 S_16 _ _ _ h m0 hP hD hS (lv_sub hl [0, 1] rfl)
  have hB_72 : ∀ (y_1 : Int32) (Y : CT) (G : CG) (S : CS) (H : Heap) (locs : List Loc) (ls : Array Slot), f_Tr_widen_72 K y_1 G S = some ((), G', S') → CG.le G0 G → va_P (dC, dI) classes (wV M Y G S) H → va_D A (wV M Y G S) → va_S A s.heap H locs → lv_has ls 2 [(0, .ref M.o_Tr), (1, .int y_1)] → W p l e ({ frames := 2, cells := G'.gc - G0.gc, slots := G'.gs - G0.gs, locals := 82 }) s m ([.ref M.o_Tr, .int p0] : List Value).toArray below meth c H locs (G.gc - G0.gc) (G.gs - G0.gs) Q (F0 m 72 ls []) := by
    intro y_1 Y G S H locs ls h m0 hP hD hS hl
    have mF := mo_Tr_widen_72 h
    rw [f_Tr_widen_72] at h
    refine lv_aload_n hx hb d_Tr_widen_72 rfl (lv_at hl 0 rfl) ?_
    refine lv_aload_n hx hb d_Tr_widen_73 rfl (lv_at hl 0 rfl) ?_
    refine va_get (D := (dC, dI)) (ci := 5) (v := .ref Y.a_parts) (C := R_Tr) (T := F_Tr) (N := 18) hx hb hts (fun w h => u_Vq_Tr w (i_Tr w h)) hown hK hP 4 rfl rfl 8 (by decide) (hts _ (u_Vq_Tr _ k_Tr_13)) (fun _ h9 => h9) rfl d_Tr_widen_74 ?_
    refine lv_iload_n hx hb d_Tr_widen_77 rfl (lv_at hl 1 rfl) ?_
    obtain ⟨g_13, h⟩ := lf_gE h
    obtain ⟨G_14, eG_14, h⟩ := lf_lX h
    obtain ⟨S_14, eS_14, h⟩ := lf_lX h
    have mc : CG.le G G_14 := by rw [eG_14]; exact ⟨Nat.le_add_right _ _, Nat.le_add_right _ _⟩
    have ml_14 : CG.le G G_14 := by rw [eG_14]; exact ⟨Nat.le_add_right _ _, Nat.le_add_right _ _⟩
    have mF1 := mo_Tr_widen_84 h
    have hPc := hP.sub (ws' := [(Y.a_parts, .inl (M.kI, G.l_parts, .inl S.w_Tr_parts))]) [23] rfl
    have hDc := hD.sub (ws' := [(Y.a_parts, .inl (M.kI, G.l_parts, .inl S.w_Tr_parts))]) [23] (by decide) rfl
    have hKc := hK.sub (tys' := [(M.kI, .int)]) [2] rfl
    have hFc := va_free (wc := [(Y.a_parts, .inl (M.kI, G.l_parts, .inl S.w_Tr_parts))]) hD hS hA [23] rfl
    refine va_callr (va_runS (As := [.ref Y.a_parts, .int y_1]) (rest := [.ref M.o_Tr]) ⟨hx, hb, hml, hown, hts⟩ (l_Ar_copyOf l dC dI Y.a_parts _ M.kI G.l_parts S.w_Tr_parts g_13.2.2.2 g_13.1 ⟨g_13.2.1, g_13.2.2.1⟩) (va_cwS 2 hts (gwS good_Vq (u_Vq_Tr _ k_Tr_33) (u_Vq_J _ k_J_16) (u_Vq_J _ k_J_2) (wcs (u_Vq_J _ k_J_17) u_Vq_J)) rfl rfl rfl (by decide +kernel) ⟨Nat.le_of_ble_eq_true rfl, Nat.le_of_ble_eq_true rfl⟩) (ps_of hPc hKc hDc) rfl rfl hl.1 rfl (lv_room (Nat.le_of_ble_eq_true rfl)) d_Tr_widen_78 (ly_c3_parts rfl rfl eG_14 m0 mF1)) hS (fun q _ h => hFc q h) hFc (fun u ra t H locs ht hvm hw hB hz1 hk1 hS => ?_)
    obtain ⟨hP1, -, hD1⟩ := hB
    rw [ht] at hP1
    obtain ⟨hP, hD⟩ := va_join (wr := (wV M Y G S).eraseIdx 23) (w1 := [(Y.a_parts, .inl (M.kI, G.l_parts, .inl S.w_Tr_parts)), (ra, .inl (M.kI, y_1.toNatClampNeg, .inl (va_cpy S.w_Tr_parts (fun _ => 0) 0 0 (min G.l_parts y_1.toNatClampNeg))))]) hP hD [23] [0, 1, 2, 3, 4, 5, 6, 7, 8, 9, 10, 11, 12, 13, 14, 15, 16, 17, 18, 19, 20, 21, 22, 24, 25, 26, 27, 28, 29, 30, 31, 32, 33, 34, 35, 36, 37, 38, 39, 40, 41, 42, 43, 44] rfl rfl (by decide) (by decide) hk1 hFc hP1 hD1
    have hP := hP.sub (ws' := wV M Y G S ++ [(ra, .inl (M.kI, y_1.toNatClampNeg, .inl (va_cpy S.w_Tr_parts (fun _ => 0) 0 0 (min G.l_parts y_1.toNatClampNeg))))]) [0, 1, 2, 3, 4, 5, 6, 7, 8, 9, 10, 11, 12, 13, 14, 15, 16, 17, 18, 19, 20, 21, 22, 44, 23, 24, 25, 26, 27, 28, 29, 30, 31, 32, 33, 34, 35, 36, 37, 38, 39, 40, 41, 42, 43, 45] rfl
    have hD := hD.sub (ws' := wV M Y G S ++ [(ra, .inl (M.kI, y_1.toNatClampNeg, .inl (va_cpy S.w_Tr_parts (fun _ => 0) 0 0 (min G.l_parts y_1.toNatClampNeg))))]) [0, 1, 2, 3, 4, 5, 6, 7, 8, 9, 10, 11, 12, 13, 14, 15, 16, 17, 18, 19, 20, 21, 22, 44, 23, 24, 25, 26, 27, 28, 29, 30, 31, 32, 33, 34, 35, 36, 37, 38, 39, 40, 41, 42, 43, 45] (by decide) rfl
    refine va_put (D := (dC, dI)) (ci := 5) (v := .ref ra) (ty := .array .int) (C := R_Tr) (T := F_Tr) (N := 18) hx hb hts (fun w h => u_Vq_Tr w (i_Tr w h)) t_Tr t_Tr_ok n_Tr hown hK hP hD hS 4 rfl rfl 8 (by decide) (hts _ (u_Vq_Tr _ k_Tr_13)) (fun _ h9 => h9) rfl (by decide +kernel) rfl rfl (Nat.le_of_ble_eq_true rfl) d_Tr_widen_81 (fun H locs hP hD hS => ?_)
    have hP := ly_newP3 eG_14 eS_14 (hP.sub (ws' := wV M (Y.u_a_parts ra) ((G.u_l_parts y_1.toNatClampNeg).made 1 y_1.toNatClampNeg) (S.u_w_Tr_parts (va_cpy S.w_Tr_parts (fun _ => 0) 0 0 (min G.l_parts y_1.toNatClampNeg)))) [0, 1, 2, 3, 4, 5, 6, 7, 8, 9, 10, 11, 12, 13, 14, 15, 16, 17, 18, 19, 20, 21, 22, 45, 24, 25, 26, 27, 28, 29, 30, 31, 32, 33, 34, 35, 36, 37, 38, 39, 40, 41, 42, 43, 44] rfl)
    have hD := ly_newD3 eG_14 eS_14 (hD.sub (ws' := wV M (Y.u_a_parts ra) ((G.u_l_parts y_1.toNatClampNeg).made 1 y_1.toNatClampNeg) (S.u_w_Tr_parts (va_cpy S.w_Tr_parts (fun _ => 0) 0 0 (min G.l_parts y_1.toNatClampNeg)))) [0, 1, 2, 3, 4, 5, 6, 7, 8, 9, 10, 11, 12, 13, 14, 15, 16, 17, 18, 19, 20, 21, 22, 45, 24, 25, 26, 27, 28, 29, 30, 31, 32, 33, 34, 35, 36, 37, 38, 39, 40, 41, 42, 43, 44] (by decide) rfl)
    refine W.widen (k := G_14.gc - G0.gc) (n := G_14.gs - G0.gs) (ly_c4_parts eG_14 m0) (ly_c5_parts eG_14 m0) ?_
    have m0 := CG.le_tr m0 mc
    obtain ⟨Y_14, eY⟩ : ∃ y, y = (Y.u_a_parts ra) := ⟨_, rfl⟩
    rw [← eY] at hP hD
    exact hB_84 y_1 Y_14 G_14 S_14 _ _ _ h m0 hP hD hS (lv_sub hl [0, 1] rfl)
  have hB_60 : ∀ (y_1 : Int32) (Y : CT) (G : CG) (S : CS) (H : Heap) (locs : List Loc) (ls : Array Slot), f_Tr_widen_60 K y_1 G S = some ((), G', S') → CG.le G0 G → va_P (dC, dI) classes (wV M Y G S) H → va_D A (wV M Y G S) → va_S A s.heap H locs → lv_has ls 2 [(0, .ref M.o_Tr), (1, .int y_1)] → W p l e ({ frames := 2, cells := G'.gc - G0.gc, slots := G'.gs - G0.gs, locals := 82 }) s m ([.ref M.o_Tr, .int p0] : List Value).toArray below meth c H locs (G.gc - G0.gc) (G.gs - G0.gs) Q (F0 m 60 ls []) := by
    intro y_1 Y G S H locs ls h m0 hP hD hS hl
    have mF := mo_Tr_widen_60 h
    rw [f_Tr_widen_60] at h
    refine lv_aload_n hx hb d_Tr_widen_60 rfl (lv_at hl 0 rfl) ?_
    refine lv_aload_n hx hb d_Tr_widen_61 rfl (lv_at hl 0 rfl) ?_
    refine va_get (D := (dC, dI)) (ci := 5) (v := .ref Y.a_slot) (C := R_Tr) (T := F_Tr) (N := 18) hx hb hts (fun w h => u_Vq_Tr w (i_Tr w h)) hown hK hP 4 rfl rfl 7 (by decide) (hts _ (u_Vq_Tr _ k_Tr_12)) (fun _ h9 => h9) rfl d_Tr_widen_62 ?_
    refine lv_iload_n hx hb d_Tr_widen_65 rfl (lv_at hl 1 rfl) ?_
    obtain ⟨g_11, h⟩ := lf_gE h
    obtain ⟨G_12, eG_12, h⟩ := lf_lX h
    obtain ⟨S_12, eS_12, h⟩ := lf_lX h
    have mc : CG.le G G_12 := by rw [eG_12]; exact ⟨Nat.le_add_right _ _, Nat.le_add_right _ _⟩
    have ml_12 : CG.le G G_12 := by rw [eG_12]; exact ⟨Nat.le_add_right _ _, Nat.le_add_right _ _⟩
    have mF1 := mo_Tr_widen_72 h
    have hPc := hP.sub (ws' := [(Y.a_slot, .inl (M.kI, G.l_slot, .inl S.w_Tr_slot))]) [22] rfl
    have hDc := hD.sub (ws' := [(Y.a_slot, .inl (M.kI, G.l_slot, .inl S.w_Tr_slot))]) [22] (by decide) rfl
    have hKc := hK.sub (tys' := [(M.kI, .int)]) [2] rfl
    have hFc := va_free (wc := [(Y.a_slot, .inl (M.kI, G.l_slot, .inl S.w_Tr_slot))]) hD hS hA [22] rfl
    refine va_callr (va_runS (As := [.ref Y.a_slot, .int y_1]) (rest := [.ref M.o_Tr]) ⟨hx, hb, hml, hown, hts⟩ (l_Ar_copyOf l dC dI Y.a_slot _ M.kI G.l_slot S.w_Tr_slot g_11.2.2.2 g_11.1 ⟨g_11.2.1, g_11.2.2.1⟩) (va_cwS 2 hts (gwS good_Vq (u_Vq_Tr _ k_Tr_33) (u_Vq_J _ k_J_16) (u_Vq_J _ k_J_2) (wcs (u_Vq_J _ k_J_17) u_Vq_J)) rfl rfl rfl (by decide +kernel) ⟨Nat.le_of_ble_eq_true rfl, Nat.le_of_ble_eq_true rfl⟩) (ps_of hPc hKc hDc) rfl rfl hl.1 rfl (lv_room (Nat.le_of_ble_eq_true rfl)) d_Tr_widen_66 (ly_c3_slot rfl rfl eG_12 m0 mF1)) hS (fun q _ h => hFc q h) hFc (fun u ra t H locs ht hvm hw hB hz1 hk1 hS => ?_)
    obtain ⟨hP1, -, hD1⟩ := hB
    rw [ht] at hP1
    obtain ⟨hP, hD⟩ := va_join (wr := (wV M Y G S).eraseIdx 22) (w1 := [(Y.a_slot, .inl (M.kI, G.l_slot, .inl S.w_Tr_slot)), (ra, .inl (M.kI, y_1.toNatClampNeg, .inl (va_cpy S.w_Tr_slot (fun _ => 0) 0 0 (min G.l_slot y_1.toNatClampNeg))))]) hP hD [22] [0, 1, 2, 3, 4, 5, 6, 7, 8, 9, 10, 11, 12, 13, 14, 15, 16, 17, 18, 19, 20, 21, 23, 24, 25, 26, 27, 28, 29, 30, 31, 32, 33, 34, 35, 36, 37, 38, 39, 40, 41, 42, 43, 44] rfl rfl (by decide) (by decide) hk1 hFc hP1 hD1
    have hP := hP.sub (ws' := wV M Y G S ++ [(ra, .inl (M.kI, y_1.toNatClampNeg, .inl (va_cpy S.w_Tr_slot (fun _ => 0) 0 0 (min G.l_slot y_1.toNatClampNeg))))]) [0, 1, 2, 3, 4, 5, 6, 7, 8, 9, 10, 11, 12, 13, 14, 15, 16, 17, 18, 19, 20, 21, 44, 22, 23, 24, 25, 26, 27, 28, 29, 30, 31, 32, 33, 34, 35, 36, 37, 38, 39, 40, 41, 42, 43, 45] rfl
    have hD := hD.sub (ws' := wV M Y G S ++ [(ra, .inl (M.kI, y_1.toNatClampNeg, .inl (va_cpy S.w_Tr_slot (fun _ => 0) 0 0 (min G.l_slot y_1.toNatClampNeg))))]) [0, 1, 2, 3, 4, 5, 6, 7, 8, 9, 10, 11, 12, 13, 14, 15, 16, 17, 18, 19, 20, 21, 44, 22, 23, 24, 25, 26, 27, 28, 29, 30, 31, 32, 33, 34, 35, 36, 37, 38, 39, 40, 41, 42, 43, 45] (by decide) rfl
    refine va_put (D := (dC, dI)) (ci := 5) (v := .ref ra) (ty := .array .int) (C := R_Tr) (T := F_Tr) (N := 18) hx hb hts (fun w h => u_Vq_Tr w (i_Tr w h)) t_Tr t_Tr_ok n_Tr hown hK hP hD hS 4 rfl rfl 7 (by decide) (hts _ (u_Vq_Tr _ k_Tr_12)) (fun _ h9 => h9) rfl (by decide +kernel) rfl rfl (Nat.le_of_ble_eq_true rfl) d_Tr_widen_69 (fun H locs hP hD hS => ?_)
    have hP := ly_newP3 eG_12 eS_12 (hP.sub (ws' := wV M (Y.u_a_slot ra) ((G.u_l_slot y_1.toNatClampNeg).made 1 y_1.toNatClampNeg) (S.u_w_Tr_slot (va_cpy S.w_Tr_slot (fun _ => 0) 0 0 (min G.l_slot y_1.toNatClampNeg)))) [0, 1, 2, 3, 4, 5, 6, 7, 8, 9, 10, 11, 12, 13, 14, 15, 16, 17, 18, 19, 20, 21, 45, 23, 24, 25, 26, 27, 28, 29, 30, 31, 32, 33, 34, 35, 36, 37, 38, 39, 40, 41, 42, 43, 44] rfl)
    have hD := ly_newD3 eG_12 eS_12 (hD.sub (ws' := wV M (Y.u_a_slot ra) ((G.u_l_slot y_1.toNatClampNeg).made 1 y_1.toNatClampNeg) (S.u_w_Tr_slot (va_cpy S.w_Tr_slot (fun _ => 0) 0 0 (min G.l_slot y_1.toNatClampNeg)))) [0, 1, 2, 3, 4, 5, 6, 7, 8, 9, 10, 11, 12, 13, 14, 15, 16, 17, 18, 19, 20, 21, 45, 23, 24, 25, 26, 27, 28, 29, 30, 31, 32, 33, 34, 35, 36, 37, 38, 39, 40, 41, 42, 43, 44] (by decide) rfl)
    refine W.widen (k := G_12.gc - G0.gc) (n := G_12.gs - G0.gs) (ly_c4_slot eG_12 m0) (ly_c5_slot eG_12 m0) ?_
    have m0 := CG.le_tr m0 mc
    obtain ⟨Y_12, eY⟩ : ∃ y, y = (Y.u_a_slot ra) := ⟨_, rfl⟩
    rw [← eY] at hP hD
    exact hB_72 y_1 Y_12 G_12 S_12 _ _ _ h m0 hP hD hS (lv_sub hl [0, 1] rfl)
  have hB_48 : ∀ (y_1 : Int32) (Y : CT) (G : CG) (S : CS) (H : Heap) (locs : List Loc) (ls : Array Slot), f_Tr_widen_48 K y_1 G S = some ((), G', S') → CG.le G0 G → va_P (dC, dI) classes (wV M Y G S) H → va_D A (wV M Y G S) → va_S A s.heap H locs → lv_has ls 2 [(0, .ref M.o_Tr), (1, .int y_1)] → W p l e ({ frames := 2, cells := G'.gc - G0.gc, slots := G'.gs - G0.gs, locals := 82 }) s m ([.ref M.o_Tr, .int p0] : List Value).toArray below meth c H locs (G.gc - G0.gc) (G.gs - G0.gs) Q (F0 m 48 ls []) := by
    intro y_1 Y G S H locs ls h m0 hP hD hS hl
    have mF := mo_Tr_widen_48 h
    rw [f_Tr_widen_48] at h
    refine lv_aload_n hx hb d_Tr_widen_48 rfl (lv_at hl 0 rfl) ?_
    refine lv_aload_n hx hb d_Tr_widen_49 rfl (lv_at hl 0 rfl) ?_
    refine va_get (D := (dC, dI)) (ci := 5) (v := .ref Y.a_spot) (C := R_Tr) (T := F_Tr) (N := 18) hx hb hts (fun w h => u_Vq_Tr w (i_Tr w h)) hown hK hP 4 rfl rfl 6 (by decide) (hts _ (u_Vq_Tr _ k_Tr_11)) (fun _ h9 => h9) rfl d_Tr_widen_50 ?_
    refine lv_iload_n hx hb d_Tr_widen_53 rfl (lv_at hl 1 rfl) ?_
    obtain ⟨g_9, h⟩ := lf_gE h
    obtain ⟨G_10, eG_10, h⟩ := lf_lX h
    obtain ⟨S_10, eS_10, h⟩ := lf_lX h
    have mc : CG.le G G_10 := by rw [eG_10]; exact ⟨Nat.le_add_right _ _, Nat.le_add_right _ _⟩
    have ml_10 : CG.le G G_10 := by rw [eG_10]; exact ⟨Nat.le_add_right _ _, Nat.le_add_right _ _⟩
    have mF1 := mo_Tr_widen_60 h
    have hPc := hP.sub (ws' := [(Y.a_spot, .inl (M.kI, G.l_spot, .inl S.w_Tr_spot))]) [21] rfl
    have hDc := hD.sub (ws' := [(Y.a_spot, .inl (M.kI, G.l_spot, .inl S.w_Tr_spot))]) [21] (by decide) rfl
    have hKc := hK.sub (tys' := [(M.kI, .int)]) [2] rfl
    have hFc := va_free (wc := [(Y.a_spot, .inl (M.kI, G.l_spot, .inl S.w_Tr_spot))]) hD hS hA [21] rfl
    refine va_callr (va_runS (As := [.ref Y.a_spot, .int y_1]) (rest := [.ref M.o_Tr]) ⟨hx, hb, hml, hown, hts⟩ (l_Ar_copyOf l dC dI Y.a_spot _ M.kI G.l_spot S.w_Tr_spot g_9.2.2.2 g_9.1 ⟨g_9.2.1, g_9.2.2.1⟩) (va_cwS 2 hts (gwS good_Vq (u_Vq_Tr _ k_Tr_33) (u_Vq_J _ k_J_16) (u_Vq_J _ k_J_2) (wcs (u_Vq_J _ k_J_17) u_Vq_J)) rfl rfl rfl (by decide +kernel) ⟨Nat.le_of_ble_eq_true rfl, Nat.le_of_ble_eq_true rfl⟩) (ps_of hPc hKc hDc) rfl rfl hl.1 rfl (lv_room (Nat.le_of_ble_eq_true rfl)) d_Tr_widen_54 (ly_c3_spot rfl rfl eG_10 m0 mF1)) hS (fun q _ h => hFc q h) hFc (fun u ra t H locs ht hvm hw hB hz1 hk1 hS => ?_)
    obtain ⟨hP1, -, hD1⟩ := hB
    rw [ht] at hP1
    obtain ⟨hP, hD⟩ := va_join (wr := (wV M Y G S).eraseIdx 21) (w1 := [(Y.a_spot, .inl (M.kI, G.l_spot, .inl S.w_Tr_spot)), (ra, .inl (M.kI, y_1.toNatClampNeg, .inl (va_cpy S.w_Tr_spot (fun _ => 0) 0 0 (min G.l_spot y_1.toNatClampNeg))))]) hP hD [21] [0, 1, 2, 3, 4, 5, 6, 7, 8, 9, 10, 11, 12, 13, 14, 15, 16, 17, 18, 19, 20, 22, 23, 24, 25, 26, 27, 28, 29, 30, 31, 32, 33, 34, 35, 36, 37, 38, 39, 40, 41, 42, 43, 44] rfl rfl (by decide) (by decide) hk1 hFc hP1 hD1
    have hP := hP.sub (ws' := wV M Y G S ++ [(ra, .inl (M.kI, y_1.toNatClampNeg, .inl (va_cpy S.w_Tr_spot (fun _ => 0) 0 0 (min G.l_spot y_1.toNatClampNeg))))]) [0, 1, 2, 3, 4, 5, 6, 7, 8, 9, 10, 11, 12, 13, 14, 15, 16, 17, 18, 19, 20, 44, 21, 22, 23, 24, 25, 26, 27, 28, 29, 30, 31, 32, 33, 34, 35, 36, 37, 38, 39, 40, 41, 42, 43, 45] rfl
    have hD := hD.sub (ws' := wV M Y G S ++ [(ra, .inl (M.kI, y_1.toNatClampNeg, .inl (va_cpy S.w_Tr_spot (fun _ => 0) 0 0 (min G.l_spot y_1.toNatClampNeg))))]) [0, 1, 2, 3, 4, 5, 6, 7, 8, 9, 10, 11, 12, 13, 14, 15, 16, 17, 18, 19, 20, 44, 21, 22, 23, 24, 25, 26, 27, 28, 29, 30, 31, 32, 33, 34, 35, 36, 37, 38, 39, 40, 41, 42, 43, 45] (by decide) rfl
    refine va_put (D := (dC, dI)) (ci := 5) (v := .ref ra) (ty := .array .int) (C := R_Tr) (T := F_Tr) (N := 18) hx hb hts (fun w h => u_Vq_Tr w (i_Tr w h)) t_Tr t_Tr_ok n_Tr hown hK hP hD hS 4 rfl rfl 6 (by decide) (hts _ (u_Vq_Tr _ k_Tr_11)) (fun _ h9 => h9) rfl (by decide +kernel) rfl rfl (Nat.le_of_ble_eq_true rfl) d_Tr_widen_57 (fun H locs hP hD hS => ?_)
    have hP := ly_newP3 eG_10 eS_10 (hP.sub (ws' := wV M (Y.u_a_spot ra) ((G.u_l_spot y_1.toNatClampNeg).made 1 y_1.toNatClampNeg) (S.u_w_Tr_spot (va_cpy S.w_Tr_spot (fun _ => 0) 0 0 (min G.l_spot y_1.toNatClampNeg)))) [0, 1, 2, 3, 4, 5, 6, 7, 8, 9, 10, 11, 12, 13, 14, 15, 16, 17, 18, 19, 20, 45, 22, 23, 24, 25, 26, 27, 28, 29, 30, 31, 32, 33, 34, 35, 36, 37, 38, 39, 40, 41, 42, 43, 44] rfl)
    have hD := ly_newD3 eG_10 eS_10 (hD.sub (ws' := wV M (Y.u_a_spot ra) ((G.u_l_spot y_1.toNatClampNeg).made 1 y_1.toNatClampNeg) (S.u_w_Tr_spot (va_cpy S.w_Tr_spot (fun _ => 0) 0 0 (min G.l_spot y_1.toNatClampNeg)))) [0, 1, 2, 3, 4, 5, 6, 7, 8, 9, 10, 11, 12, 13, 14, 15, 16, 17, 18, 19, 20, 45, 22, 23, 24, 25, 26, 27, 28, 29, 30, 31, 32, 33, 34, 35, 36, 37, 38, 39, 40, 41, 42, 43, 44] (by decide) rfl)
    refine W.widen (k := G_10.gc - G0.gc) (n := G_10.gs - G0.gs) (ly_c4_spot eG_10 m0) (ly_c5_spot eG_10 m0) ?_
    have m0 := CG.le_tr m0 mc
    obtain ⟨Y_10, eY⟩ : ∃ y, y = (Y.u_a_spot ra) := ⟨_, rfl⟩
    rw [← eY] at hP hD
    exact hB_60 y_1 Y_10 G_10 S_10 _ _ _ h m0 hP hD hS (lv_sub hl [0, 1] rfl)
  have hB_36 : ∀ (y_1 : Int32) (Y : CT) (G : CG) (S : CS) (H : Heap) (locs : List Loc) (ls : Array Slot), f_Tr_widen_36 K y_1 G S = some ((), G', S') → CG.le G0 G → va_P (dC, dI) classes (wV M Y G S) H → va_D A (wV M Y G S) → va_S A s.heap H locs → lv_has ls 2 [(0, .ref M.o_Tr), (1, .int y_1)] → W p l e ({ frames := 2, cells := G'.gc - G0.gc, slots := G'.gs - G0.gs, locals := 82 }) s m ([.ref M.o_Tr, .int p0] : List Value).toArray below meth c H locs (G.gc - G0.gc) (G.gs - G0.gs) Q (F0 m 36 ls []) := by
    intro y_1 Y G S H locs ls h m0 hP hD hS hl
    have mF := mo_Tr_widen_36 h
    rw [f_Tr_widen_36] at h
    refine lv_aload_n hx hb d_Tr_widen_36 rfl (lv_at hl 0 rfl) ?_
    refine lv_aload_n hx hb d_Tr_widen_37 rfl (lv_at hl 0 rfl) ?_
    refine va_get (D := (dC, dI)) (ci := 5) (v := .ref Y.a_bits) (C := R_Tr) (T := F_Tr) (N := 18) hx hb hts (fun w h => u_Vq_Tr w (i_Tr w h)) hown hK hP 4 rfl rfl 5 (by decide) (hts _ (u_Vq_Tr _ k_Tr_10)) (fun _ h9 => h9) rfl d_Tr_widen_38 ?_
    refine lv_iload_n hx hb d_Tr_widen_41 rfl (lv_at hl 1 rfl) ?_
    obtain ⟨g_7, h⟩ := lf_gE h
    obtain ⟨G_8, eG_8, h⟩ := lf_lX h
    obtain ⟨S_8, eS_8, h⟩ := lf_lX h
    have mc : CG.le G G_8 := by rw [eG_8]; exact ⟨Nat.le_add_right _ _, Nat.le_add_right _ _⟩
    have ml_8 : CG.le G G_8 := by rw [eG_8]; exact ⟨Nat.le_add_right _ _, Nat.le_add_right _ _⟩
    have mF1 := mo_Tr_widen_48 h
    have hPc := hP.sub (ws' := [(Y.a_bits, .inl (M.kI, G.l_bits, .inl S.w_Tr_bits))]) [20] rfl
    have hDc := hD.sub (ws' := [(Y.a_bits, .inl (M.kI, G.l_bits, .inl S.w_Tr_bits))]) [20] (by decide) rfl
    have hKc := hK.sub (tys' := [(M.kI, .int)]) [2] rfl
    have hFc := va_free (wc := [(Y.a_bits, .inl (M.kI, G.l_bits, .inl S.w_Tr_bits))]) hD hS hA [20] rfl
    refine va_callr (va_runS (As := [.ref Y.a_bits, .int y_1]) (rest := [.ref M.o_Tr]) ⟨hx, hb, hml, hown, hts⟩ (l_Ar_copyOf l dC dI Y.a_bits _ M.kI G.l_bits S.w_Tr_bits g_7.2.2.2 g_7.1 ⟨g_7.2.1, g_7.2.2.1⟩) (va_cwS 2 hts (gwS good_Vq (u_Vq_Tr _ k_Tr_33) (u_Vq_J _ k_J_16) (u_Vq_J _ k_J_2) (wcs (u_Vq_J _ k_J_17) u_Vq_J)) rfl rfl rfl (by decide +kernel) ⟨Nat.le_of_ble_eq_true rfl, Nat.le_of_ble_eq_true rfl⟩) (ps_of hPc hKc hDc) rfl rfl hl.1 rfl (lv_room (Nat.le_of_ble_eq_true rfl)) d_Tr_widen_42 (ly_c3_bits rfl rfl eG_8 m0 mF1)) hS (fun q _ h => hFc q h) hFc (fun u ra t H locs ht hvm hw hB hz1 hk1 hS => ?_)
    obtain ⟨hP1, -, hD1⟩ := hB
    rw [ht] at hP1
    obtain ⟨hP, hD⟩ := va_join (wr := (wV M Y G S).eraseIdx 20) (w1 := [(Y.a_bits, .inl (M.kI, G.l_bits, .inl S.w_Tr_bits)), (ra, .inl (M.kI, y_1.toNatClampNeg, .inl (va_cpy S.w_Tr_bits (fun _ => 0) 0 0 (min G.l_bits y_1.toNatClampNeg))))]) hP hD [20] [0, 1, 2, 3, 4, 5, 6, 7, 8, 9, 10, 11, 12, 13, 14, 15, 16, 17, 18, 19, 21, 22, 23, 24, 25, 26, 27, 28, 29, 30, 31, 32, 33, 34, 35, 36, 37, 38, 39, 40, 41, 42, 43, 44] rfl rfl (by decide) (by decide) hk1 hFc hP1 hD1
    have hP := hP.sub (ws' := wV M Y G S ++ [(ra, .inl (M.kI, y_1.toNatClampNeg, .inl (va_cpy S.w_Tr_bits (fun _ => 0) 0 0 (min G.l_bits y_1.toNatClampNeg))))]) [0, 1, 2, 3, 4, 5, 6, 7, 8, 9, 10, 11, 12, 13, 14, 15, 16, 17, 18, 19, 44, 20, 21, 22, 23, 24, 25, 26, 27, 28, 29, 30, 31, 32, 33, 34, 35, 36, 37, 38, 39, 40, 41, 42, 43, 45] rfl
    have hD := hD.sub (ws' := wV M Y G S ++ [(ra, .inl (M.kI, y_1.toNatClampNeg, .inl (va_cpy S.w_Tr_bits (fun _ => 0) 0 0 (min G.l_bits y_1.toNatClampNeg))))]) [0, 1, 2, 3, 4, 5, 6, 7, 8, 9, 10, 11, 12, 13, 14, 15, 16, 17, 18, 19, 44, 20, 21, 22, 23, 24, 25, 26, 27, 28, 29, 30, 31, 32, 33, 34, 35, 36, 37, 38, 39, 40, 41, 42, 43, 45] (by decide) rfl
    refine va_put (D := (dC, dI)) (ci := 5) (v := .ref ra) (ty := .array .int) (C := R_Tr) (T := F_Tr) (N := 18) hx hb hts (fun w h => u_Vq_Tr w (i_Tr w h)) t_Tr t_Tr_ok n_Tr hown hK hP hD hS 4 rfl rfl 5 (by decide) (hts _ (u_Vq_Tr _ k_Tr_10)) (fun _ h9 => h9) rfl (by decide +kernel) rfl rfl (Nat.le_of_ble_eq_true rfl) d_Tr_widen_45 (fun H locs hP hD hS => ?_)
    have hP := ly_newP3 eG_8 eS_8 (hP.sub (ws' := wV M (Y.u_a_bits ra) ((G.u_l_bits y_1.toNatClampNeg).made 1 y_1.toNatClampNeg) (S.u_w_Tr_bits (va_cpy S.w_Tr_bits (fun _ => 0) 0 0 (min G.l_bits y_1.toNatClampNeg)))) [0, 1, 2, 3, 4, 5, 6, 7, 8, 9, 10, 11, 12, 13, 14, 15, 16, 17, 18, 19, 45, 21, 22, 23, 24, 25, 26, 27, 28, 29, 30, 31, 32, 33, 34, 35, 36, 37, 38, 39, 40, 41, 42, 43, 44] rfl)
    have hD := ly_newD3 eG_8 eS_8 (hD.sub (ws' := wV M (Y.u_a_bits ra) ((G.u_l_bits y_1.toNatClampNeg).made 1 y_1.toNatClampNeg) (S.u_w_Tr_bits (va_cpy S.w_Tr_bits (fun _ => 0) 0 0 (min G.l_bits y_1.toNatClampNeg)))) [0, 1, 2, 3, 4, 5, 6, 7, 8, 9, 10, 11, 12, 13, 14, 15, 16, 17, 18, 19, 45, 21, 22, 23, 24, 25, 26, 27, 28, 29, 30, 31, 32, 33, 34, 35, 36, 37, 38, 39, 40, 41, 42, 43, 44] (by decide) rfl)
    refine W.widen (k := G_8.gc - G0.gc) (n := G_8.gs - G0.gs) (ly_c4_bits eG_8 m0) (ly_c5_bits eG_8 m0) ?_
    have m0 := CG.le_tr m0 mc
    obtain ⟨Y_8, eY⟩ : ∃ y, y = (Y.u_a_bits ra) := ⟨_, rfl⟩
    rw [← eY] at hP hD
    exact hB_48 y_1 Y_8 G_8 S_8 _ _ _ h m0 hP hD hS (lv_sub hl [0, 1] rfl)
  have hB_24 : ∀ (y_1 : Int32) (Y : CT) (G : CG) (S : CS) (H : Heap) (locs : List Loc) (ls : Array Slot), f_Tr_widen_24 K y_1 G S = some ((), G', S') → CG.le G0 G → va_P (dC, dI) classes (wV M Y G S) H → va_D A (wV M Y G S) → va_S A s.heap H locs → lv_has ls 2 [(0, .ref M.o_Tr), (1, .int y_1)] → W p l e ({ frames := 2, cells := G'.gc - G0.gc, slots := G'.gs - G0.gs, locals := 82 }) s m ([.ref M.o_Tr, .int p0] : List Value).toArray below meth c H locs (G.gc - G0.gc) (G.gs - G0.gs) Q (F0 m 24 ls []) := by
    intro y_1 Y G S H locs ls h m0 hP hD hS hl
    have mF := mo_Tr_widen_24 h
    rw [f_Tr_widen_24] at h
    refine lv_aload_n hx hb d_Tr_widen_24 rfl (lv_at hl 0 rfl) ?_
    refine lv_aload_n hx hb d_Tr_widen_25 rfl (lv_at hl 0 rfl) ?_
    refine va_get (D := (dC, dI)) (ci := 5) (v := .ref Y.a_size) (C := R_Tr) (T := F_Tr) (N := 18) hx hb hts (fun w h => u_Vq_Tr w (i_Tr w h)) hown hK hP 4 rfl rfl 4 (by decide) (hts _ (u_Vq_Tr _ k_Tr_9)) (fun _ h9 => h9) rfl d_Tr_widen_26 ?_
    refine lv_iload_n hx hb d_Tr_widen_29 rfl (lv_at hl 1 rfl) ?_
    obtain ⟨g_5, h⟩ := lf_gE h
    obtain ⟨G_6, eG_6, h⟩ := lf_lX h
    obtain ⟨S_6, eS_6, h⟩ := lf_lX h
    have mc : CG.le G G_6 := by rw [eG_6]; exact ⟨Nat.le_add_right _ _, Nat.le_add_right _ _⟩
    have ml_6 : CG.le G G_6 := by rw [eG_6]; exact ⟨Nat.le_add_right _ _, Nat.le_add_right _ _⟩
    have mF1 := mo_Tr_widen_36 h
    have hPc := hP.sub (ws' := [(Y.a_size, .inl (M.kI, G.l_size, .inl S.w_Tr_size))]) [19] rfl
    have hDc := hD.sub (ws' := [(Y.a_size, .inl (M.kI, G.l_size, .inl S.w_Tr_size))]) [19] (by decide) rfl
    have hKc := hK.sub (tys' := [(M.kI, .int)]) [2] rfl
    have hFc := va_free (wc := [(Y.a_size, .inl (M.kI, G.l_size, .inl S.w_Tr_size))]) hD hS hA [19] rfl
    refine va_callr (va_runS (As := [.ref Y.a_size, .int y_1]) (rest := [.ref M.o_Tr]) ⟨hx, hb, hml, hown, hts⟩ (l_Ar_copyOf l dC dI Y.a_size _ M.kI G.l_size S.w_Tr_size g_5.2.2.2 g_5.1 ⟨g_5.2.1, g_5.2.2.1⟩) (va_cwS 2 hts (gwS good_Vq (u_Vq_Tr _ k_Tr_33) (u_Vq_J _ k_J_16) (u_Vq_J _ k_J_2) (wcs (u_Vq_J _ k_J_17) u_Vq_J)) rfl rfl rfl (by decide +kernel) ⟨Nat.le_of_ble_eq_true rfl, Nat.le_of_ble_eq_true rfl⟩) (ps_of hPc hKc hDc) rfl rfl hl.1 rfl (lv_room (Nat.le_of_ble_eq_true rfl)) d_Tr_widen_30 (ly_c3_size rfl rfl eG_6 m0 mF1)) hS (fun q _ h => hFc q h) hFc (fun u ra t H locs ht hvm hw hB hz1 hk1 hS => ?_)
    obtain ⟨hP1, -, hD1⟩ := hB
    rw [ht] at hP1
    obtain ⟨hP, hD⟩ := va_join (wr := (wV M Y G S).eraseIdx 19) (w1 := [(Y.a_size, .inl (M.kI, G.l_size, .inl S.w_Tr_size)), (ra, .inl (M.kI, y_1.toNatClampNeg, .inl (va_cpy S.w_Tr_size (fun _ => 0) 0 0 (min G.l_size y_1.toNatClampNeg))))]) hP hD [19] [0, 1, 2, 3, 4, 5, 6, 7, 8, 9, 10, 11, 12, 13, 14, 15, 16, 17, 18, 20, 21, 22, 23, 24, 25, 26, 27, 28, 29, 30, 31, 32, 33, 34, 35, 36, 37, 38, 39, 40, 41, 42, 43, 44] rfl rfl (by decide) (by decide) hk1 hFc hP1 hD1
    have hP := hP.sub (ws' := wV M Y G S ++ [(ra, .inl (M.kI, y_1.toNatClampNeg, .inl (va_cpy S.w_Tr_size (fun _ => 0) 0 0 (min G.l_size y_1.toNatClampNeg))))]) [0, 1, 2, 3, 4, 5, 6, 7, 8, 9, 10, 11, 12, 13, 14, 15, 16, 17, 18, 44, 19, 20, 21, 22, 23, 24, 25, 26, 27, 28, 29, 30, 31, 32, 33, 34, 35, 36, 37, 38, 39, 40, 41, 42, 43, 45] rfl
    have hD := hD.sub (ws' := wV M Y G S ++ [(ra, .inl (M.kI, y_1.toNatClampNeg, .inl (va_cpy S.w_Tr_size (fun _ => 0) 0 0 (min G.l_size y_1.toNatClampNeg))))]) [0, 1, 2, 3, 4, 5, 6, 7, 8, 9, 10, 11, 12, 13, 14, 15, 16, 17, 18, 44, 19, 20, 21, 22, 23, 24, 25, 26, 27, 28, 29, 30, 31, 32, 33, 34, 35, 36, 37, 38, 39, 40, 41, 42, 43, 45] (by decide) rfl
    refine va_put (D := (dC, dI)) (ci := 5) (v := .ref ra) (ty := .array .int) (C := R_Tr) (T := F_Tr) (N := 18) hx hb hts (fun w h => u_Vq_Tr w (i_Tr w h)) t_Tr t_Tr_ok n_Tr hown hK hP hD hS 4 rfl rfl 4 (by decide) (hts _ (u_Vq_Tr _ k_Tr_9)) (fun _ h9 => h9) rfl (by decide +kernel) rfl rfl (Nat.le_of_ble_eq_true rfl) d_Tr_widen_33 (fun H locs hP hD hS => ?_)
    have hP := ly_newP3 eG_6 eS_6 (hP.sub (ws' := wV M (Y.u_a_size ra) ((G.u_l_size y_1.toNatClampNeg).made 1 y_1.toNatClampNeg) (S.u_w_Tr_size (va_cpy S.w_Tr_size (fun _ => 0) 0 0 (min G.l_size y_1.toNatClampNeg)))) [0, 1, 2, 3, 4, 5, 6, 7, 8, 9, 10, 11, 12, 13, 14, 15, 16, 17, 18, 45, 20, 21, 22, 23, 24, 25, 26, 27, 28, 29, 30, 31, 32, 33, 34, 35, 36, 37, 38, 39, 40, 41, 42, 43, 44] rfl)
    have hD := ly_newD3 eG_6 eS_6 (hD.sub (ws' := wV M (Y.u_a_size ra) ((G.u_l_size y_1.toNatClampNeg).made 1 y_1.toNatClampNeg) (S.u_w_Tr_size (va_cpy S.w_Tr_size (fun _ => 0) 0 0 (min G.l_size y_1.toNatClampNeg)))) [0, 1, 2, 3, 4, 5, 6, 7, 8, 9, 10, 11, 12, 13, 14, 15, 16, 17, 18, 45, 20, 21, 22, 23, 24, 25, 26, 27, 28, 29, 30, 31, 32, 33, 34, 35, 36, 37, 38, 39, 40, 41, 42, 43, 44] (by decide) rfl)
    refine W.widen (k := G_6.gc - G0.gc) (n := G_6.gs - G0.gs) (ly_c4_size eG_6 m0) (ly_c5_size eG_6 m0) ?_
    have m0 := CG.le_tr m0 mc
    obtain ⟨Y_6, eY⟩ : ∃ y, y = (Y.u_a_size ra) := ⟨_, rfl⟩
    rw [← eY] at hP hD
    exact hB_36 y_1 Y_6 G_6 S_6 _ _ _ h m0 hP hD hS (lv_sub hl [0, 1] rfl)
  have hB_12 : ∀ (y_1 : Int32) (Y : CT) (G : CG) (S : CS) (H : Heap) (locs : List Loc) (ls : Array Slot), f_Tr_widen_12 K y_1 G S = some ((), G', S') → CG.le G0 G → va_P (dC, dI) classes (wV M Y G S) H → va_D A (wV M Y G S) → va_S A s.heap H locs → lv_has ls 2 [(0, .ref M.o_Tr), (1, .int y_1)] → W p l e ({ frames := 2, cells := G'.gc - G0.gc, slots := G'.gs - G0.gs, locals := 82 }) s m ([.ref M.o_Tr, .int p0] : List Value).toArray below meth c H locs (G.gc - G0.gc) (G.gs - G0.gs) Q (F0 m 12 ls []) := by
    intro y_1 Y G S H locs ls h m0 hP hD hS hl
    have mF := mo_Tr_widen_12 h
    rw [f_Tr_widen_12] at h
    refine lv_aload_n hx hb d_Tr_widen_12 rfl (lv_at hl 0 rfl) ?_
    refine lv_aload_n hx hb d_Tr_widen_13 rfl (lv_at hl 0 rfl) ?_
    refine va_get (D := (dC, dI)) (ci := 5) (v := .ref Y.a_first) (C := R_Tr) (T := F_Tr) (N := 18) hx hb hts (fun w h => u_Vq_Tr w (i_Tr w h)) hown hK hP 4 rfl rfl 3 (by decide) (hts _ (u_Vq_Tr _ k_Tr_8)) (fun _ h9 => h9) rfl d_Tr_widen_14 ?_
    refine lv_iload_n hx hb d_Tr_widen_17 rfl (lv_at hl 1 rfl) ?_
    obtain ⟨g_3, h⟩ := lf_gE h
    obtain ⟨G_4, eG_4, h⟩ := lf_lX h
    obtain ⟨S_4, eS_4, h⟩ := lf_lX h
    have mc : CG.le G G_4 := by rw [eG_4]; exact ⟨Nat.le_add_right _ _, Nat.le_add_right _ _⟩
    have ml_4 : CG.le G G_4 := by rw [eG_4]; exact ⟨Nat.le_add_right _ _, Nat.le_add_right _ _⟩
    have mF1 := mo_Tr_widen_24 h
    have hPc := hP.sub (ws' := [(Y.a_first, .inl (M.kI, G.l_first, .inl S.w_Tr_first))]) [18] rfl
    have hDc := hD.sub (ws' := [(Y.a_first, .inl (M.kI, G.l_first, .inl S.w_Tr_first))]) [18] (by decide) rfl
    have hKc := hK.sub (tys' := [(M.kI, .int)]) [2] rfl
    have hFc := va_free (wc := [(Y.a_first, .inl (M.kI, G.l_first, .inl S.w_Tr_first))]) hD hS hA [18] rfl
    refine va_callr (va_runS (As := [.ref Y.a_first, .int y_1]) (rest := [.ref M.o_Tr]) ⟨hx, hb, hml, hown, hts⟩ (l_Ar_copyOf l dC dI Y.a_first _ M.kI G.l_first S.w_Tr_first g_3.2.2.2 g_3.1 ⟨g_3.2.1, g_3.2.2.1⟩) (va_cwS 2 hts (gwS good_Vq (u_Vq_Tr _ k_Tr_33) (u_Vq_J _ k_J_16) (u_Vq_J _ k_J_2) (wcs (u_Vq_J _ k_J_17) u_Vq_J)) rfl rfl rfl (by decide +kernel) ⟨Nat.le_of_ble_eq_true rfl, Nat.le_of_ble_eq_true rfl⟩) (ps_of hPc hKc hDc) rfl rfl hl.1 rfl (lv_room (Nat.le_of_ble_eq_true rfl)) d_Tr_widen_18 (ly_c3_first rfl rfl eG_4 m0 mF1)) hS (fun q _ h => hFc q h) hFc (fun u ra t H locs ht hvm hw hB hz1 hk1 hS => ?_)
    obtain ⟨hP1, -, hD1⟩ := hB
    rw [ht] at hP1
    obtain ⟨hP, hD⟩ := va_join (wr := (wV M Y G S).eraseIdx 18) (w1 := [(Y.a_first, .inl (M.kI, G.l_first, .inl S.w_Tr_first)), (ra, .inl (M.kI, y_1.toNatClampNeg, .inl (va_cpy S.w_Tr_first (fun _ => 0) 0 0 (min G.l_first y_1.toNatClampNeg))))]) hP hD [18] [0, 1, 2, 3, 4, 5, 6, 7, 8, 9, 10, 11, 12, 13, 14, 15, 16, 17, 19, 20, 21, 22, 23, 24, 25, 26, 27, 28, 29, 30, 31, 32, 33, 34, 35, 36, 37, 38, 39, 40, 41, 42, 43, 44] rfl rfl (by decide) (by decide) hk1 hFc hP1 hD1
    have hP := hP.sub (ws' := wV M Y G S ++ [(ra, .inl (M.kI, y_1.toNatClampNeg, .inl (va_cpy S.w_Tr_first (fun _ => 0) 0 0 (min G.l_first y_1.toNatClampNeg))))]) [0, 1, 2, 3, 4, 5, 6, 7, 8, 9, 10, 11, 12, 13, 14, 15, 16, 17, 44, 18, 19, 20, 21, 22, 23, 24, 25, 26, 27, 28, 29, 30, 31, 32, 33, 34, 35, 36, 37, 38, 39, 40, 41, 42, 43, 45] rfl
    have hD := hD.sub (ws' := wV M Y G S ++ [(ra, .inl (M.kI, y_1.toNatClampNeg, .inl (va_cpy S.w_Tr_first (fun _ => 0) 0 0 (min G.l_first y_1.toNatClampNeg))))]) [0, 1, 2, 3, 4, 5, 6, 7, 8, 9, 10, 11, 12, 13, 14, 15, 16, 17, 44, 18, 19, 20, 21, 22, 23, 24, 25, 26, 27, 28, 29, 30, 31, 32, 33, 34, 35, 36, 37, 38, 39, 40, 41, 42, 43, 45] (by decide) rfl
    refine va_put (D := (dC, dI)) (ci := 5) (v := .ref ra) (ty := .array .int) (C := R_Tr) (T := F_Tr) (N := 18) hx hb hts (fun w h => u_Vq_Tr w (i_Tr w h)) t_Tr t_Tr_ok n_Tr hown hK hP hD hS 4 rfl rfl 3 (by decide) (hts _ (u_Vq_Tr _ k_Tr_8)) (fun _ h9 => h9) rfl (by decide +kernel) rfl rfl (Nat.le_of_ble_eq_true rfl) d_Tr_widen_21 (fun H locs hP hD hS => ?_)
    have hP := ly_newP3 eG_4 eS_4 (hP.sub (ws' := wV M (Y.u_a_first ra) ((G.u_l_first y_1.toNatClampNeg).made 1 y_1.toNatClampNeg) (S.u_w_Tr_first (va_cpy S.w_Tr_first (fun _ => 0) 0 0 (min G.l_first y_1.toNatClampNeg)))) [0, 1, 2, 3, 4, 5, 6, 7, 8, 9, 10, 11, 12, 13, 14, 15, 16, 17, 45, 19, 20, 21, 22, 23, 24, 25, 26, 27, 28, 29, 30, 31, 32, 33, 34, 35, 36, 37, 38, 39, 40, 41, 42, 43, 44] rfl)
    have hD := ly_newD3 eG_4 eS_4 (hD.sub (ws' := wV M (Y.u_a_first ra) ((G.u_l_first y_1.toNatClampNeg).made 1 y_1.toNatClampNeg) (S.u_w_Tr_first (va_cpy S.w_Tr_first (fun _ => 0) 0 0 (min G.l_first y_1.toNatClampNeg)))) [0, 1, 2, 3, 4, 5, 6, 7, 8, 9, 10, 11, 12, 13, 14, 15, 16, 17, 45, 19, 20, 21, 22, 23, 24, 25, 26, 27, 28, 29, 30, 31, 32, 33, 34, 35, 36, 37, 38, 39, 40, 41, 42, 43, 44] (by decide) rfl)
    refine W.widen (k := G_4.gc - G0.gc) (n := G_4.gs - G0.gs) (ly_c4_first eG_4 m0) (ly_c5_first eG_4 m0) ?_
    have m0 := CG.le_tr m0 mc
    obtain ⟨Y_4, eY⟩ : ∃ y, y = (Y.u_a_first ra) := ⟨_, rfl⟩
    rw [← eY] at hP hD
    exact hB_24 y_1 Y_4 G_4 S_4 _ _ _ h m0 hP hD hS (lv_sub hl [0, 1] rfl)
  have m0 : CG.le G0 G0 := ⟨Nat.le_refl _, Nat.le_refl _⟩
  have mF := mo_Tr_widen h
  refine W.widen (k := G0.gc - G0.gc) (n := G0.gs - G0.gs) (Nat.zero_le _) (Nat.zero_le _) ?_
  rw [f_Tr_widen] at h
  refine lv_aload_n hx hb d_Tr_widen_0 rfl (lv_at hl 0 rfl) ?_
  refine lv_aload_n hx hb d_Tr_widen_1 rfl (lv_at hl 0 rfl) ?_
  refine va_get (D := (dC, dI)) (ci := 5) (v := .ref Y.a_parent) (C := R_Tr) (T := F_Tr) (N := 18) hx hb hts (fun w h => u_Vq_Tr w (i_Tr w h)) hown hK hP 4 rfl rfl 2 (by decide) (hts _ (u_Vq_Tr _ k_Tr_7)) (fun _ h9 => h9) rfl d_Tr_widen_2 ?_
  refine lv_iload_n hx hb d_Tr_widen_5 rfl (lv_at hl 1 rfl) ?_
  obtain ⟨g_1, h⟩ := lf_gE h
  obtain ⟨G_2, eG_2, h⟩ := lf_lX h
  obtain ⟨S_2, eS_2, h⟩ := lf_lX h
  have mc : CG.le G0 G_2 := by rw [eG_2]; exact ⟨Nat.le_add_right _ _, Nat.le_add_right _ _⟩
  have ml_2 : CG.le G0 G_2 := by rw [eG_2]; exact ⟨Nat.le_add_right _ _, Nat.le_add_right _ _⟩
  have mF1 := mo_Tr_widen_12 h
  have hPc := hP.sub (ws' := [(Y.a_parent, .inl (M.kI, G0.l_parent, .inl S.w_Tr_parent))]) [17] rfl
  have hDc := hD.sub (ws' := [(Y.a_parent, .inl (M.kI, G0.l_parent, .inl S.w_Tr_parent))]) [17] (by decide) rfl
  have hKc := hK.sub (tys' := [(M.kI, .int)]) [2] rfl
  have hFc := va_free (wc := [(Y.a_parent, .inl (M.kI, G0.l_parent, .inl S.w_Tr_parent))]) hD hS hA [17] rfl
  refine va_callr (va_runS (As := [.ref Y.a_parent, .int p0]) (rest := [.ref M.o_Tr]) ⟨hx, hb, hml, hown, hts⟩ (l_Ar_copyOf l dC dI Y.a_parent _ M.kI G0.l_parent S.w_Tr_parent g_1.2.2.2 g_1.1 ⟨g_1.2.1, g_1.2.2.1⟩) (va_cwS 2 hts (gwS good_Vq (u_Vq_Tr _ k_Tr_33) (u_Vq_J _ k_J_16) (u_Vq_J _ k_J_2) (wcs (u_Vq_J _ k_J_17) u_Vq_J)) rfl rfl rfl (by decide +kernel) ⟨Nat.le_of_ble_eq_true rfl, Nat.le_of_ble_eq_true rfl⟩) (ps_of hPc hKc hDc) rfl rfl hl.1 rfl (lv_room (Nat.le_of_ble_eq_true rfl)) d_Tr_widen_6 (ly_c3_parent rfl rfl eG_2 m0 mF1)) hS (fun q _ h => hFc q h) hFc (fun u ra t H locs ht hvm hw hB hz1 hk1 hS => ?_)
  obtain ⟨hP1, -, hD1⟩ := hB
  rw [ht] at hP1
  obtain ⟨hP, hD⟩ := va_join (wr := (wV M Y G0 S).eraseIdx 17) (w1 := [(Y.a_parent, .inl (M.kI, G0.l_parent, .inl S.w_Tr_parent)), (ra, .inl (M.kI, p0.toNatClampNeg, .inl (va_cpy S.w_Tr_parent (fun _ => 0) 0 0 (min G0.l_parent p0.toNatClampNeg))))]) hP hD [17] [0, 1, 2, 3, 4, 5, 6, 7, 8, 9, 10, 11, 12, 13, 14, 15, 16, 18, 19, 20, 21, 22, 23, 24, 25, 26, 27, 28, 29, 30, 31, 32, 33, 34, 35, 36, 37, 38, 39, 40, 41, 42, 43, 44] rfl rfl (by decide) (by decide) hk1 hFc hP1 hD1
  have hP := hP.sub (ws' := wV M Y G0 S ++ [(ra, .inl (M.kI, p0.toNatClampNeg, .inl (va_cpy S.w_Tr_parent (fun _ => 0) 0 0 (min G0.l_parent p0.toNatClampNeg))))]) [0, 1, 2, 3, 4, 5, 6, 7, 8, 9, 10, 11, 12, 13, 14, 15, 16, 44, 17, 18, 19, 20, 21, 22, 23, 24, 25, 26, 27, 28, 29, 30, 31, 32, 33, 34, 35, 36, 37, 38, 39, 40, 41, 42, 43, 45] rfl
  have hD := hD.sub (ws' := wV M Y G0 S ++ [(ra, .inl (M.kI, p0.toNatClampNeg, .inl (va_cpy S.w_Tr_parent (fun _ => 0) 0 0 (min G0.l_parent p0.toNatClampNeg))))]) [0, 1, 2, 3, 4, 5, 6, 7, 8, 9, 10, 11, 12, 13, 14, 15, 16, 44, 17, 18, 19, 20, 21, 22, 23, 24, 25, 26, 27, 28, 29, 30, 31, 32, 33, 34, 35, 36, 37, 38, 39, 40, 41, 42, 43, 45] (by decide) rfl
  refine va_put (D := (dC, dI)) (ci := 5) (v := .ref ra) (ty := .array .int) (C := R_Tr) (T := F_Tr) (N := 18) hx hb hts (fun w h => u_Vq_Tr w (i_Tr w h)) t_Tr t_Tr_ok n_Tr hown hK hP hD hS 4 rfl rfl 2 (by decide) (hts _ (u_Vq_Tr _ k_Tr_7)) (fun _ h9 => h9) rfl (by decide +kernel) rfl rfl (Nat.le_of_ble_eq_true rfl) d_Tr_widen_9 (fun H locs hP hD hS => ?_)
  have hP := ly_newP3 eG_2 eS_2 (hP.sub (ws' := wV M (Y.u_a_parent ra) ((G0.u_l_parent p0.toNatClampNeg).made 1 p0.toNatClampNeg) (S.u_w_Tr_parent (va_cpy S.w_Tr_parent (fun _ => 0) 0 0 (min G0.l_parent p0.toNatClampNeg)))) [0, 1, 2, 3, 4, 5, 6, 7, 8, 9, 10, 11, 12, 13, 14, 15, 16, 45, 18, 19, 20, 21, 22, 23, 24, 25, 26, 27, 28, 29, 30, 31, 32, 33, 34, 35, 36, 37, 38, 39, 40, 41, 42, 43, 44] rfl)
  have hD := ly_newD3 eG_2 eS_2 (hD.sub (ws' := wV M (Y.u_a_parent ra) ((G0.u_l_parent p0.toNatClampNeg).made 1 p0.toNatClampNeg) (S.u_w_Tr_parent (va_cpy S.w_Tr_parent (fun _ => 0) 0 0 (min G0.l_parent p0.toNatClampNeg)))) [0, 1, 2, 3, 4, 5, 6, 7, 8, 9, 10, 11, 12, 13, 14, 15, 16, 45, 18, 19, 20, 21, 22, 23, 24, 25, 26, 27, 28, 29, 30, 31, 32, 33, 34, 35, 36, 37, 38, 39, 40, 41, 42, 43, 44] (by decide) rfl)
  refine W.widen (k := G_2.gc - G0.gc) (n := G_2.gs - G0.gs) (ly_c4_parent eG_2 m0) (ly_c5_parent eG_2 m0) ?_
  have m0 := CG.le_tr m0 mc
  obtain ⟨Y_2, eY⟩ : ∃ y, y = (Y.u_a_parent ra) := ⟨_, rfl⟩
  rw [← eY] at hP hD
  exact hB_12 p0 Y_2 G_2 S_2 _ _ _ h m0 hP hD hS (lv_sub hl [0, 1] rfl)
set_option maxHeartbeats 4000000 in
set_option maxRecDepth 100000 in
theorem l_Tr_addItem (l : Launch) (dC : Nat → ClassId) (dI : Nat → Nat → Nat) {K : Nat} {M : CA} {E : (Nat → Prop) → State → Prop} (X : ly_X l dC dI K M E) (sz : Nat) {Y : CT} {G0 G' : CG} {S S' : CS} {p0 : Int32} {p1 : Int32} {r : Int32} (h : f_Tr_addItem K G0 S p0 p1 = some (r, G', S')) : Met l y_Tr_addItem (.code y_Tr_addItem cb_Tr_addItem 4 (some .int) :: V_Vq) ({ frames := 3, cells := G'.gc - G0.gc, slots := G'.gs - G0.gs, locals := 103 }) (va_Pc [.ref M.o_Tr, .int p0, .int p1] (fun U => U.heap.size = sz ∧ at_ (dC, dI) (fun _ => True) (wV M Y G0 S) (tV M) U ∧ E (va_A (wV M Y G0 S) sz) U)) (va_Qi (fun (r_ : Int32) (u : CT) => r_ = r) (fun (u : CT) t => at_ (dC, dI) (va_A (wV M Y G0 S) sz) (wV M u G' S') (tV M) t) (va_A (wV M Y G0 S) sz)) (G'.gc - G0.gc) (G'.gs - G0.gs) (va_A (wV M Y G0 S) sz) := by
  refine Met.ofW (cc := cb_Tr_addItem) (maxL := 4) (ret := (some .int)) (by decide) rfl ?_
  intro p e s m args below meth c s₁ B hml hv
  obtain ⟨rfl, hsz, ⟨hP, hK, hD0⟩, hE⟩ := hv
  have hx := B.exec
  have hb := B.bytes
  have hr := B.returns
  have hts0 := atoms_spec (ws := .code y_Tr_addItem cb_Tr_addItem 4 (some .int) :: V_Vq) B.pre
  have hts : ∀ w ∈ V_Vq, w.before ([.ref M.o_Tr, .int p0, .int p1] : List Value).toArray s = true := fun w h => hts0 w (List.mem_cons_of_mem _ h)
  have hown : s.vm.findClass R_Tr = some m.cls := findClass_of_methodNamed B.named
  subst hsz
  have hD := hD0.self (sz := s.heap.size)
  generalize hAe : va_A (wV M Y G0 S) s.heap.size = A at hD hE ⊢
  have hA : ∀ q : Nat, s.heap.size ≤ q → A q := fun q h => by rw [← hAe]; exact Or.inr h
  have hS : va_S A s.heap s.heap [] := va_S.rf
  have hP : va_P (dC, dI) classes (wV M Y G0 S) s.heap := hP
  have hK : va_K (dC, dI) classes (tV M) s := hK
  have hEw : ∀ (H : Heap) (locs : List Loc), va_S A s.heap H locs → ∀ U : State, U.heap = H → s.WarmedH U.vm → E A U := fun H locs hS U hU hW => X.kept A s U H locs hE hS hU hW
  have hl := lv_entry ([.ref M.o_Tr, .int p0, .int p1]) (n := 4) (Nat.le_of_ble_eq_true rfl)
  rw [lg_entry_eq]
  generalize (lg_sl ([.ref M.o_Tr, .int p0, .int p1]) ++ List.replicate (4 - (lg_sl ([.ref M.o_Tr, .int p0, .int p1])).length) Slot.unset).toArray = ls at hl ⊢
  have hl : lv_has ls 4 [(0, .ref M.o_Tr), (1, .int p0), (2, .int p1)] := hl
  refine qabs (fun Q hQ => ?_)
  have hB_22 : ∀ (y_1 : Int32) (y_2 : Int32) (Y : CT) (G : CG) (S : CS) (H : Heap) (locs : List Loc) (ls : Array Slot), f_Tr_addItem_22 K y_1 y_2 G S = some (r, G', S') → CG.le G0 G → va_P (dC, dI) classes (wV M Y G S) H → va_D A (wV M Y G S) → va_S A s.heap H locs → lv_has ls 4 [(0, .ref M.o_Tr), (1, .int y_1), (2, .int y_2)] → W p l e ({ frames := 3, cells := G'.gc - G0.gc, slots := G'.gs - G0.gs, locals := 103 }) s m ([.ref M.o_Tr, .int p0, .int p1] : List Value).toArray below meth c H locs (G.gc - G0.gc) (G.gs - G0.gs) Q (F0 m 22 ls []) := by
    intro y_1 y_2 Y G S H locs ls h m0 hP hD hS hl
    have mF := mo_Tr_addItem_22 h
    rw [f_Tr_addItem_22] at h
    refine lv_aload_n hx hb d_Tr_addItem_22 rfl (lv_at hl 0 rfl) ?_
    refine va_get (D := (dC, dI)) (ci := 5) (v := .int S.v_Tr_count) (C := R_Tr) (T := F_Tr) (N := 18) hx hb hts (fun w h => u_Vq_Tr w (i_Tr w h)) hown hK hP 4 rfl rfl 0 (by decide) (hts _ (u_Vq_Tr _ k_Tr_5)) (fun _ h9 => h9) rfl d_Tr_addItem_23 ?_
    refine lv_topi (fun x_3 ex_3 => ?_)
    have h := lf_lE h ex_3
    refine lv_istore_n (lv' := [(3, .int x_3), (0, .ref M.o_Tr), (1, .int y_1), (2, .int y_2)]) hx hb d_Tr_addItem_26 rfl hl (by decide) rfl (fun ls hl => ?_)
    refine lv_aload_n hx hb d_Tr_addItem_27 rfl (lv_at hl 1 rfl) ?_
    refine lv_dup hx hb d_Tr_addItem_28 rfl ?_
    refine va_get (D := (dC, dI)) (ci := 5) (v := .int S.v_Tr_count) (C := R_Tr) (T := F_Tr) (N := 18) hx hb hts (fun w h => u_Vq_Tr w (i_Tr w h)) hown hK hP 4 rfl rfl 0 (by decide) (hts _ (u_Vq_Tr _ k_Tr_5)) (fun _ h9 => h9) rfl d_Tr_addItem_29 ?_
    refine lv_iconst (v := 1) hx hb d_Tr_addItem_32 (by decide) ?_
    refine lv_iadd hx hb d_Tr_addItem_33 ?_
    refine va_put (D := (dC, dI)) (ci := 5) (v := .int (S.v_Tr_count + 1)) (ty := .int) (C := R_Tr) (T := F_Tr) (N := 18) hx hb hts (fun w h => u_Vq_Tr w (i_Tr w h)) t_Tr t_Tr_ok n_Tr hown hK hP hD hS 4 rfl rfl 0 (by decide) (hts _ (u_Vq_Tr _ k_Tr_5)) (fun _ h9 => h9) rfl (by decide +kernel) rfl rfl (Nat.le_of_ble_eq_true rfl) d_Tr_addItem_34 (fun H locs hP hD hS => ?_)
    obtain ⟨S_4, eS_4, h⟩ := lf_lX h
    have hP := ly_newP eS_4 hP
    have hD := ly_newD eS_4 hD
    refine lv_aload_n hx hb d_Tr_addItem_37 rfl (lv_at hl 1 rfl) ?_
    refine va_get (D := (dC, dI)) (ci := 5) (v := .ref Y.a_parent) (C := R_Tr) (T := F_Tr) (N := 18) hx hb hts (fun w h => u_Vq_Tr w (i_Tr w h)) hown hK hP 4 rfl rfl 2 (by decide) (hts _ (u_Vq_Tr _ k_Tr_7)) (fun _ h9 => h9) rfl d_Tr_addItem_38 ?_
    refine lv_iload_n hx hb d_Tr_addItem_41 rfl (lv_at hl 0 rfl) ?_
    refine lv_iload_n hx hb d_Tr_addItem_42 rfl (lv_at hl 2 rfl) ?_
    obtain ⟨g_5, h⟩ := lf_gE h
    refine va_iast hx hb hK hP hD hS 17 2 rfl rfl g_5 d_Tr_addItem_43 (fun H locs hP hD hS => ?_)
    obtain ⟨S_6, eS_6, h⟩ := lf_lX h
    have hP := ly_newP eS_6 hP
    have hD := ly_newD eS_6 hD
    refine lv_aload_n hx hb d_Tr_addItem_44 rfl (lv_at hl 1 rfl) ?_
    refine va_get (D := (dC, dI)) (ci := 5) (v := .ref Y.a_bits) (C := R_Tr) (T := F_Tr) (N := 18) hx hb hts (fun w h => u_Vq_Tr w (i_Tr w h)) hown hK hP 4 rfl rfl 5 (by decide) (hts _ (u_Vq_Tr _ k_Tr_10)) (fun _ h9 => h9) rfl d_Tr_addItem_45 ?_
    refine lv_iload_n hx hb d_Tr_addItem_48 rfl (lv_at hl 0 rfl) ?_
    refine lv_iload_n hx hb d_Tr_addItem_49 rfl (lv_at hl 3 rfl) ?_
    obtain ⟨g_7, h⟩ := lf_gE h
    refine va_iast hx hb hK hP hD hS 20 2 rfl rfl g_7 d_Tr_addItem_50 (fun H locs hP hD hS => ?_)
    obtain ⟨S_8, eS_8, h⟩ := lf_lX h
    have hP := ly_newP eS_8 hP
    have hD := ly_newD eS_8 hD
    refine lv_aload_n hx hb d_Tr_addItem_51 rfl (lv_at hl 1 rfl) ?_
    refine va_get (D := (dC, dI)) (ci := 5) (v := .ref Y.a_size) (C := R_Tr) (T := F_Tr) (N := 18) hx hb hts (fun w h => u_Vq_Tr w (i_Tr w h)) hown hK hP 4 rfl rfl 4 (by decide) (hts _ (u_Vq_Tr _ k_Tr_9)) (fun _ h9 => h9) rfl d_Tr_addItem_52 ?_
    refine lv_iload_n hx hb d_Tr_addItem_55 rfl (lv_at hl 0 rfl) ?_
    refine lv_iconst (v := 0) hx hb d_Tr_addItem_56 (by decide) ?_
    obtain ⟨g_9, h⟩ := lf_gE h
    refine va_iast hx hb hK hP hD hS 19 2 rfl rfl g_9 d_Tr_addItem_57 (fun H locs hP hD hS => ?_)
    obtain ⟨S_10, eS_10, h⟩ := lf_lX h
    have hP := ly_newP eS_10 hP
    have hD := ly_newD eS_10 hD
    refine lv_aload_n hx hb d_Tr_addItem_58 rfl (lv_at hl 1 rfl) ?_
    refine va_get (D := (dC, dI)) (ci := 5) (v := .ref Y.a_kids) (C := R_Tr) (T := F_Tr) (N := 18) hx hb hts (fun w h => u_Vq_Tr w (i_Tr w h)) hown hK hP 4 rfl rfl 9 (by decide) (hts _ (u_Vq_Tr _ k_Tr_14)) (fun _ h9 => h9) rfl d_Tr_addItem_59 ?_
    refine lv_iload_n hx hb d_Tr_addItem_62 rfl (lv_at hl 0 rfl) ?_
    refine lv_iconst (v := 0) hx hb d_Tr_addItem_63 (by decide) ?_
    obtain ⟨g_11, h⟩ := lf_gE h
    refine va_iast hx hb hK hP hD hS 24 2 rfl rfl g_11 d_Tr_addItem_64 (fun H locs hP hD hS => ?_)
    obtain ⟨S_12, eS_12, h⟩ := lf_lX h
    have hP := ly_newP eS_12 hP
    have hD := ly_newD eS_12 hD
    refine lv_aload_n hx hb d_Tr_addItem_65 rfl (lv_at hl 1 rfl) ?_
    refine va_get (D := (dC, dI)) (ci := 5) (v := .ref Y.a_kidCount) (C := R_Tr) (T := F_Tr) (N := 18) hx hb hts (fun w h => u_Vq_Tr w (i_Tr w h)) hown hK hP 4 rfl rfl 10 (by decide) (hts _ (u_Vq_Tr _ k_Tr_15)) (fun _ h9 => h9) rfl d_Tr_addItem_66 ?_
    refine lv_iload_n hx hb d_Tr_addItem_69 rfl (lv_at hl 0 rfl) ?_
    refine lv_iconst (v := 0) hx hb d_Tr_addItem_70 (by decide) ?_
    obtain ⟨g_13, h⟩ := lf_gE h
    refine va_iast hx hb hK hP hD hS 25 2 rfl rfl g_13 d_Tr_addItem_71 (fun H locs hP hD hS => ?_)
    obtain ⟨S_14, eS_14, h⟩ := lf_lX h
    have hP := ly_newP eS_14 hP
    have hD := ly_newD eS_14 hD
    refine lv_aload_n hx hb d_Tr_addItem_72 rfl (lv_at hl 1 rfl) ?_
    refine va_get (D := (dC, dI)) (ci := 5) (v := .ref Y.a_built) (C := R_Tr) (T := F_Tr) (N := 18) hx hb hts (fun w h => u_Vq_Tr w (i_Tr w h)) hown hK hP 4 rfl rfl 14 (by decide) (hts _ (u_Vq_Tr _ k_Tr_19)) (fun _ h9 => h9) rfl d_Tr_addItem_73 ?_
    refine lv_iload_n hx hb d_Tr_addItem_76 rfl (lv_at hl 0 rfl) ?_
    refine lv_iconst (v := 0) hx hb d_Tr_addItem_77 (by decide) ?_
    obtain ⟨g_15, h⟩ := lf_gE h
    refine va_iast hx hb hK hP hD hS 29 2 rfl rfl g_15 d_Tr_addItem_78 (fun H locs hP hD hS => ?_)
    obtain ⟨S_16, eS_16, h⟩ := lf_lX h
    have hP := ly_newP eS_16 hP
    have hD := ly_newD eS_16 hD
    refine lv_aload_n hx hb d_Tr_addItem_79 rfl (lv_at hl 1 rfl) ?_
    refine va_get (D := (dC, dI)) (ci := 5) (v := .ref Y.a_builtBlocks) (C := R_Tr) (T := F_Tr) (N := 18) hx hb hts (fun w h => u_Vq_Tr w (i_Tr w h)) hown hK hP 4 rfl rfl 15 (by decide) (hts _ (u_Vq_Tr _ k_Tr_20)) (fun _ h9 => h9) rfl d_Tr_addItem_80 ?_
    refine lv_iload_n hx hb d_Tr_addItem_83 rfl (lv_at hl 0 rfl) ?_
    refine lv_iconst (v := 0) hx hb d_Tr_addItem_84 (by decide) ?_
    obtain ⟨g_17, h⟩ := lf_gE h
    refine va_iast hx hb hK hP hD hS 30 2 rfl rfl g_17 d_Tr_addItem_85 (fun H locs hP hD hS => ?_)
    obtain ⟨S_18, eS_18, h⟩ := lf_lX h
    have hP := ly_newP eS_18 hP
    have hD := ly_newD eS_18 hD
    refine lv_aload_n hx hb d_Tr_addItem_86 rfl (lv_at hl 1 rfl) ?_
    refine va_get (D := (dC, dI)) (ci := 5) (v := .ref Y.a_nameAt) (C := R_Tr) (T := F_Tr) (N := 18) hx hb hts (fun w h => u_Vq_Tr w (i_Tr w h)) hown hK hP 4 rfl rfl 11 (by decide) (hts _ (u_Vq_Tr _ k_Tr_16)) (fun _ h9 => h9) rfl d_Tr_addItem_87 ?_
    refine lv_iload_n hx hb d_Tr_addItem_90 rfl (lv_at hl 0 rfl) ?_
    refine lv_aload_n hx hb d_Tr_addItem_91 rfl (lv_at hl 1 rfl) ?_
    refine va_get (D := (dC, dI)) (ci := 5) (v := .int S_18.v_Tr_pooled) (C := R_Tr) (T := F_Tr) (N := 18) hx hb hts (fun w h => u_Vq_Tr w (i_Tr w h)) hown hK hP 4 rfl rfl 17 (by decide) (hts _ (u_Vq_Tr _ k_Tr_22)) (fun _ h9 => h9) rfl d_Tr_addItem_92 ?_
    obtain ⟨g_19, h⟩ := lf_gE h
    refine va_iast hx hb hK hP hD hS 26 2 rfl rfl g_19 d_Tr_addItem_95 (fun H locs hP hD hS => ?_)
    obtain ⟨S_20, eS_20, h⟩ := lf_lX h
    have hP := ly_newP eS_20 hP
    have hD := ly_newD eS_20 hD
    refine lv_aload_n hx hb d_Tr_addItem_96 rfl (lv_at hl 1 rfl) ?_
    refine va_get (D := (dC, dI)) (ci := 5) (v := .ref Y.a_nameLength) (C := R_Tr) (T := F_Tr) (N := 18) hx hb hts (fun w h => u_Vq_Tr w (i_Tr w h)) hown hK hP 4 rfl rfl 12 (by decide) (hts _ (u_Vq_Tr _ k_Tr_17)) (fun _ h9 => h9) rfl d_Tr_addItem_97 ?_
    refine lv_iload_n hx hb d_Tr_addItem_100 rfl (lv_at hl 0 rfl) ?_
    refine lv_iconst (v := 0) hx hb d_Tr_addItem_101 (by decide) ?_
    obtain ⟨g_21, h⟩ := lf_gE h
    refine va_iast hx hb hK hP hD hS 27 2 rfl rfl g_21 d_Tr_addItem_102 (fun H locs hP hD hS => ?_)
    obtain ⟨S_22, eS_22, h⟩ := lf_lX h
    have hP := ly_newP eS_22 hP
    have hD := ly_newD eS_22 hD
    refine lv_aload_n hx hb d_Tr_addItem_103 rfl (lv_at hl 1 rfl) ?_
    refine va_get (D := (dC, dI)) (ci := 5) (v := .ref Y.a_nameBytes) (C := R_Tr) (T := F_Tr) (N := 18) hx hb hts (fun w h => u_Vq_Tr w (i_Tr w h)) hown hK hP 4 rfl rfl 13 (by decide) (hts _ (u_Vq_Tr _ k_Tr_18)) (fun _ h9 => h9) rfl d_Tr_addItem_104 ?_
    refine lv_iload_n hx hb d_Tr_addItem_107 rfl (lv_at hl 0 rfl) ?_
    refine lv_iconst (v := 0) hx hb d_Tr_addItem_108 (by decide) ?_
    obtain ⟨g_23, h⟩ := lf_gE h
    refine va_iast hx hb hK hP hD hS 28 2 rfl rfl g_23 d_Tr_addItem_109 (fun H locs hP hD hS => ?_)
    obtain ⟨S_24, eS_24, h⟩ := lf_lX h
    have hP := ly_newP eS_24 hP
    have hD := ly_newD eS_24 hD
    refine lv_iload_n hx hb d_Tr_addItem_110 rfl (lv_at hl 0 rfl) ?_
    rw [hQ]
    have e1 : x_3 = r := congrArg (fun z => z.1) (Option.some.inj h)
    have e2 : G = G' := congrArg (fun z => z.2.1) (Option.some.inj h)
    have e3 : S_24 = S' := congrArg (fun z => z.2.2) (Option.some.inj h)
    have hP := ly_newP3 e2.symm e3.symm hP
    have hD := ly_newD3 e2.symm e3.symm hD
    refine W.widen (k := G'.gc - G0.gc) (n := G'.gs - G0.gs) (ly_wc e2) (ly_ws e2) ?_
    exact W.iret (v := x_3) hx hb hr (fun t ht hW => ⟨⟨x_3, Y, rfl, e1, by rw [ht]; exact hP, va_K.moved hW.alike hK, hD⟩, hS.F ht⟩) hS.2.2 d_Tr_addItem_111
  have m0 : CG.le G0 G0 := ⟨Nat.le_refl _, Nat.le_refl _⟩
  have mF := mo_Tr_addItem h
  refine W.widen (k := G0.gc - G0.gc) (n := G0.gs - G0.gs) (Nat.zero_le _) (Nat.zero_le _) ?_
  rw [f_Tr_addItem] at h
  refine lv_aload_n hx hb d_Tr_addItem_0 rfl (lv_at hl 0 rfl) ?_
  refine va_get (D := (dC, dI)) (ci := 5) (v := .int S.v_Tr_count) (C := R_Tr) (T := F_Tr) (N := 18) hx hb hts (fun w h => u_Vq_Tr w (i_Tr w h)) hown hK hP 4 rfl rfl 0 (by decide) (hts _ (u_Vq_Tr _ k_Tr_5)) (fun _ h9 => h9) rfl d_Tr_addItem_1 ?_
  refine lv_aload_n hx hb d_Tr_addItem_4 rfl (lv_at hl 0 rfl) ?_
  refine va_get (D := (dC, dI)) (ci := 5) (v := .ref Y.a_parent) (C := R_Tr) (T := F_Tr) (N := 18) hx hb hts (fun w h => u_Vq_Tr w (i_Tr w h)) hown hK hP 4 rfl rfl 2 (by decide) (hts _ (u_Vq_Tr _ k_Tr_7)) (fun _ h9 => h9) rfl d_Tr_addItem_5 ?_
  refine va_alen (v := nI G0.l_parent) hx hb hK hP 17 2 rfl rfl rfl d_Tr_addItem_8 ?_
  refine lv_icmp_lt (tgt := 22) hx hb d_Tr_addItem_9 (by decide) (fun c_1 => ?_) (fun c_1 => ?_)
  · have h := lf_t h c_1
    exact hB_22 p0 p1 Y G0 S _ _ _ h m0 hP hD hS (lv_sub hl [0, 1, 2] rfl)
  · have h := lf_f h c_1
    refine lv_aload_n hx hb d_Tr_addItem_12 rfl (lv_at hl 0 rfl) ?_
    refine lv_iconst (v := 2) hx hb d_Tr_addItem_13 (by decide) ?_
    refine lv_aload_n hx hb d_Tr_addItem_14 rfl (lv_at hl 0 rfl) ?_
    refine va_get (D := (dC, dI)) (ci := 5) (v := .int S.v_Tr_count) (C := R_Tr) (T := F_Tr) (N := 18) hx hb hts (fun w h => u_Vq_Tr w (i_Tr w h)) hown hK hP 4 rfl rfl 0 (by decide) (hts _ (u_Vq_Tr _ k_Tr_5)) (fun _ h9 => h9) rfl d_Tr_addItem_15 ?_
    refine lv_imul hx hb d_Tr_addItem_18 ?_
    obtain ⟨r_2, G_2, S_2, hc_2, h⟩ := lf_nE h
    have mc := mo_Tr_widen hc_2
    have ml_2 := mo_Tr_widen hc_2
    have mF1 := mo_Tr_addItem_22 h
    have hFc := lx_free hD hS hA
    refine va_callv (va_runV (As := [.int (2 * S.v_Tr_count)]) (rest := []) ⟨hx, hb, hml, hown, hts⟩ (l_Tr_widen l dC dI X _ hc_2) (cwV 1 hts (gwV good_Vq (u_Vq_Tr _ k_Tr_30) (u_Vq_Tr _ k_Tr_31) (u_Vq_Tr _ k_Tr_110) (u_Vq_Tr _ k_Tr_0) (wcs (u_Vq_Tr _ k_Tr_32) (fun _ h => h))) rfl rfl rfl (by decide +kernel) ⟨Nat.le_of_ble_eq_true rfl, Nat.le_of_ble_eq_true rfl⟩) (pv_ofE (X.same _) (fun U z1 z2 => X.mono _ _ U hFc (hEw _ _ hS U z1 z2)) hP hK hD (va_recv hK hP (ci := 5) (q0 := 4) rfl rfl)) rfl rfl hl.1 rfl (lv_room (Nat.le_of_ble_eq_true rfl)) d_Tr_addItem_19 ⟨ly_c1 m0.1 mc.1 mF1.1, ly_c1 m0.2 mc.2 mF1.2⟩) hS (fun q _ h => hFc q h) hFc (fun Y_2 t H locs ht hvm hw hB hz1 hk1 hS => ?_)
    obtain ⟨hP, -, hD⟩ := hB
    rw [ht] at hP
    have hD := lx_dj hD hFc
    refine W.widen (k := G_2.gc - G0.gc) (n := G_2.gs - G0.gs) (ly_c2 m0.1 mc.1) (ly_c2 m0.2 mc.2) ?_
    have m0 := CG.le_tr m0 mc
    exact hB_22 p0 p1 Y_2 G_2 S_2 _ _ _ h m0 hP hD hS (lv_sub hl [0, 1, 2] rfl)
set_option maxHeartbeats 4000000 in
set_option maxRecDepth 100000 in
theorem l_Tr_startWith (l : Launch) (dC : Nat → ClassId) (dI : Nat → Nat → Nat) {K : Nat} {M : CA} {E : (Nat → Prop) → State → Prop} (X : ly_X l dC dI K M E) (sz : Nat) {Y : CT} {G0 G' : CG} {S S' : CS} {p0 : Int32} (h : f_Tr_startWith K G0 S p0 = some ((), G', S')) : Met l y_Tr_startWith (.code y_Tr_startWith cb_Tr_startWith 2 none :: V_Vq) ({ frames := 4, cells := G'.gc - G0.gc, slots := G'.gs - G0.gs, locals := 126 }) (va_Pc [.ref M.o_Tr, .int p0] (fun U => U.heap.size = sz ∧ at_ (dC, dI) (fun _ => True) (wV M Y G0 S) (tV M) U ∧ E (va_A (wV M Y G0 S) sz) U)) (va_Qv (fun (u : CT) => True) (fun (u : CT) t => at_ (dC, dI) (va_A (wV M Y G0 S) sz) (wV M u G' S') (tV M) t) (va_A (wV M Y G0 S) sz)) (G'.gc - G0.gc) (G'.gs - G0.gs) (va_A (wV M Y G0 S) sz) := by
  refine Met.ofW (cc := cb_Tr_startWith) (maxL := 2) (ret := none) (by decide) rfl ?_
  intro p e s m args below meth c s₁ B hml hv
  obtain ⟨rfl, hsz, ⟨hP, hK, hD0⟩, hE⟩ := hv
  have hx := B.exec
  have hb := B.bytes
  have hr := B.returns
  have hts0 := atoms_spec (ws := .code y_Tr_startWith cb_Tr_startWith 2 none :: V_Vq) B.pre
  have hts : ∀ w ∈ V_Vq, w.before ([.ref M.o_Tr, .int p0] : List Value).toArray s = true := fun w h => hts0 w (List.mem_cons_of_mem _ h)
  have hown : s.vm.findClass R_Tr = some m.cls := findClass_of_methodNamed B.named
  subst hsz
  have hD := hD0.self (sz := s.heap.size)
  generalize hAe : va_A (wV M Y G0 S) s.heap.size = A at hD hE ⊢
  have hA : ∀ q : Nat, s.heap.size ≤ q → A q := fun q h => by rw [← hAe]; exact Or.inr h
  have hS : va_S A s.heap s.heap [] := va_S.rf
  have hP : va_P (dC, dI) classes (wV M Y G0 S) s.heap := hP
  have hK : va_K (dC, dI) classes (tV M) s := hK
  have hEw : ∀ (H : Heap) (locs : List Loc), va_S A s.heap H locs → ∀ U : State, U.heap = H → s.WarmedH U.vm → E A U := fun H locs hS U hU hW => X.kept A s U H locs hE hS hU hW
  have hl := lv_entry ([.ref M.o_Tr, .int p0]) (n := 2) (Nat.le_of_ble_eq_true rfl)
  rw [lg_entry_eq]
  generalize (lg_sl ([.ref M.o_Tr, .int p0]) ++ List.replicate (2 - (lg_sl ([.ref M.o_Tr, .int p0])).length) Slot.unset).toArray = ls at hl ⊢
  have hl : lv_has ls 2 [(0, .ref M.o_Tr), (1, .int p0)] := hl
  refine qabs (fun Q hQ => ?_)
  have hB_23 : ∀ (y_1 : Int32) (z_1 : Int32) (Y : CT) (G : CG) (S : CS) (H : Heap) (locs : List Loc) (ls : Array Slot), f_Tr_startWith_23 K y_1 z_1 G S = some ((), G', S') → CG.le G0 G → va_P (dC, dI) classes (wV M Y G S) H → va_D A (wV M Y G S) → va_S A s.heap H locs → lv_has ls 2 [(1, .int y_1)] → W p l e ({ frames := 4, cells := G'.gc - G0.gc, slots := G'.gs - G0.gs, locals := 126 }) s m ([.ref M.o_Tr, .int p0] : List Value).toArray below meth c H locs (G.gc - G0.gc) (G.gs - G0.gs) Q (F0 m 23 ls [.int z_1, .ref M.o_Tr]) := by
    intro y_1 z_1 Y G S H locs ls h m0 hP hD hS hl
    have mF := mo_Tr_startWith_23 h
    rw [f_Tr_startWith_23] at h
    refine lv_iload_n hx hb d_Tr_startWith_23 rfl (lv_at hl 0 rfl) ?_
    refine lv_iconst (v := 0) hx hb d_Tr_startWith_24 (by decide) ?_
    refine lv_iconst (v := 0) hx hb d_Tr_startWith_25 (by decide) ?_
    refine lv_iconst (v := 0) hx hb d_Tr_startWith_26 (by decide) ?_
    obtain ⟨S_5, hc_5, h⟩ := lf_bE h
    have hFc := lx_free hD hS hA
    refine va_callv (va_runV (As := [.int z_1, .int y_1, .int 0, .int 0, .int 0]) (rest := []) ⟨hx, hb, hml, hown, hts⟩ (l_Tr_place l dC dI X _ hc_5) (cwV 5 hts (gwV good_Vq (u_Vq_Tr _ k_Tr_34) (u_Vq_Tr _ k_Tr_35) (u_Vq_Tr _ k_Tr_36) (u_Vq_Tr _ k_Tr_0) (wcs (u_Vq_Tr _ k_Tr_37) (fun _ h => h))) rfl rfl rfl (by decide +kernel) ⟨Nat.le_of_ble_eq_true rfl, Nat.le_of_ble_eq_true rfl⟩) (pv_ofE (X.same _) (fun U z1 z2 => X.mono _ _ U hFc (hEw _ _ hS U z1 z2)) hP hK hD (va_recv hK hP (ci := 5) (q0 := 4) rfl rfl)) rfl rfl hl.1 rfl (lv_room (Nat.le_of_ble_eq_true rfl)) d_Tr_startWith_27 ⟨ly_c0 mF.1, ly_c0 mF.2⟩) hS (fun q _ h => hFc q h) hFc (fun u t H locs ht hvm hw hB hz1 hk1 hS => ?_)
    obtain ⟨hP, -, hD⟩ := hB
    rw [ht] at hP
    have hD := lx_dj hD hFc
    rw [hQ]
    have e2 : G = G' := congrArg (fun z => z.2.1) (Option.some.inj h)
    have e3 : S_5 = S' := congrArg (fun z => z.2.2) (Option.some.inj h)
    have hP := ly_newP3 e2.symm e3.symm hP
    have hD := ly_newD3 e2.symm e3.symm hD
    refine W.widen (k := G'.gc - G0.gc) (n := G'.gs - G0.gs) (ly_wc e2) (ly_ws e2) ?_
    exact W.vret hx hb hr (fun t ht hW => ⟨⟨Y, rfl, trivial, by rw [ht]; exact hP, va_K.moved hW.alike hK, hD⟩, hS.F ht⟩) hS.2.2 d_Tr_startWith_30
  have m0 : CG.le G0 G0 := ⟨Nat.le_refl _, Nat.le_refl _⟩
  have mF := mo_Tr_startWith h
  refine W.widen (k := G0.gc - G0.gc) (n := G0.gs - G0.gs) (Nat.zero_le _) (Nat.zero_le _) ?_
  rw [f_Tr_startWith] at h
  refine lv_aload_n hx hb d_Tr_startWith_0 rfl (lv_at hl 0 rfl) ?_
  refine lv_iconst (v := 0) hx hb d_Tr_startWith_1 (by decide) ?_
  refine va_put (D := (dC, dI)) (ci := 5) (v := .int 0) (ty := .int) (C := R_Tr) (T := F_Tr) (N := 18) hx hb hts (fun w h => u_Vq_Tr w (i_Tr w h)) t_Tr t_Tr_ok n_Tr hown hK hP hD hS 4 rfl rfl 0 (by decide) (hts _ (u_Vq_Tr _ k_Tr_5)) (fun _ h9 => h9) rfl (by decide +kernel) rfl rfl (Nat.le_of_ble_eq_true rfl) d_Tr_startWith_2 (fun H locs hP hD hS => ?_)
  obtain ⟨S_1, eS_1, h⟩ := lf_lX h
  have hP := ly_newP eS_1 hP
  have hD := ly_newD eS_1 hD
  refine lv_aload_n hx hb d_Tr_startWith_5 rfl (lv_at hl 0 rfl) ?_
  refine lv_iconst (v := 0) hx hb d_Tr_startWith_6 (by decide) ?_
  refine va_put (D := (dC, dI)) (ci := 5) (v := .int 0) (ty := .int) (C := R_Tr) (T := F_Tr) (N := 18) hx hb hts (fun w h => u_Vq_Tr w (i_Tr w h)) t_Tr t_Tr_ok n_Tr hown hK hP hD hS 4 rfl rfl 17 (by decide) (hts _ (u_Vq_Tr _ k_Tr_22)) (fun _ h9 => h9) rfl (by decide +kernel) rfl rfl (Nat.le_of_ble_eq_true rfl) d_Tr_startWith_7 (fun H locs hP hD hS => ?_)
  obtain ⟨S_2, eS_2, h⟩ := lf_lX h
  have hP := ly_newP eS_2 hP
  have hD := ly_newD eS_2 hD
  refine lv_aload_n hx hb d_Tr_startWith_10 rfl (lv_at hl 0 rfl) ?_
  refine lv_iconst (v := (-1)) hx hb d_Tr_startWith_11 (by decide) ?_
  refine va_put (D := (dC, dI)) (ci := 5) (v := .int ((-1))) (ty := .int) (C := R_Tr) (T := F_Tr) (N := 18) hx hb hts (fun w h => u_Vq_Tr w (i_Tr w h)) t_Tr t_Tr_ok n_Tr hown hK hP hD hS 4 rfl rfl 1 (by decide) (hts _ (u_Vq_Tr _ k_Tr_6)) (fun _ h9 => h9) rfl (by decide +kernel) rfl rfl (Nat.le_of_ble_eq_true rfl) d_Tr_startWith_12 (fun H locs hP hD hS => ?_)
  obtain ⟨S_3, eS_3, h⟩ := lf_lX h
  have hP := ly_newP eS_3 hP
  have hD := ly_newD eS_3 hD
  refine lv_aload_n hx hb d_Tr_startWith_15 rfl (lv_at hl 0 rfl) ?_
  refine lv_aload_n hx hb d_Tr_startWith_16 rfl (lv_at hl 0 rfl) ?_
  refine lv_iconst (v := 0) hx hb d_Tr_startWith_17 (by decide) ?_
  refine lv_bipush (v := 16) hx hb d_Tr_startWith_18 (by decide) ?_
  obtain ⟨r_4, G_4, S_4, hc_4, h⟩ := lf_nE h
  have mc := mo_Tr_addItem hc_4
  have ml_4 := mo_Tr_addItem hc_4
  have mF1 := mo_Tr_startWith_23 h
  have hFc := lx_free hD hS hA
  refine va_calli (va_runV (As := [.int 0, .int 16]) (rest := [.ref M.o_Tr]) ⟨hx, hb, hml, hown, hts⟩ (l_Tr_addItem l dC dI X _ hc_4) (cwV 2 hts (gwV good_Vq (u_Vq_Tr _ k_Tr_26) (u_Vq_Tr _ k_Tr_27) (u_Vq_Tr _ k_Tr_28) (u_Vq_Tr _ k_Tr_0) (wcs (u_Vq_Tr _ k_Tr_29) (fun _ h => h))) rfl rfl rfl (by decide +kernel) ⟨Nat.le_of_ble_eq_true rfl, Nat.le_of_ble_eq_true rfl⟩) (pv_ofE (X.same _) (fun U z1 z2 => X.mono _ _ U hFc (hEw _ _ hS U z1 z2)) hP hK hD (va_recv hK hP (ci := 5) (q0 := 4) rfl rfl)) rfl rfl hl.1 rfl (lv_room (Nat.le_of_ble_eq_true rfl)) d_Tr_startWith_20 ⟨ly_c1 m0.1 mc.1 mF1.1, ly_c1 m0.2 mc.2 mF1.2⟩) hS (fun q _ h => hFc q h) hFc (fun r_ Y_4 t H locs ht hvm hw hB hz1 hk1 hS => ?_)
  rw [hw]
  obtain ⟨hP, -, hD⟩ := hB
  rw [ht] at hP
  have hD := lx_dj hD hFc
  refine W.widen (k := G_4.gc - G0.gc) (n := G_4.gs - G0.gs) (ly_c2 m0.1 mc.1) (ly_c2 m0.2 mc.2) ?_
  have m0 := CG.le_tr m0 mc
  exact hB_23 p0 r_4 Y_4 G_4 S_4 _ _ _ h m0 hP hD hS (lv_sub hl [1] rfl)
set_option maxHeartbeats 4000000 in
set_option maxRecDepth 100000 in
theorem l_Tr_nameLast_Rdunits (l : Launch) (dC : Nat → ClassId) (dI : Nat → Nat → Nat) {K : Nat} {M : CA} {E : (Nat → Prop) → State → Prop} (X : ly_X l dC dI K M E) (sz : Nat) {Y : CT} {G0 G' : CG} {S S' : CS} {p1 : Int32} (h : f_Tr_nameLast_Rdunits K G0 S p1 = some ((), G', S')) : Met l y_Tr_nameLast (.code y_Tr_nameLast b_Tr_nameLast 6 none :: V_Vq) ({ frames := 2, cells := G'.gc - G0.gc, slots := G'.gs - G0.gs, locals := 82 }) (va_Pc [.ref M.o_Tr, .ref M.a_Rd_units, .int p1] (fun U => U.heap.size = sz ∧ at_ (dC, dI) (fun _ => True) (wV M Y G0 S) (tV M) U ∧ E (va_A (wV M Y G0 S) sz) U)) (va_Qv (fun (u : CT) => True) (fun (u : CT) t => at_ (dC, dI) (va_A (wV M Y G0 S) sz) (wV M u G' S') (tV M) t) (va_A (wV M Y G0 S) sz)) (G'.gc - G0.gc) (G'.gs - G0.gs) (va_A (wV M Y G0 S) sz) := by
  refine Met.ofW (cc := b_Tr_nameLast) (maxL := 6) (ret := none) (by decide) rfl ?_
  intro p e s m args below meth c s₁ B hml hv
  obtain ⟨rfl, hsz, ⟨hP, hK, hD0⟩, hE⟩ := hv
  have hx := B.exec
  have hb := B.bytes
  have hr := B.returns
  have hts0 := atoms_spec (ws := .code y_Tr_nameLast b_Tr_nameLast 6 none :: V_Vq) B.pre
  have hts : ∀ w ∈ V_Vq, w.before ([.ref M.o_Tr, .ref M.a_Rd_units, .int p1] : List Value).toArray s = true := fun w h => hts0 w (List.mem_cons_of_mem _ h)
  have hown : s.vm.findClass R_Tr = some m.cls := findClass_of_methodNamed B.named
  subst hsz
  have hD := hD0.self (sz := s.heap.size)
  generalize hAe : va_A (wV M Y G0 S) s.heap.size = A at hD hE ⊢
  have hA : ∀ q : Nat, s.heap.size ≤ q → A q := fun q h => by rw [← hAe]; exact Or.inr h
  have hS : va_S A s.heap s.heap [] := va_S.rf
  have hP : va_P (dC, dI) classes (wV M Y G0 S) s.heap := hP
  have hK : va_K (dC, dI) classes (tV M) s := hK
  have hEw : ∀ (H : Heap) (locs : List Loc), va_S A s.heap H locs → ∀ U : State, U.heap = H → s.WarmedH U.vm → E A U := fun H locs hS U hU hW => X.kept A s U H locs hE hS hU hW
  have hl := lv_entry ([.ref M.o_Tr, .ref M.a_Rd_units, .int p1]) (n := 6) (Nat.le_of_ble_eq_true rfl)
  rw [lg_entry_eq]
  generalize (lg_sl ([.ref M.o_Tr, .ref M.a_Rd_units, .int p1]) ++ List.replicate (6 - (lg_sl ([.ref M.o_Tr, .ref M.a_Rd_units, .int p1])).length) Slot.unset).toArray = ls at hl ⊢
  have hl : lv_has ls 6 [(0, .ref M.o_Tr), (1, .ref M.a_Rd_units), (2, .int p1)] := hl
  refine qabs (fun Q hQ => ?_)
  have hB_78 : ∀ (k : Nat), ∀ (y_2 : Int32) (y_3 : Int32) (y_4 : Int32) (y_5 : Int32) (Y : CT) (G : CG) (S : CS) (H : Heap) (locs : List Loc) (ls : Array Slot), f_Tr_nameLast_Rdunits_78 K k y_2 y_3 y_4 y_5 G S = some ((), G', S') → CG.le G0 G → va_P (dC, dI) classes (wV M Y G S) H → va_D A (wV M Y G S) → va_S A s.heap H locs → lv_has ls 6 [(0, .ref M.o_Tr), (1, .ref M.a_Rd_units), (2, .int y_2), (3, .int y_3), (4, .int y_4), (5, .int y_5)] → W p l e ({ frames := 2, cells := G'.gc - G0.gc, slots := G'.gs - G0.gs, locals := 82 }) s m ([.ref M.o_Tr, .ref M.a_Rd_units, .int p1] : List Value).toArray below meth c H locs (G.gc - G0.gc) (G.gs - G0.gs) Q (F0 m 78 ls []) := by
    intro k
    induction k with
    | zero => intro y_2 y_3 y_4 y_5 Y G S H locs ls h; exact lf_no h
    | succ k hr_78 =>
      intro y_2 y_3 y_4 y_5 Y G S H locs ls h m0 hP hD hS hl
      have mF := mo_Tr_nameLast_Rdunits_78 (k + 1) y_2 y_3 y_4 y_5 G S h
      have hm_78 : ∀ (y_2 : Int32) (y_3 : Int32) (y_4 : Int32) (y_5 : Int32) (G : CG) (S : CS) {x : Unit} {G1 : CG} {S1 : CS}, f_Tr_nameLast_Rdunits_78 K k y_2 y_3 y_4 y_5 G S = some (x, G1, S1) → CG.le G G1 := fun y_2 y_3 y_4 y_5 G S => mo_Tr_nameLast_Rdunits_78 k y_2 y_3 y_4 y_5 G S
      rw [f_Tr_nameLast_Rdunits_78] at h
      refine lv_iload hx hb d_Tr_nameLast_78 (lv_at hl 5 rfl) ?_
      refine lv_iload_n hx hb d_Tr_nameLast_80 rfl (lv_at hl 2 rfl) ?_
      refine lv_icmp_ge (tgt := 118) hx hb d_Tr_nameLast_81 (by decide) (fun c_12 => ?_) (fun c_12 => ?_)
      · have h := lf_t h c_12
        refine lv_aload_n hx hb d_Tr_nameLast_118 rfl (lv_at hl 0 rfl) ?_
        refine lv_dup hx hb d_Tr_nameLast_119 rfl ?_
        refine va_get (D := (dC, dI)) (ci := 5) (v := .int S.v_Tr_pooled) (C := R_Tr) (T := F_Tr) (N := 18) hx hb hts (fun w h => u_Vq_Tr w (i_Tr w h)) hown hK hP 4 rfl rfl 17 (by decide) (hts _ (u_Vq_Tr _ k_Tr_22)) (fun _ h9 => h9) rfl d_Tr_nameLast_120 ?_
        refine lv_iload_n hx hb d_Tr_nameLast_123 rfl (lv_at hl 2 rfl) ?_
        refine lv_iadd hx hb d_Tr_nameLast_124 ?_
        refine va_put (D := (dC, dI)) (ci := 5) (v := .int (S.v_Tr_pooled + y_2)) (ty := .int) (C := R_Tr) (T := F_Tr) (N := 18) hx hb hts (fun w h => u_Vq_Tr w (i_Tr w h)) t_Tr t_Tr_ok n_Tr hown hK hP hD hS 4 rfl rfl 17 (by decide) (hts _ (u_Vq_Tr _ k_Tr_22)) (fun _ h9 => h9) rfl (by decide +kernel) rfl rfl (Nat.le_of_ble_eq_true rfl) d_Tr_nameLast_125 (fun H locs hP hD hS => ?_)
        obtain ⟨S_13, eS_13, h⟩ := lf_lX h
        have hP := ly_newP eS_13 hP
        have hD := ly_newD eS_13 hD
        refine lv_aload_n hx hb d_Tr_nameLast_128 rfl (lv_at hl 0 rfl) ?_
        refine va_get (D := (dC, dI)) (ci := 5) (v := .ref Y.a_nameBytes) (C := R_Tr) (T := F_Tr) (N := 18) hx hb hts (fun w h => u_Vq_Tr w (i_Tr w h)) hown hK hP 4 rfl rfl 13 (by decide) (hts _ (u_Vq_Tr _ k_Tr_18)) (fun _ h9 => h9) rfl d_Tr_nameLast_129 ?_
        refine lv_iload_n hx hb d_Tr_nameLast_132 rfl (lv_at hl 3 rfl) ?_
        refine lv_iload hx hb d_Tr_nameLast_133 (lv_at hl 4 rfl) ?_
        obtain ⟨g_14, h⟩ := lf_gE h
        refine va_iast hx hb hK hP hD hS 28 2 rfl rfl g_14 d_Tr_nameLast_135 (fun H locs hP hD hS => ?_)
        obtain ⟨S_15, eS_15, h⟩ := lf_lX h
        have hP := ly_newP eS_15 hP
        have hD := ly_newD eS_15 hD
        rw [hQ]
        have e2 : G = G' := congrArg (fun z => z.2.1) (Option.some.inj h)
        have e3 : S_15 = S' := congrArg (fun z => z.2.2) (Option.some.inj h)
        have hP := ly_newP3 e2.symm e3.symm hP
        have hD := ly_newD3 e2.symm e3.symm hD
        refine W.widen (k := G'.gc - G0.gc) (n := G'.gs - G0.gs) (ly_wc e2) (ly_ws e2) ?_
        exact W.vret hx hb hr (fun t ht hW => ⟨⟨Y, rfl, trivial, by rw [ht]; exact hP, va_K.moved hW.alike hK, hD⟩, hS.F ht⟩) hS.2.2 d_Tr_nameLast_136
      · have h := lf_f h c_12
        refine lv_aload_n hx hb d_Tr_nameLast_84 rfl (lv_at hl 0 rfl) ?_
        refine va_get (D := (dC, dI)) (ci := 5) (v := .ref Y.a_pool) (C := R_Tr) (T := F_Tr) (N := 18) hx hb hts (fun w h => u_Vq_Tr w (i_Tr w h)) hown hK hP 4 rfl rfl 16 (by decide) (hts _ (u_Vq_Tr _ k_Tr_21)) (fun _ h9 => h9) rfl d_Tr_nameLast_85 ?_
        refine lv_aload_n hx hb d_Tr_nameLast_88 rfl (lv_at hl 0 rfl) ?_
        refine va_get (D := (dC, dI)) (ci := 5) (v := .int S.v_Tr_pooled) (C := R_Tr) (T := F_Tr) (N := 18) hx hb hts (fun w h => u_Vq_Tr w (i_Tr w h)) hown hK hP 4 rfl rfl 17 (by decide) (hts _ (u_Vq_Tr _ k_Tr_22)) (fun _ h9 => h9) rfl d_Tr_nameLast_89 ?_
        refine lv_iload hx hb d_Tr_nameLast_92 (lv_at hl 5 rfl) ?_
        refine lv_iadd hx hb d_Tr_nameLast_94 ?_
        refine lv_aload_n hx hb d_Tr_nameLast_95 rfl (lv_at hl 1 rfl) ?_
        refine lv_iload hx hb d_Tr_nameLast_96 (lv_at hl 5 rfl) ?_
        obtain ⟨g_16, h⟩ := lf_gE h
        refine va_iald hx hb hK hP 35 2 rfl rfl g_16 d_Tr_nameLast_98 ?_
        obtain ⟨g_17, h⟩ := lf_gE h
        refine va_iast hx hb hK hP hD hS 31 2 rfl rfl g_17 d_Tr_nameLast_99 (fun H locs hP hD hS => ?_)
        obtain ⟨S_18, eS_18, h⟩ := lf_lX h
        have hP := ly_newP eS_18 hP
        have hD := ly_newD eS_18 hD
        refine lv_iload hx hb d_Tr_nameLast_100 (lv_at hl 4 rfl) ?_
        refine lv_aload_n hx hb d_Tr_nameLast_102 rfl (lv_at hl 1 rfl) ?_
        refine lv_iload hx hb d_Tr_nameLast_103 (lv_at hl 5 rfl) ?_
        obtain ⟨g_19, h⟩ := lf_gE h
        refine va_iald hx hb hK hP 35 2 rfl rfl g_19 d_Tr_nameLast_105 ?_
        obtain ⟨r_20, hc_20, h⟩ := lf_bE h
        have hFc := lx_free0 hS hA
        refine va_calli (va_runS (As := [.int (S_18.w_Rd_units y_5.toNatClampNeg)]) (rest := [.int y_4]) ⟨hx, hb, hml, hown, hts⟩ (l_Wo_width l dC dI  _ hc_20) (va_cwS 1 hts (gwS good_Vq (u_Vq_Tr _ k_Tr_67) (u_Vq_Wo _ k_Wo_19) (u_Vq_Wo _ k_Wo_0) (wcs (u_Vq_Wo _ k_Wo_20) (fun _ h => h))) rfl rfl rfl (by decide +kernel) ⟨Nat.le_of_ble_eq_true rfl, Nat.le_of_ble_eq_true rfl⟩) (ps_of (W := []) (tys := []) (hP.sub (ws' := []) [] rfl) (hK.sub [] rfl) (hD.sub (ws' := []) [] (by decide) rfl)) rfl rfl hl.1 rfl (lv_room (Nat.le_of_ble_eq_true rfl)) d_Tr_nameLast_106 ⟨ly_c0 mF.1, ly_c0 mF.2⟩) hS (fun q _ h => hFc q h) hFc (fun r_ u t H locs ht hvm hw hB hz1 hk1 hS => ?_)
        rw [hw]
        have hP := lx_stat (A := A) hP hk1
        refine lv_iadd hx hb d_Tr_nameLast_109 ?_
        refine lv_topi (fun x_21 ex_21 => ?_)
        have h := lf_lE h ex_21
        refine lv_istore (lv' := [(4, .int x_21), (0, .ref M.o_Tr), (1, .ref M.a_Rd_units), (2, .int y_2), (3, .int y_3), (5, .int y_5)]) hx hb d_Tr_nameLast_110 hl (by decide) rfl (fun ls hl => ?_)
        obtain ⟨x_22, ex_22, h⟩ := lf_lX h
        refine lv_iinc (v := x_22) (lv' := [(5, .int x_22), (4, .int x_21), (0, .ref M.o_Tr), (1, .ref M.a_Rd_units), (2, .int y_2), (3, .int y_3)]) hx hb d_Tr_nameLast_112 hl (k := 5) rfl (by rw [ex_22]; rfl) (by decide) rfl (fun ls hl => ?_)
        refine lv_goto (tgt := 78) hx hb d_Tr_nameLast_115 (by decide) ?_
        exact hr_78 y_2 y_3 x_21 x_22 Y G S_18 _ _ _ h m0 hP hD hS (lv_sub hl [2, 3, 4, 5, 1, 0] rfl)
  have hB_55 : ∀ (y_2 : Int32) (y_3 : Int32) (Y : CT) (G : CG) (S : CS) (H : Heap) (locs : List Loc) (ls : Array Slot), f_Tr_nameLast_Rdunits_55 K y_2 y_3 G S = some ((), G', S') → CG.le G0 G → va_P (dC, dI) classes (wV M Y G S) H → va_D A (wV M Y G S) → va_S A s.heap H locs → lv_has ls 6 [(0, .ref M.o_Tr), (1, .ref M.a_Rd_units), (2, .int y_2), (3, .int y_3)] → W p l e ({ frames := 2, cells := G'.gc - G0.gc, slots := G'.gs - G0.gs, locals := 82 }) s m ([.ref M.o_Tr, .ref M.a_Rd_units, .int p1] : List Value).toArray below meth c H locs (G.gc - G0.gc) (G.gs - G0.gs) Q (F0 m 55 ls []) := by
    intro y_2 y_3 Y G S H locs ls h m0 hP hD hS hl
    have mF := mo_Tr_nameLast_Rdunits_55 h
    rw [f_Tr_nameLast_Rdunits_55] at h
    refine lv_aload_n hx hb d_Tr_nameLast_55 rfl (lv_at hl 0 rfl) ?_
    refine va_get (D := (dC, dI)) (ci := 5) (v := .ref Y.a_nameAt) (C := R_Tr) (T := F_Tr) (N := 18) hx hb hts (fun w h => u_Vq_Tr w (i_Tr w h)) hown hK hP 4 rfl rfl 11 (by decide) (hts _ (u_Vq_Tr _ k_Tr_16)) (fun _ h9 => h9) rfl d_Tr_nameLast_56 ?_
    refine lv_iload_n hx hb d_Tr_nameLast_59 rfl (lv_at hl 3 rfl) ?_
    refine lv_aload_n hx hb d_Tr_nameLast_60 rfl (lv_at hl 0 rfl) ?_
    refine va_get (D := (dC, dI)) (ci := 5) (v := .int S.v_Tr_pooled) (C := R_Tr) (T := F_Tr) (N := 18) hx hb hts (fun w h => u_Vq_Tr w (i_Tr w h)) hown hK hP 4 rfl rfl 17 (by decide) (hts _ (u_Vq_Tr _ k_Tr_22)) (fun _ h9 => h9) rfl d_Tr_nameLast_61 ?_
    obtain ⟨g_8, h⟩ := lf_gE h
    refine va_iast hx hb hK hP hD hS 26 2 rfl rfl g_8 d_Tr_nameLast_64 (fun H locs hP hD hS => ?_)
    obtain ⟨S_9, eS_9, h⟩ := lf_lX h
    have hP := ly_newP eS_9 hP
    have hD := ly_newD eS_9 hD
    refine lv_aload_n hx hb d_Tr_nameLast_65 rfl (lv_at hl 0 rfl) ?_
    refine va_get (D := (dC, dI)) (ci := 5) (v := .ref Y.a_nameLength) (C := R_Tr) (T := F_Tr) (N := 18) hx hb hts (fun w h => u_Vq_Tr w (i_Tr w h)) hown hK hP 4 rfl rfl 12 (by decide) (hts _ (u_Vq_Tr _ k_Tr_17)) (fun _ h9 => h9) rfl d_Tr_nameLast_66 ?_
    refine lv_iload_n hx hb d_Tr_nameLast_69 rfl (lv_at hl 3 rfl) ?_
    refine lv_iload_n hx hb d_Tr_nameLast_70 rfl (lv_at hl 2 rfl) ?_
    obtain ⟨g_10, h⟩ := lf_gE h
    refine va_iast hx hb hK hP hD hS 27 2 rfl rfl g_10 d_Tr_nameLast_71 (fun H locs hP hD hS => ?_)
    obtain ⟨S_11, eS_11, h⟩ := lf_lX h
    have hP := ly_newP eS_11 hP
    have hD := ly_newD eS_11 hD
    refine lv_iconst (v := 0) hx hb d_Tr_nameLast_72 (by decide) ?_
    refine lv_istore (lv' := [(4, .int 0), (0, .ref M.o_Tr), (1, .ref M.a_Rd_units), (2, .int y_2), (3, .int y_3)]) hx hb d_Tr_nameLast_73 hl (by decide) rfl (fun ls hl => ?_)
    refine lv_iconst (v := 0) hx hb d_Tr_nameLast_75 (by decide) ?_
    refine lv_istore (lv' := [(5, .int 0), (4, .int 0), (0, .ref M.o_Tr), (1, .ref M.a_Rd_units), (2, .int y_2), (3, .int y_3)]) hx hb d_Tr_nameLast_76 hl (by decide) rfl (fun ls hl => ?_)
    exact hB_78 K y_2 y_3 0 0 Y G S_11 _ _ _ h m0 hP hD hS (lv_sub hl [2, 3, 4, 5, 1, 0] rfl)
  have m0 : CG.le G0 G0 := ⟨Nat.le_refl _, Nat.le_refl _⟩
  have mF := mo_Tr_nameLast_Rdunits h
  refine W.widen (k := G0.gc - G0.gc) (n := G0.gs - G0.gs) (Nat.zero_le _) (Nat.zero_le _) ?_
  rw [f_Tr_nameLast_Rdunits] at h
  refine lv_aload_n hx hb d_Tr_nameLast_0 rfl (lv_at hl 0 rfl) ?_
  refine va_get (D := (dC, dI)) (ci := 5) (v := .int S.v_Tr_count) (C := R_Tr) (T := F_Tr) (N := 18) hx hb hts (fun w h => u_Vq_Tr w (i_Tr w h)) hown hK hP 4 rfl rfl 0 (by decide) (hts _ (u_Vq_Tr _ k_Tr_5)) (fun _ h9 => h9) rfl d_Tr_nameLast_1 ?_
  refine lv_iconst (v := 1) hx hb d_Tr_nameLast_4 (by decide) ?_
  refine lv_isub hx hb d_Tr_nameLast_5 ?_
  refine lv_topi (fun x_1 ex_1 => ?_)
  have h := lf_lE h ex_1
  refine lv_istore_n (lv' := [(3, .int x_1), (0, .ref M.o_Tr), (1, .ref M.a_Rd_units), (2, .int p1)]) hx hb d_Tr_nameLast_6 rfl hl (by decide) rfl (fun ls hl => ?_)
  refine lv_iload_n hx hb d_Tr_nameLast_7 rfl (lv_at hl 0 rfl) ?_
  refine lv_if_lt (tgt := 21) hx hb d_Tr_nameLast_8 (by decide) (fun c_2 => ?_) (fun c_2 => ?_)
  · have h := lf_t h c_2
    rw [hQ]
    have e2 : G0 = G' := congrArg (fun z => z.2.1) (Option.some.inj h)
    have e3 : S = S' := congrArg (fun z => z.2.2) (Option.some.inj h)
    have hP := ly_newP3 e2.symm e3.symm hP
    have hD := ly_newD3 e2.symm e3.symm hD
    refine W.widen (k := G'.gc - G0.gc) (n := G'.gs - G0.gs) (ly_wc e2) (ly_ws e2) ?_
    exact W.vret hx hb hr (fun t ht hW => ⟨⟨Y, rfl, trivial, by rw [ht]; exact hP, va_K.moved hW.alike hK, hD⟩, hS.F ht⟩) hS.2.2 d_Tr_nameLast_21
  · have h := lf_f h c_2
    refine lv_iload_n hx hb d_Tr_nameLast_11 rfl (lv_at hl 3 rfl) ?_
    refine lv_if_lt (tgt := 21) hx hb d_Tr_nameLast_12 (by decide) (fun c_3 => ?_) (fun c_3 => ?_)
    · have h := lf_t h c_3
      rw [hQ]
      have e2 : G0 = G' := congrArg (fun z => z.2.1) (Option.some.inj h)
      have e3 : S = S' := congrArg (fun z => z.2.2) (Option.some.inj h)
      have hP := ly_newP3 e2.symm e3.symm hP
      have hD := ly_newD3 e2.symm e3.symm hD
      refine W.widen (k := G'.gc - G0.gc) (n := G'.gs - G0.gs) (ly_wc e2) (ly_ws e2) ?_
      exact W.vret hx hb hr (fun t ht hW => ⟨⟨Y, rfl, trivial, by rw [ht]; exact hP, va_K.moved hW.alike hK, hD⟩, hS.F ht⟩) hS.2.2 d_Tr_nameLast_21
    · have h := lf_f h c_3
      refine lv_iload_n hx hb d_Tr_nameLast_15 rfl (lv_at hl 3 rfl) ?_
      refine lv_aload_n hx hb d_Tr_nameLast_16 rfl (lv_at hl 2 rfl) ?_
      refine va_alen (v := 260) hx hb hK hP 35 2 rfl rfl rfl d_Tr_nameLast_17 ?_
      refine lv_icmp_le (tgt := 22) hx hb d_Tr_nameLast_18 (by decide) (fun c_4 => ?_) (fun c_4 => ?_)
      · have h := lf_t h c_4
        refine lv_aload_n hx hb d_Tr_nameLast_22 rfl (lv_at hl 1 rfl) ?_
        refine va_get (D := (dC, dI)) (ci := 5) (v := .int S.v_Tr_pooled) (C := R_Tr) (T := F_Tr) (N := 18) hx hb hts (fun w h => u_Vq_Tr w (i_Tr w h)) hown hK hP 4 rfl rfl 17 (by decide) (hts _ (u_Vq_Tr _ k_Tr_22)) (fun _ h9 => h9) rfl d_Tr_nameLast_23 ?_
        refine lv_iload_n hx hb d_Tr_nameLast_26 rfl (lv_at hl 3 rfl) ?_
        refine lv_iadd hx hb d_Tr_nameLast_27 ?_
        refine lv_aload_n hx hb d_Tr_nameLast_28 rfl (lv_at hl 1 rfl) ?_
        refine va_get (D := (dC, dI)) (ci := 5) (v := .ref Y.a_pool) (C := R_Tr) (T := F_Tr) (N := 18) hx hb hts (fun w h => u_Vq_Tr w (i_Tr w h)) hown hK hP 4 rfl rfl 16 (by decide) (hts _ (u_Vq_Tr _ k_Tr_21)) (fun _ h9 => h9) rfl d_Tr_nameLast_29 ?_
        refine va_alen (v := nI G0.l_pool) hx hb hK hP 31 2 rfl rfl rfl d_Tr_nameLast_32 ?_
        refine lv_icmp_le (tgt := 55) hx hb d_Tr_nameLast_33 (by decide) (fun c_5 => ?_) (fun c_5 => ?_)
        · have h := lf_t h c_5
          exact hB_55 p1 x_1 Y G0 S _ _ _ h m0 hP hD hS (lv_sub hl [1, 2, 3, 0] rfl)
        · have h := lf_f h c_5
          refine lv_aload_n hx hb d_Tr_nameLast_36 rfl (lv_at hl 1 rfl) ?_
          refine lv_aload_n hx hb d_Tr_nameLast_37 rfl (lv_at hl 1 rfl) ?_
          refine va_get (D := (dC, dI)) (ci := 5) (v := .ref Y.a_pool) (C := R_Tr) (T := F_Tr) (N := 18) hx hb hts (fun w h => u_Vq_Tr w (i_Tr w h)) hown hK hP 4 rfl rfl 16 (by decide) (hts _ (u_Vq_Tr _ k_Tr_21)) (fun _ h9 => h9) rfl d_Tr_nameLast_38 ?_
          refine lv_iconst (v := 2) hx hb d_Tr_nameLast_41 (by decide) ?_
          refine lv_aload_n hx hb d_Tr_nameLast_42 rfl (lv_at hl 1 rfl) ?_
          refine va_get (D := (dC, dI)) (ci := 5) (v := .int S.v_Tr_pooled) (C := R_Tr) (T := F_Tr) (N := 18) hx hb hts (fun w h => u_Vq_Tr w (i_Tr w h)) hown hK hP 4 rfl rfl 17 (by decide) (hts _ (u_Vq_Tr _ k_Tr_22)) (fun _ h9 => h9) rfl d_Tr_nameLast_43 ?_
          refine lv_iload_n hx hb d_Tr_nameLast_46 rfl (lv_at hl 3 rfl) ?_
          refine lv_iadd hx hb d_Tr_nameLast_47 ?_
          refine lv_imul hx hb d_Tr_nameLast_48 ?_
          obtain ⟨g_6, h⟩ := lf_gE h
          obtain ⟨G_7, eG_7, h⟩ := lf_lX h
          obtain ⟨S_7, eS_7, h⟩ := lf_lX h
          have mc : CG.le G0 G_7 := by rw [eG_7]; exact ⟨Nat.le_add_right _ _, Nat.le_add_right _ _⟩
          have ml_7 : CG.le G0 G_7 := by rw [eG_7]; exact ⟨Nat.le_add_right _ _, Nat.le_add_right _ _⟩
          have mF1 := mo_Tr_nameLast_Rdunits_55 h
          have hPc := hP.sub (ws' := [(Y.a_pool, .inl (M.kI, G0.l_pool, .inl S.w_Tr_pool))]) [31] rfl
          have hDc := hD.sub (ws' := [(Y.a_pool, .inl (M.kI, G0.l_pool, .inl S.w_Tr_pool))]) [31] (by decide) rfl
          have hKc := hK.sub (tys' := [(M.kI, .int)]) [2] rfl
          have hFc := va_free (wc := [(Y.a_pool, .inl (M.kI, G0.l_pool, .inl S.w_Tr_pool))]) hD hS hA [31] rfl
          refine va_callr (va_runS (As := [.ref Y.a_pool, .int (2 * (S.v_Tr_pooled + p1))]) (rest := [.ref M.o_Tr]) ⟨hx, hb, hml, hown, hts⟩ (l_Ar_copyOf l dC dI Y.a_pool _ M.kI G0.l_pool S.w_Tr_pool g_6.2.2.2 g_6.1 ⟨g_6.2.1, g_6.2.2.1⟩) (va_cwS 2 hts (gwS good_Vq (u_Vq_Tr _ k_Tr_33) (u_Vq_J _ k_J_16) (u_Vq_J _ k_J_2) (wcs (u_Vq_J _ k_J_17) u_Vq_J)) rfl rfl rfl (by decide +kernel) ⟨Nat.le_of_ble_eq_true rfl, Nat.le_of_ble_eq_true rfl⟩) (ps_of hPc hKc hDc) rfl rfl hl.1 rfl (lv_room (Nat.le_of_ble_eq_true rfl)) d_Tr_nameLast_49 (ly_c3_pool rfl rfl eG_7 m0 mF1)) hS (fun q _ h => hFc q h) hFc (fun u ra t H locs ht hvm hw hB hz1 hk1 hS => ?_)
          obtain ⟨hP1, -, hD1⟩ := hB
          rw [ht] at hP1
          obtain ⟨hP, hD⟩ := va_join (wr := (wV M Y G0 S).eraseIdx 31) (w1 := [(Y.a_pool, .inl (M.kI, G0.l_pool, .inl S.w_Tr_pool)), (ra, .inl (M.kI, (2 * (S.v_Tr_pooled + p1)).toNatClampNeg, .inl (va_cpy S.w_Tr_pool (fun _ => 0) 0 0 (min G0.l_pool (2 * (S.v_Tr_pooled + p1)).toNatClampNeg))))]) hP hD [31] [0, 1, 2, 3, 4, 5, 6, 7, 8, 9, 10, 11, 12, 13, 14, 15, 16, 17, 18, 19, 20, 21, 22, 23, 24, 25, 26, 27, 28, 29, 30, 32, 33, 34, 35, 36, 37, 38, 39, 40, 41, 42, 43, 44] rfl rfl (by decide) (by decide) hk1 hFc hP1 hD1
          have hP := hP.sub (ws' := wV M Y G0 S ++ [(ra, .inl (M.kI, (2 * (S.v_Tr_pooled + p1)).toNatClampNeg, .inl (va_cpy S.w_Tr_pool (fun _ => 0) 0 0 (min G0.l_pool (2 * (S.v_Tr_pooled + p1)).toNatClampNeg))))]) [0, 1, 2, 3, 4, 5, 6, 7, 8, 9, 10, 11, 12, 13, 14, 15, 16, 17, 18, 19, 20, 21, 22, 23, 24, 25, 26, 27, 28, 29, 30, 44, 31, 32, 33, 34, 35, 36, 37, 38, 39, 40, 41, 42, 43, 45] rfl
          have hD := hD.sub (ws' := wV M Y G0 S ++ [(ra, .inl (M.kI, (2 * (S.v_Tr_pooled + p1)).toNatClampNeg, .inl (va_cpy S.w_Tr_pool (fun _ => 0) 0 0 (min G0.l_pool (2 * (S.v_Tr_pooled + p1)).toNatClampNeg))))]) [0, 1, 2, 3, 4, 5, 6, 7, 8, 9, 10, 11, 12, 13, 14, 15, 16, 17, 18, 19, 20, 21, 22, 23, 24, 25, 26, 27, 28, 29, 30, 44, 31, 32, 33, 34, 35, 36, 37, 38, 39, 40, 41, 42, 43, 45] (by decide) rfl
          refine va_put (D := (dC, dI)) (ci := 5) (v := .ref ra) (ty := .array .int) (C := R_Tr) (T := F_Tr) (N := 18) hx hb hts (fun w h => u_Vq_Tr w (i_Tr w h)) t_Tr t_Tr_ok n_Tr hown hK hP hD hS 4 rfl rfl 16 (by decide) (hts _ (u_Vq_Tr _ k_Tr_21)) (fun _ h9 => h9) rfl (by decide +kernel) rfl rfl (Nat.le_of_ble_eq_true rfl) d_Tr_nameLast_52 (fun H locs hP hD hS => ?_)
          have hP := ly_newP3 eG_7 eS_7 (hP.sub (ws' := wV M (Y.u_a_pool ra) ((G0.u_l_pool (2 * (S.v_Tr_pooled + p1)).toNatClampNeg).made 1 (2 * (S.v_Tr_pooled + p1)).toNatClampNeg) (S.u_w_Tr_pool (va_cpy S.w_Tr_pool (fun _ => 0) 0 0 (min G0.l_pool (2 * (S.v_Tr_pooled + p1)).toNatClampNeg)))) [0, 1, 2, 3, 4, 5, 6, 7, 8, 9, 10, 11, 12, 13, 14, 15, 16, 17, 18, 19, 20, 21, 22, 23, 24, 25, 26, 27, 28, 29, 30, 45, 32, 33, 34, 35, 36, 37, 38, 39, 40, 41, 42, 43, 44] rfl)
          have hD := ly_newD3 eG_7 eS_7 (hD.sub (ws' := wV M (Y.u_a_pool ra) ((G0.u_l_pool (2 * (S.v_Tr_pooled + p1)).toNatClampNeg).made 1 (2 * (S.v_Tr_pooled + p1)).toNatClampNeg) (S.u_w_Tr_pool (va_cpy S.w_Tr_pool (fun _ => 0) 0 0 (min G0.l_pool (2 * (S.v_Tr_pooled + p1)).toNatClampNeg)))) [0, 1, 2, 3, 4, 5, 6, 7, 8, 9, 10, 11, 12, 13, 14, 15, 16, 17, 18, 19, 20, 21, 22, 23, 24, 25, 26, 27, 28, 29, 30, 45, 32, 33, 34, 35, 36, 37, 38, 39, 40, 41, 42, 43, 44] (by decide) rfl)
          refine W.widen (k := G_7.gc - G0.gc) (n := G_7.gs - G0.gs) (ly_c4_pool eG_7 m0) (ly_c5_pool eG_7 m0) ?_
          have m0 := CG.le_tr m0 mc
          obtain ⟨Y_7, eY⟩ : ∃ y, y = (Y.u_a_pool ra) := ⟨_, rfl⟩
          rw [← eY] at hP hD
          exact hB_55 p1 x_1 Y_7 G_7 S_7 _ _ _ h m0 hP hD hS (lv_sub hl [1, 2, 3, 0] rfl)
      · have h := lf_f h c_4
        rw [hQ]
        have e2 : G0 = G' := congrArg (fun z => z.2.1) (Option.some.inj h)
        have e3 : S = S' := congrArg (fun z => z.2.2) (Option.some.inj h)
        have hP := ly_newP3 e2.symm e3.symm hP
        have hD := ly_newD3 e2.symm e3.symm hD
        refine W.widen (k := G'.gc - G0.gc) (n := G'.gs - G0.gs) (ly_wc e2) (ly_ws e2) ?_
        exact W.vret hx hb hr (fun t ht hW => ⟨⟨Y, rfl, trivial, by rw [ht]; exact hP, va_K.moved hW.alike hK, hD⟩, hS.F ht⟩) hS.2.2 d_Tr_nameLast_21
set_option maxHeartbeats 4000000 in
set_option maxRecDepth 100000 in
theorem l_Rd_readEntry (l : Launch) (dC : Nat → ClassId) (dI : Nat → Nat → Nat) {K : Nat} {M : CA} {E : (Nat → Prop) → State → Prop} (X : ly_X l dC dI K M E) (sz : Nat) {Y : CT} {G0 G' : CG} {S S' : CS} {p0 : Int32} {p1 : Int32} {p2 : Int32} {r : Int32} (h : f_Rd_readEntry K G0 S p0 p1 p2 = some (r, G', S')) : Met l y_Rd_readEntry (.code y_Rd_readEntry cb_Rd_readEntry 9 (some .int) :: V_Vq) ({ frames := 4, cells := G'.gc - G0.gc, slots := G'.gs - G0.gs, locals := 126 }) (va_Pc [.ref M.o_Rd, .int p0, .int p1, .int p2] (fun U => U.heap.size = sz ∧ at_ (dC, dI) (fun _ => True) (wV M Y G0 S) (tV M) U ∧ E (va_A (wV M Y G0 S) sz) U)) (va_Qi (fun (r_ : Int32) (u : CT) => r_ = r) (fun (u : CT) t => at_ (dC, dI) (va_A (wV M Y G0 S) sz) (wV M u G' S') (tV M) t) (va_A (wV M Y G0 S) sz)) (G'.gc - G0.gc) (G'.gs - G0.gs) (va_A (wV M Y G0 S) sz) := by
  refine Met.ofW (cc := cb_Rd_readEntry) (maxL := 9) (ret := (some .int)) (by decide) rfl ?_
  intro p e s m args below meth c s₁ B hml hv
  obtain ⟨rfl, hsz, ⟨hP, hK, hD0⟩, hE⟩ := hv
  have hx := B.exec
  have hb := B.bytes
  have hr := B.returns
  have hts0 := atoms_spec (ws := .code y_Rd_readEntry cb_Rd_readEntry 9 (some .int) :: V_Vq) B.pre
  have hts : ∀ w ∈ V_Vq, w.before ([.ref M.o_Rd, .int p0, .int p1, .int p2] : List Value).toArray s = true := fun w h => hts0 w (List.mem_cons_of_mem _ h)
  have hown : s.vm.findClass R_Rd = some m.cls := findClass_of_methodNamed B.named
  subst hsz
  have hD := hD0.self (sz := s.heap.size)
  generalize hAe : va_A (wV M Y G0 S) s.heap.size = A at hD hE ⊢
  have hA : ∀ q : Nat, s.heap.size ≤ q → A q := fun q h => by rw [← hAe]; exact Or.inr h
  have hS : va_S A s.heap s.heap [] := va_S.rf
  have hP : va_P (dC, dI) classes (wV M Y G0 S) s.heap := hP
  have hK : va_K (dC, dI) classes (tV M) s := hK
  have hEw : ∀ (H : Heap) (locs : List Loc), va_S A s.heap H locs → ∀ U : State, U.heap = H → s.WarmedH U.vm → E A U := fun H locs hS U hU hW => X.kept A s U H locs hE hS hU hW
  have hl := lv_entry ([.ref M.o_Rd, .int p0, .int p1, .int p2]) (n := 9) (Nat.le_of_ble_eq_true rfl)
  rw [lg_entry_eq]
  generalize (lg_sl ([.ref M.o_Rd, .int p0, .int p1, .int p2]) ++ List.replicate (9 - (lg_sl ([.ref M.o_Rd, .int p0, .int p1, .int p2])).length) Slot.unset).toArray = ls at hl ⊢
  have hl : lv_has ls 9 [(0, .ref M.o_Rd), (1, .int p0), (2, .int p1), (3, .int p2)] := hl
  refine qabs (fun Q hQ => ?_)
  have hB_62 : ∀ (Y : CT) (G : CG) (S : CS) (H : Heap) (locs : List Loc) (ls : Array Slot), f_Rd_readEntry_62 K G S = some (r, G', S') → CG.le G0 G → va_P (dC, dI) classes (wV M Y G S) H → va_D A (wV M Y G S) → va_S A s.heap H locs → lv_has ls 9 [] → W p l e ({ frames := 4, cells := G'.gc - G0.gc, slots := G'.gs - G0.gs, locals := 126 }) s m ([.ref M.o_Rd, .int p0, .int p1, .int p2] : List Value).toArray below meth c H locs (G.gc - G0.gc) (G.gs - G0.gs) Q (F0 m 62 ls []) := by
    intro Y G S H locs ls h m0 hP hD hS hl
    have mF := mo_Rd_readEntry_62 h
    rw [f_Rd_readEntry_62] at h
    refine lv_iconst (v := 4) hx hb d_Rd_readEntry_62 (by decide) ?_
    rw [hQ]
    have e1 : (4 : Int32) = r := congrArg (fun z => z.1) (Option.some.inj h)
    have e2 : G = G' := congrArg (fun z => z.2.1) (Option.some.inj h)
    have e3 : S = S' := congrArg (fun z => z.2.2) (Option.some.inj h)
    have hP := ly_newP3 e2.symm e3.symm hP
    have hD := ly_newD3 e2.symm e3.symm hD
    refine W.widen (k := G'.gc - G0.gc) (n := G'.gs - G0.gs) (ly_wc e2) (ly_ws e2) ?_
    exact W.iret (v := 4) hx hb hr (fun t ht hW => ⟨⟨4, Y, rfl, e1, by rw [ht]; exact hP, va_K.moved hW.alike hK, hD⟩, hS.F ht⟩) hS.2.2 d_Rd_readEntry_63
  have hB_96 : ∀ (y_3 : Int32) (z_0 : Int32) (Y : CT) (G : CG) (S : CS) (H : Heap) (locs : List Loc) (ls : Array Slot), f_Rd_readEntry_96 K y_3 z_0 G S = some (r, G', S') → CG.le G0 G → va_P (dC, dI) classes (wV M Y G S) H → va_D A (wV M Y G S) → va_S A s.heap H locs → lv_has ls 9 [(0, .ref M.o_Rd), (3, .int y_3)] → W p l e ({ frames := 4, cells := G'.gc - G0.gc, slots := G'.gs - G0.gs, locals := 126 }) s m ([.ref M.o_Rd, .int p0, .int p1, .int p2] : List Value).toArray below meth c H locs (G.gc - G0.gc) (G.gs - G0.gs) Q (F0 m 96 ls [.int z_0]) := by
    intro y_3 z_0 Y G S H locs ls h m0 hP hD hS hl
    have mF := mo_Rd_readEntry_96 h
    rw [f_Rd_readEntry_96] at h
    refine lv_istore (lv' := [(6, .int z_0), (0, .ref M.o_Rd), (3, .int y_3)]) hx hb d_Rd_readEntry_96 hl (by decide) rfl (fun ls hl => ?_)
    refine lv_aload_n hx hb d_Rd_readEntry_98 rfl (lv_at hl 1 rfl) ?_
    refine va_get (D := (dC, dI)) (ci := 7) (v := .ref M.o_Tr) (C := R_Rd) (T := F_Rd) (N := 10) hx hb hts (fun w h => u_Vq_Rd w (i_Rd w h)) hown hK hP 5 rfl rfl 2 (by decide) (hts _ (u_Vq_Rd _ k_Rd_12)) (fun _ h9 => h9) rfl d_Rd_readEntry_99 ?_
    refine lv_iload_n hx hb d_Rd_readEntry_102 rfl (lv_at hl 2 rfl) ?_
    refine va_put (D := (dC, dI)) (ci := 5) (v := .int y_3) (ty := .int) (C := R_Tr) (T := F_Tr) (N := 18) hx hb hts (fun w h => u_Vq_Tr w (i_Tr w h)) t_Tr t_Tr_ok n_Tr hown hK hP hD hS 4 rfl rfl 1 (by decide) (hts _ (u_Vq_Rd _ k_Rd_4)) (fun _ h9 => h9) rfl (by decide +kernel) rfl rfl (Nat.le_of_ble_eq_true rfl) d_Rd_readEntry_103 (fun H locs hP hD hS => ?_)
    obtain ⟨S_19, eS_19, h⟩ := lf_lX h
    have hP := ly_newP eS_19 hP
    have hD := ly_newD eS_19 hD
    refine lv_iload hx hb d_Rd_readEntry_106 (lv_at hl 0 rfl) ?_
    refine lv_if_eq (tgt := 115) hx hb d_Rd_readEntry_108 (by decide) (fun c_20 => ?_) (fun c_20 => ?_)
    · have h := lf_t h c_20
      refine lv_iconst (v := 0) hx hb d_Rd_readEntry_115 (by decide) ?_
      rw [hQ]
      have e1 : (0 : Int32) = r := congrArg (fun z => z.1) (Option.some.inj h)
      have e2 : G = G' := congrArg (fun z => z.2.1) (Option.some.inj h)
      have e3 : S_19 = S' := congrArg (fun z => z.2.2) (Option.some.inj h)
      have hP := ly_newP3 e2.symm e3.symm hP
      have hD := ly_newD3 e2.symm e3.symm hD
      refine W.widen (k := G'.gc - G0.gc) (n := G'.gs - G0.gs) (ly_wc e2) (ly_ws e2) ?_
      exact W.iret (v := 0) hx hb hr (fun t ht hW => ⟨⟨0, Y, rfl, e1, by rw [ht]; exact hP, va_K.moved hW.alike hK, hD⟩, hS.F ht⟩) hS.2.2 d_Rd_readEntry_116
    · have h := lf_f h c_20
      refine lv_iconst (v := 4) hx hb d_Rd_readEntry_111 (by decide) ?_
      refine lv_goto (tgt := 116) hx hb d_Rd_readEntry_112 (by decide) ?_
      rw [hQ]
      have e1 : (4 : Int32) = r := congrArg (fun z => z.1) (Option.some.inj h)
      have e2 : G = G' := congrArg (fun z => z.2.1) (Option.some.inj h)
      have e3 : S_19 = S' := congrArg (fun z => z.2.2) (Option.some.inj h)
      have hP := ly_newP3 e2.symm e3.symm hP
      have hD := ly_newD3 e2.symm e3.symm hD
      refine W.widen (k := G'.gc - G0.gc) (n := G'.gs - G0.gs) (ly_wc e2) (ly_ws e2) ?_
      exact W.iret (v := 4) hx hb hr (fun t ht hW => ⟨⟨4, Y, rfl, e1, by rw [ht]; exact hP, va_K.moved hW.alike hK, hD⟩, hS.F ht⟩) hS.2.2 d_Rd_readEntry_116
  have hB_91 : ∀ (y_3 : Int32) (Y : CT) (G : CG) (S : CS) (H : Heap) (locs : List Loc) (ls : Array Slot), f_Rd_readEntry_91 K y_3 G S = some (r, G', S') → CG.le G0 G → va_P (dC, dI) classes (wV M Y G S) H → va_D A (wV M Y G S) → va_S A s.heap H locs → lv_has ls 9 [(0, .ref M.o_Rd), (3, .int y_3)] → W p l e ({ frames := 4, cells := G'.gc - G0.gc, slots := G'.gs - G0.gs, locals := 126 }) s m ([.ref M.o_Rd, .int p0, .int p1, .int p2] : List Value).toArray below meth c H locs (G.gc - G0.gc) (G.gs - G0.gs) Q (F0 m 91 ls []) := by
    intro y_3 Y G S H locs ls h m0 hP hD hS hl
    have mF := mo_Rd_readEntry_91 h
    rw [f_Rd_readEntry_91] at h
    refine lv_iconst (v := 1) hx hb d_Rd_readEntry_91 (by decide) ?_
    refine lv_goto (tgt := 96) hx hb d_Rd_readEntry_92 (by decide) ?_
    exact hB_96 y_3 1 Y G S _ _ _ h m0 hP hD hS (lv_sub hl [0, 1] rfl)
  have hB_181 : ∀ (y_2 : Int32) (y_3 : Int32) (y_7 : Int32) (y_8 : Int32) (Y : CT) (G : CG) (S : CS) (H : Heap) (locs : List Loc) (ls : Array Slot), f_Rd_readEntry_181 K y_2 y_3 y_7 y_8 G S = some (r, G', S') → CG.le G0 G → va_P (dC, dI) classes (wV M Y G S) H → va_D A (wV M Y G S) → va_S A s.heap H locs → lv_has ls 9 [(0, .ref M.o_Rd), (2, .int y_2), (3, .int y_3), (7, .int y_7), (8, .int y_8)] → W p l e ({ frames := 4, cells := G'.gc - G0.gc, slots := G'.gs - G0.gs, locals := 126 }) s m ([.ref M.o_Rd, .int p0, .int p1, .int p2] : List Value).toArray below meth c H locs (G.gc - G0.gc) (G.gs - G0.gs) Q (F0 m 181 ls []) := by
    intro y_2 y_3 y_7 y_8 Y G S H locs ls h m0 hP hD hS hl
    have mF := mo_Rd_readEntry_181 h
    rw [f_Rd_readEntry_181] at h
    refine lv_aload_n hx hb d_Rd_readEntry_181 rfl (lv_at hl 0 rfl) ?_
    refine va_get (D := (dC, dI)) (ci := 7) (v := .ref M.o_Tr) (C := R_Rd) (T := F_Rd) (N := 10) hx hb hts (fun w h => u_Vq_Rd w (i_Rd w h)) hown hK hP 5 rfl rfl 2 (by decide) (hts _ (u_Vq_Rd _ k_Rd_12)) (fun _ h9 => h9) rfl d_Rd_readEntry_182 ?_
    refine lv_iload hx hb d_Rd_readEntry_185 (lv_at hl 4 rfl) ?_
    refine lv_aload_n hx hb d_Rd_readEntry_187 rfl (lv_at hl 0 rfl) ?_
    refine lv_iload_n hx hb d_Rd_readEntry_188 rfl (lv_at hl 2 rfl) ?_
    obtain ⟨r_22, S_22, hc_22, h⟩ := lf_cE h
    have hFc := lx_free hD hS hA
    refine va_calli (va_runV (As := [.int y_3]) (rest := [.int y_8, .ref M.o_Tr]) ⟨hx, hb, hml, hown, hts⟩ (l_Rd_firstCluster l dC dI X _ hc_22) (cwV 1 hts (gwV good_Vq (u_Vq_Rd _ k_Rd_46) (u_Vq_Rd _ k_Rd_47) (u_Vq_Rd _ k_Rd_101) (u_Vq_Rd _ k_Rd_0) (wcs (u_Vq_Rd _ k_Rd_48) (fun _ h => h))) rfl rfl rfl (by decide +kernel) ⟨Nat.le_of_ble_eq_true rfl, Nat.le_of_ble_eq_true rfl⟩) (pv_ofE (X.same _) (fun U z1 z2 => X.mono _ _ U hFc (hEw _ _ hS U z1 z2)) hP hK hD (va_recv hK hP (ci := 7) (q0 := 5) rfl rfl)) rfl rfl hl.1 rfl (lv_room (Nat.le_of_ble_eq_true rfl)) d_Rd_readEntry_189 ⟨ly_c0 mF.1, ly_c0 mF.2⟩) hS (fun q _ h => hFc q h) hFc (fun r_ u t H locs ht hvm hw hB hz1 hk1 hS => ?_)
    rw [hw]
    obtain ⟨hP, -, hD⟩ := hB
    rw [ht] at hP
    have hD := lx_dj hD hFc
    refine lv_iload_n hx hb d_Rd_readEntry_192 rfl (lv_at hl 2 rfl) ?_
    refine lv_iload_n hx hb d_Rd_readEntry_193 rfl (lv_at hl 1 rfl) ?_
    refine lv_aload_n hx hb d_Rd_readEntry_194 rfl (lv_at hl 0 rfl) ?_
    refine va_get (D := (dC, dI)) (ci := 7) (v := .int S_22.v_Rd_parts) (C := R_Rd) (T := F_Rd) (N := 10) hx hb hts (fun w h => u_Vq_Rd w (i_Rd w h)) hown hK hP 5 rfl rfl 7 (by decide) (hts _ (u_Vq_Rd _ k_Rd_17)) (fun _ h9 => h9) rfl d_Rd_readEntry_195 ?_
    obtain ⟨S_23, hc_23, h⟩ := lf_bE h
    have hFc := lx_free hD hS hA
    refine va_callv (va_runV (As := [.int y_8, .int r_22, .int y_3, .int y_2, .int S_22.v_Rd_parts]) (rest := []) ⟨hx, hb, hml, hown, hts⟩ (l_Tr_place l dC dI X _ hc_23) (cwV 5 hts (gwV good_Vq (u_Vq_Rd _ k_Rd_85) (u_Vq_Tr _ k_Tr_35) (u_Vq_Tr _ k_Tr_36) (u_Vq_Tr _ k_Tr_0) (wcs (u_Vq_Tr _ k_Tr_37) (fun _ h => h))) rfl rfl rfl (by decide +kernel) ⟨Nat.le_of_ble_eq_true rfl, Nat.le_of_ble_eq_true rfl⟩) (pv_ofE (X.same _) (fun U z1 z2 => X.mono _ _ U hFc (hEw _ _ hS U z1 z2)) hP hK hD (va_recv hK hP (ci := 5) (q0 := 4) rfl rfl)) rfl rfl hl.1 rfl (lv_room (Nat.le_of_ble_eq_true rfl)) d_Rd_readEntry_198 ⟨ly_c0 mF.1, ly_c0 mF.2⟩) hS (fun q _ h => hFc q h) hFc (fun u t H locs ht hvm hw hB hz1 hk1 hS => ?_)
    obtain ⟨hP, -, hD⟩ := hB
    rw [ht] at hP
    have hD := lx_dj hD hFc
    refine lv_aload_n hx hb d_Rd_readEntry_201 rfl (lv_at hl 0 rfl) ?_
    refine lv_iconst (v := 0) hx hb d_Rd_readEntry_202 (by decide) ?_
    refine va_put (D := (dC, dI)) (ci := 7) (v := .int 0) (ty := .int) (C := R_Rd) (T := F_Rd) (N := 10) hx hb hts (fun w h => u_Vq_Rd w (i_Rd w h)) t_Rd t_Rd_ok n_Rd hown hK hP hD hS 5 rfl rfl 7 (by decide) (hts _ (u_Vq_Rd _ k_Rd_17)) (fun _ h9 => h9) rfl (by decide +kernel) rfl rfl (Nat.le_of_ble_eq_true rfl) d_Rd_readEntry_203 (fun H locs hP hD hS => ?_)
    obtain ⟨S_24, eS_24, h⟩ := lf_lX h
    have hP := ly_newP eS_24 hP
    have hD := ly_newD eS_24 hD
    refine lv_iload hx hb d_Rd_readEntry_206 (lv_at hl 3 rfl) ?_
    refine lv_if_eq (tgt := 213) hx hb d_Rd_readEntry_208 (by decide) (fun c_25 => ?_) (fun c_25 => ?_)
    · have h := lf_t h c_25
      refine lv_aload_n hx hb d_Rd_readEntry_213 rfl (lv_at hl 0 rfl) ?_
      refine lv_iload hx hb d_Rd_readEntry_214 (lv_at hl 4 rfl) ?_
      refine lv_aload_n hx hb d_Rd_readEntry_216 rfl (lv_at hl 0 rfl) ?_
      refine va_get (D := (dC, dI)) (ci := 7) (v := .ref M.o_Dk) (C := R_Rd) (T := F_Rd) (N := 10) hx hb hts (fun w h => u_Vq_Rd w (i_Rd w h)) hown hK hP 5 rfl rfl 0 (by decide) (hts _ (u_Vq_Rd _ k_Rd_10)) (fun _ h9 => h9) rfl d_Rd_readEntry_217 ?_
      refine lv_iload_n hx hb d_Rd_readEntry_220 rfl (lv_at hl 2 rfl) ?_
      refine lv_bipush (v := 28) hx hb d_Rd_readEntry_221 (by decide) ?_
      refine lv_iadd hx hb d_Rd_readEntry_223 ?_
      obtain ⟨r_26, S_26, hc_26, h⟩ := lf_cE h
      have hFc := lx_free hD hS hA
      refine va_calli (va_runV (As := [.int (y_3 + 28)]) (rest := [.int y_8, .ref M.o_Rd]) ⟨hx, hb, hml, hown, hts⟩ (l_Dk_four l dC dI X _ hc_26) (cwV 1 hts (gwV good_Vq (u_Vq_Rd _ k_Rd_62) (u_Vq_Dk _ k_Dk_14) (u_Vq_Dk _ k_Dk_15) (u_Vq_Dk _ k_Dk_0) (wcs (u_Vq_Dk _ k_Dk_16) (fun _ h => h))) rfl rfl rfl (by decide +kernel) ⟨Nat.le_of_ble_eq_true rfl, Nat.le_of_ble_eq_true rfl⟩) (pv_ofE (X.same _) (fun U z1 z2 => X.mono _ _ U hFc (hEw _ _ hS U z1 z2)) hP hK hD (va_recv hK hP (ci := 0) (q0 := 1) rfl rfl)) rfl rfl hl.1 rfl (lv_room (Nat.le_of_ble_eq_true rfl)) d_Rd_readEntry_224 ⟨ly_c0 mF.1, ly_c0 mF.2⟩) hS (fun q _ h => hFc q h) hFc (fun r_ u t H locs ht hvm hw hB hz1 hk1 hS => ?_)
      rw [hw]
      obtain ⟨hP, -, hD⟩ := hB
      rw [ht] at hP
      have hD := lx_dj hD hFc
      refine lv_i2l hx hb d_Rd_readEntry_227 rfl ?_
      refine lv_ldc2 (v := 4294967295) hx hb hown (hts _ (u_Vq_Rd _ k_Rd_86)) d_Rd_readEntry_228 ?_
      refine lv_land hx hb d_Rd_readEntry_231 ?_
      obtain ⟨r_27, S_27, hc_27, h⟩ := lf_cE h
      have hFc := lx_free hD hS hA
      refine va_calli (va_runV (As := [.int y_8, .long (r_26.toInt64 &&& 4294967295)]) (rest := []) ⟨hx, hb, hml, hown, hts⟩ (l_Rd_followFile l dC dI X _ hc_27) (cwV 2 hts (gwV good_Vq (u_Vq_Rd _ k_Rd_87) (u_Vq_Rd _ k_Rd_88) (u_Vq_Rd _ k_Rd_109) (u_Vq_Rd _ k_Rd_0) (wcs (u_Vq_Rd _ k_Rd_89) (fun _ h => h))) rfl rfl rfl (by decide +kernel) ⟨Nat.le_of_ble_eq_true rfl, Nat.le_of_ble_eq_true rfl⟩) (pv_ofE (X.same _) (fun U z1 z2 => X.mono _ _ U hFc (hEw _ _ hS U z1 z2)) hP hK hD (va_recv hK hP (ci := 7) (q0 := 5) rfl rfl)) rfl rfl hl.1 rfl (lv_room (Nat.le_of_ble_eq_true rfl)) d_Rd_readEntry_232 ⟨ly_c0 mF.1, ly_c0 mF.2⟩) hS (fun q _ h => hFc q h) hFc (fun r_ u t H locs ht hvm hw hB hz1 hk1 hS => ?_)
      rw [hw]
      obtain ⟨hP, -, hD⟩ := hB
      rw [ht] at hP
      have hD := lx_dj hD hFc
      refine lv_if_eq (tgt := 242) hx hb d_Rd_readEntry_235 (by decide) (fun c_28 => ?_) (fun c_28 => ?_)
      · have h := lf_t h c_28
        refine lv_iconst (v := 3) hx hb d_Rd_readEntry_242 (by decide) ?_
        rw [hQ]
        have e1 : (3 : Int32) = r := congrArg (fun z => z.1) (Option.some.inj h)
        have e2 : G = G' := congrArg (fun z => z.2.1) (Option.some.inj h)
        have e3 : S_27 = S' := congrArg (fun z => z.2.2) (Option.some.inj h)
        have hP := ly_newP3 e2.symm e3.symm hP
        have hD := ly_newD3 e2.symm e3.symm hD
        refine W.widen (k := G'.gc - G0.gc) (n := G'.gs - G0.gs) (ly_wc e2) (ly_ws e2) ?_
        exact W.iret (v := 3) hx hb hr (fun t ht hW => ⟨⟨3, Y, rfl, e1, by rw [ht]; exact hP, va_K.moved hW.alike hK, hD⟩, hS.F ht⟩) hS.2.2 d_Rd_readEntry_243
      · have h := lf_f h c_28
        refine lv_iconst (v := 0) hx hb d_Rd_readEntry_238 (by decide) ?_
        refine lv_goto (tgt := 243) hx hb d_Rd_readEntry_239 (by decide) ?_
        rw [hQ]
        have e1 : (0 : Int32) = r := congrArg (fun z => z.1) (Option.some.inj h)
        have e2 : G = G' := congrArg (fun z => z.2.1) (Option.some.inj h)
        have e3 : S_27 = S' := congrArg (fun z => z.2.2) (Option.some.inj h)
        have hP := ly_newP3 e2.symm e3.symm hP
        have hD := ly_newD3 e2.symm e3.symm hD
        refine W.widen (k := G'.gc - G0.gc) (n := G'.gs - G0.gs) (ly_wc e2) (ly_ws e2) ?_
        exact W.iret (v := 0) hx hb hr (fun t ht hW => ⟨⟨0, Y, rfl, e1, by rw [ht]; exact hP, va_K.moved hW.alike hK, hD⟩, hS.F ht⟩) hS.2.2 d_Rd_readEntry_243
    · have h := lf_f h c_25
      refine lv_iconst (v := 5) hx hb d_Rd_readEntry_211 (by decide) ?_
      rw [hQ]
      have e1 : (5 : Int32) = r := congrArg (fun z => z.1) (Option.some.inj h)
      have e2 : G = G' := congrArg (fun z => z.2.1) (Option.some.inj h)
      have e3 : S_24 = S' := congrArg (fun z => z.2.2) (Option.some.inj h)
      have hP := ly_newP3 e2.symm e3.symm hP
      have hD := ly_newD3 e2.symm e3.symm hD
      refine W.widen (k := G'.gc - G0.gc) (n := G'.gs - G0.gs) (ly_wc e2) (ly_ws e2) ?_
      exact W.iret (v := 5) hx hb hr (fun t ht hW => ⟨⟨5, Y, rfl, e1, by rw [ht]; exact hP, va_K.moved hW.alike hK, hD⟩, hS.F ht⟩) hS.2.2 d_Rd_readEntry_212
  have hB_166 : ∀ (y_2 : Int32) (y_3 : Int32) (y_6 : Int32) (y_7 : Int32) (z_0 : Int32) (Y : CT) (G : CG) (S : CS) (H : Heap) (locs : List Loc) (ls : Array Slot), f_Rd_readEntry_166 K y_2 y_3 y_6 y_7 z_0 G S = some (r, G', S') → CG.le G0 G → va_P (dC, dI) classes (wV M Y G S) H → va_D A (wV M Y G S) → va_S A s.heap H locs → lv_has ls 9 [(0, .ref M.o_Rd), (2, .int y_2), (3, .int y_3), (6, .int y_6), (7, .int y_7)] → W p l e ({ frames := 4, cells := G'.gc - G0.gc, slots := G'.gs - G0.gs, locals := 126 }) s m ([.ref M.o_Rd, .int p0, .int p1, .int p2] : List Value).toArray below meth c H locs (G.gc - G0.gc) (G.gs - G0.gs) Q (F0 m 166 ls [.int z_0]) := by
    intro y_2 y_3 y_6 y_7 z_0 Y G S H locs ls h m0 hP hD hS hl
    have mF := mo_Rd_readEntry_166 h
    rw [f_Rd_readEntry_166] at h
    refine lv_istore (lv' := [(8, .int z_0), (0, .ref M.o_Rd), (2, .int y_2), (3, .int y_3), (6, .int y_6), (7, .int y_7)]) hx hb d_Rd_readEntry_166 hl (by decide) rfl (fun ls hl => ?_)
    refine lv_aload_n hx hb d_Rd_readEntry_168 rfl (lv_at hl 1 rfl) ?_
    refine va_get (D := (dC, dI)) (ci := 7) (v := .ref M.o_Tr) (C := R_Rd) (T := F_Rd) (N := 10) hx hb hts (fun w h => u_Vq_Rd w (i_Rd w h)) hown hK hP 5 rfl rfl 2 (by decide) (hts _ (u_Vq_Rd _ k_Rd_12)) (fun _ h9 => h9) rfl d_Rd_readEntry_169 ?_
    refine lv_aload_n hx hb d_Rd_readEntry_172 rfl (lv_at hl 1 rfl) ?_
    refine va_get (D := (dC, dI)) (ci := 7) (v := .ref M.a_Rd_units) (C := R_Rd) (T := F_Rd) (N := 10) hx hb hts (fun w h => u_Vq_Rd w (i_Rd w h)) hown hK hP 5 rfl rfl 6 (by decide) (hts _ (u_Vq_Rd _ k_Rd_16)) (fun _ h9 => h9) rfl d_Rd_readEntry_173 ?_
    refine lv_iload hx hb d_Rd_readEntry_176 (lv_at hl 4 rfl) ?_
    obtain ⟨r_21, G_21, S_21, hc_21, h⟩ := lf_nE h
    have mc := mo_Tr_nameLast_Rdunits hc_21
    have ml_21 := mo_Tr_nameLast_Rdunits hc_21
    have mF1 := mo_Rd_readEntry_181 h
    have hFc := lx_free hD hS hA
    refine va_callv (va_runV (As := [.ref M.a_Rd_units, .int y_6]) (rest := []) ⟨hx, hb, hml, hown, hts⟩ (l_Tr_nameLast_Rdunits l dC dI X _ hc_21) (cwV 2 hts (gwV good_Vq (u_Vq_Rd _ k_Rd_84) (u_Vq_Tr _ k_Tr_64) (u_Vq_Tr _ k_Tr_65) (u_Vq_Tr _ k_Tr_0) (wcs (u_Vq_Tr _ k_Tr_66) (fun _ h => h))) rfl rfl rfl (by decide +kernel) ⟨Nat.le_of_ble_eq_true rfl, Nat.le_of_ble_eq_true rfl⟩) (pv_ofE (X.same _) (fun U z1 z2 => X.mono _ _ U hFc (hEw _ _ hS U z1 z2)) hP hK hD (va_recv hK hP (ci := 5) (q0 := 4) rfl rfl)) rfl rfl hl.1 rfl (lv_room (Nat.le_of_ble_eq_true rfl)) d_Rd_readEntry_178 ⟨ly_c1 m0.1 mc.1 mF1.1, ly_c1 m0.2 mc.2 mF1.2⟩) hS (fun q _ h => hFc q h) hFc (fun Y_21 t H locs ht hvm hw hB hz1 hk1 hS => ?_)
    obtain ⟨hP, -, hD⟩ := hB
    rw [ht] at hP
    have hD := lx_dj hD hFc
    refine W.widen (k := G_21.gc - G0.gc) (n := G_21.gs - G0.gs) (ly_c2 m0.1 mc.1) (ly_c2 m0.2 mc.2) ?_
    have m0 := CG.le_tr m0 mc
    exact hB_181 y_2 y_3 y_7 z_0 Y_21 G_21 S_21 _ _ _ h m0 hP hD hS (lv_sub hl [1, 2, 3, 5, 0] rfl)
  have hB_137 : ∀ (y_1 : Int32) (y_2 : Int32) (y_3 : Int32) (y_4 : Int32) (z_0 : Int32) (Y : CT) (G : CG) (S : CS) (H : Heap) (locs : List Loc) (ls : Array Slot), f_Rd_readEntry_137 K y_1 y_2 y_3 y_4 z_0 G S = some (r, G', S') → CG.le G0 G → va_P (dC, dI) classes (wV M Y G S) H → va_D A (wV M Y G S) → va_S A s.heap H locs → lv_has ls 9 [(0, .ref M.o_Rd), (1, .int y_1), (2, .int y_2), (3, .int y_3), (4, .int y_4)] → W p l e ({ frames := 4, cells := G'.gc - G0.gc, slots := G'.gs - G0.gs, locals := 126 }) s m ([.ref M.o_Rd, .int p0, .int p1, .int p2] : List Value).toArray below meth c H locs (G.gc - G0.gc) (G.gs - G0.gs) Q (F0 m 137 ls [.int z_0]) := by
    intro y_1 y_2 y_3 y_4 z_0 Y G S H locs ls h m0 hP hD hS hl
    have mF := mo_Rd_readEntry_137 h
    rw [f_Rd_readEntry_137] at h
    refine lv_istore (lv' := [(6, .int z_0), (0, .ref M.o_Rd), (1, .int y_1), (2, .int y_2), (3, .int y_3), (4, .int y_4)]) hx hb d_Rd_readEntry_137 hl (by decide) rfl (fun ls hl => ?_)
    refine lv_iload hx hb d_Rd_readEntry_139 (lv_at hl 0 rfl) ?_
    refine lv_if_ne (tgt := 146) hx hb d_Rd_readEntry_141 (by decide) (fun c_16 => ?_) (fun c_16 => ?_)
    · have h := lf_f h c_16
      refine lv_aload_n hx hb d_Rd_readEntry_146 rfl (lv_at hl 1 rfl) ?_
      refine lv_iload_n hx hb d_Rd_readEntry_147 rfl (lv_at hl 2 rfl) ?_
      refine lv_iload_n hx hb d_Rd_readEntry_148 rfl (lv_at hl 4 rfl) ?_
      refine lv_iload hx hb d_Rd_readEntry_149 (lv_at hl 0 rfl) ?_
      obtain ⟨r_17, S_17, hc_17, h⟩ := lf_cE h
      have hFc := lx_free hD hS hA
      refine va_calli (va_runV (As := [.int y_1, .int y_3, .int z_0]) (rest := []) ⟨hx, hb, hml, hown, hts⟩ (l_Rd_hasTwin l dC dI X _ hc_17) (cwV 3 hts (gwV good_Vq (u_Vq_Rd _ k_Rd_74) (u_Vq_Rd _ k_Rd_75) (u_Vq_Rd _ k_Rd_107) (u_Vq_Rd _ k_Rd_0) (wcs (u_Vq_Rd _ k_Rd_76) (fun _ h => h))) rfl rfl rfl (by decide +kernel) ⟨Nat.le_of_ble_eq_true rfl, Nat.le_of_ble_eq_true rfl⟩) (pv_ofE (X.same _) (fun U z1 z2 => X.mono _ _ U hFc (hEw _ _ hS U z1 z2)) hP hK hD (va_recv hK hP (ci := 7) (q0 := 5) rfl rfl)) rfl rfl hl.1 rfl (lv_room (Nat.le_of_ble_eq_true rfl)) d_Rd_readEntry_151 ⟨ly_c0 mF.1, ly_c0 mF.2⟩) hS (fun q _ h => hFc q h) hFc (fun r_ u t H locs ht hvm hw hB hz1 hk1 hS => ?_)
      rw [hw]
      obtain ⟨hP, -, hD⟩ := hB
      rw [ht] at hP
      have hD := lx_dj hD hFc
      refine lv_istore (lv' := [(7, .int r_17), (6, .int z_0), (0, .ref M.o_Rd), (1, .int y_1), (2, .int y_2), (3, .int y_3), (4, .int y_4)]) hx hb d_Rd_readEntry_154 hl (by decide) rfl (fun ls hl => ?_)
      refine lv_aload_n hx hb d_Rd_readEntry_156 rfl (lv_at hl 2 rfl) ?_
      refine va_get (D := (dC, dI)) (ci := 7) (v := .ref M.o_Tr) (C := R_Rd) (T := F_Rd) (N := 10) hx hb hts (fun w h => u_Vq_Rd w (i_Rd w h)) hown hK hP 5 rfl rfl 2 (by decide) (hts _ (u_Vq_Rd _ k_Rd_12)) (fun _ h9 => h9) rfl d_Rd_readEntry_157 ?_
      refine lv_iload_n hx hb d_Rd_readEntry_160 rfl (lv_at hl 3 rfl) ?_
      refine lv_iload hx hb d_Rd_readEntry_161 (lv_at hl 6 rfl) ?_
      obtain ⟨r_18, G_18, S_18, hc_18, h⟩ := lf_nE h
      have mc := mo_Tr_addItem hc_18
      have ml_18 := mo_Tr_addItem hc_18
      have mF1 := mo_Rd_readEntry_166 h
      have hFc := lx_free hD hS hA
      refine va_calli (va_runV (As := [.int y_1, .int y_4]) (rest := []) ⟨hx, hb, hml, hown, hts⟩ (l_Tr_addItem l dC dI X _ hc_18) (cwV 2 hts (gwV good_Vq (u_Vq_Rd _ k_Rd_83) (u_Vq_Tr _ k_Tr_27) (u_Vq_Tr _ k_Tr_28) (u_Vq_Tr _ k_Tr_0) (wcs (u_Vq_Tr _ k_Tr_29) (fun _ h => h))) rfl rfl rfl (by decide +kernel) ⟨Nat.le_of_ble_eq_true rfl, Nat.le_of_ble_eq_true rfl⟩) (pv_ofE (X.same _) (fun U z1 z2 => X.mono _ _ U hFc (hEw _ _ hS U z1 z2)) hP hK hD (va_recv hK hP (ci := 5) (q0 := 4) rfl rfl)) rfl rfl hl.1 rfl (lv_room (Nat.le_of_ble_eq_true rfl)) d_Rd_readEntry_163 ⟨ly_c1 m0.1 mc.1 mF1.1, ly_c1 m0.2 mc.2 mF1.2⟩) hS (fun q _ h => hFc q h) hFc (fun r_ Y_18 t H locs ht hvm hw hB hz1 hk1 hS => ?_)
      rw [hw]
      obtain ⟨hP, -, hD⟩ := hB
      rw [ht] at hP
      have hD := lx_dj hD hFc
      refine W.widen (k := G_18.gc - G0.gc) (n := G_18.gs - G0.gs) (ly_c2 m0.1 mc.1) (ly_c2 m0.2 mc.2) ?_
      have m0 := CG.le_tr m0 mc
      exact hB_166 y_2 y_3 z_0 r_17 r_18 Y_18 G_18 S_18 _ _ _ h m0 hP hD hS (lv_sub hl [2, 4, 5, 1, 0] rfl)
    · have h := lf_t h c_16
      refine lv_iconst (v := 4) hx hb d_Rd_readEntry_144 (by decide) ?_
      rw [hQ]
      have e1 : (4 : Int32) = r := congrArg (fun z => z.1) (Option.some.inj h)
      have e2 : G = G' := congrArg (fun z => z.2.1) (Option.some.inj h)
      have e3 : S = S' := congrArg (fun z => z.2.2) (Option.some.inj h)
      have hP := ly_newP3 e2.symm e3.symm hP
      have hD := ly_newD3 e2.symm e3.symm hD
      refine W.widen (k := G'.gc - G0.gc) (n := G'.gs - G0.gs) (ly_wc e2) (ly_ws e2) ?_
      exact W.iret (v := 4) hx hb hr (fun t ht hW => ⟨⟨4, Y, rfl, e1, by rw [ht]; exact hP, va_K.moved hW.alike hK, hD⟩, hS.F ht⟩) hS.2.2 d_Rd_readEntry_145
  have hB_26 : ∀ (y_1 : Int32) (y_2 : Int32) (y_3 : Int32) (y_4 : Int32) (z_0 : Int32) (Y : CT) (G : CG) (S : CS) (H : Heap) (locs : List Loc) (ls : Array Slot), f_Rd_readEntry_26 K y_1 y_2 y_3 y_4 z_0 G S = some (r, G', S') → CG.le G0 G → va_P (dC, dI) classes (wV M Y G S) H → va_D A (wV M Y G S) → va_S A s.heap H locs → lv_has ls 9 [(0, .ref M.o_Rd), (1, .int y_1), (2, .int y_2), (3, .int y_3), (4, .int y_4)] → W p l e ({ frames := 4, cells := G'.gc - G0.gc, slots := G'.gs - G0.gs, locals := 126 }) s m ([.ref M.o_Rd, .int p0, .int p1, .int p2] : List Value).toArray below meth c H locs (G.gc - G0.gc) (G.gs - G0.gs) Q (F0 m 26 ls [.int z_0]) := by
    intro y_1 y_2 y_3 y_4 z_0 Y G S H locs ls h m0 hP hD hS hl
    have mF := mo_Rd_readEntry_26 h
    rw [f_Rd_readEntry_26] at h
    refine lv_istore (lv' := [(5, .int z_0), (0, .ref M.o_Rd), (1, .int y_1), (2, .int y_2), (3, .int y_3), (4, .int y_4)]) hx hb d_Rd_readEntry_26 hl (by decide) rfl (fun ls hl => ?_)
    refine lv_aload_n hx hb d_Rd_readEntry_28 rfl (lv_at hl 1 rfl) ?_
    refine lv_iload_n hx hb d_Rd_readEntry_29 rfl (lv_at hl 4 rfl) ?_
    refine lv_iload hx hb d_Rd_readEntry_30 (lv_at hl 5 rfl) ?_
    obtain ⟨r_3, S_3, hc_3, h⟩ := lf_cE h
    have hFc := lx_free hD hS hA
    refine va_calli (va_runV (As := [.int y_3, .int y_4]) (rest := []) ⟨hx, hb, hml, hown, hts⟩ (l_Rd_bitsFit l dC dI X _ hc_3) (cwV 2 hts (gwV good_Vq (u_Vq_Rd _ k_Rd_59) (u_Vq_Rd _ k_Rd_60) (u_Vq_Rd _ k_Rd_104) (u_Vq_Rd _ k_Rd_0) (wcs (u_Vq_Rd _ k_Rd_61) (fun _ h => h))) rfl rfl rfl (by decide +kernel) ⟨Nat.le_of_ble_eq_true rfl, Nat.le_of_ble_eq_true rfl⟩) (pv_ofE (X.same _) (fun U z1 z2 => X.mono _ _ U hFc (hEw _ _ hS U z1 z2)) hP hK hD (va_recv hK hP (ci := 7) (q0 := 5) rfl rfl)) rfl rfl hl.1 rfl (lv_room (Nat.le_of_ble_eq_true rfl)) d_Rd_readEntry_32 ⟨ly_c0 mF.1, ly_c0 mF.2⟩) hS (fun q _ h => hFc q h) hFc (fun r_ u t H locs ht hvm hw hB hz1 hk1 hS => ?_)
    rw [hw]
    obtain ⟨hP, -, hD⟩ := hB
    rw [ht] at hP
    have hD := lx_dj hD hFc
    refine lv_if_eq (tgt := 62) hx hb d_Rd_readEntry_35 (by decide) (fun c_4 => ?_) (fun c_4 => ?_)
    · have h := lf_t h c_4
      exact hB_62 Y G S_3 _ _ _ h m0 hP hD hS (lv_sub hl [] rfl)
    · have h := lf_f h c_4
      refine lv_aload_n hx hb d_Rd_readEntry_38 rfl (lv_at hl 1 rfl) ?_
      refine va_get (D := (dC, dI)) (ci := 7) (v := .ref M.o_Dk) (C := R_Rd) (T := F_Rd) (N := 10) hx hb hts (fun w h => u_Vq_Rd w (i_Rd w h)) hown hK hP 5 rfl rfl 0 (by decide) (hts _ (u_Vq_Rd _ k_Rd_10)) (fun _ h9 => h9) rfl d_Rd_readEntry_39 ?_
      refine lv_iload_n hx hb d_Rd_readEntry_42 rfl (lv_at hl 4 rfl) ?_
      refine lv_iload hx hb d_Rd_readEntry_43 (lv_at hl 0 rfl) ?_
      obtain ⟨r_5, S_5, hc_5, h⟩ := lf_cE h
      have hFc := lx_free hD hS hA
      refine va_calli (va_runS (As := [.ref M.o_Dk, .int y_3, .int z_0]) (rest := []) ⟨hx, hb, hml, hown, hts⟩ (l_Wo_isShortName l dC dI X _ hc_5) (va_cwS 3 hts (gwS good_Vq (u_Vq_Rd _ k_Rd_63) (u_Vq_Wo _ k_Wo_1) (u_Vq_Wo _ k_Wo_0) (wcs (u_Vq_Wo _ k_Wo_2) (fun _ h => h))) rfl rfl rfl (by decide +kernel) ⟨Nat.le_of_ble_eq_true rfl, Nat.le_of_ble_eq_true rfl⟩) (ps_ofE2 (X.same _) (fun U z1 z2 => X.mono _ _ U hFc (hEw _ _ hS U z1 z2)) hP hK hD) rfl rfl hl.1 rfl (lv_room (Nat.le_of_ble_eq_true rfl)) d_Rd_readEntry_45 ⟨ly_c0 mF.1, ly_c0 mF.2⟩) hS (fun q _ h => hFc q h) hFc (fun r_ u t H locs ht hvm hw hB hz1 hk1 hS => ?_)
      rw [hw]
      obtain ⟨hP, -, hD⟩ := hB
      rw [ht] at hP
      have hD := lx_dj hD hFc
      refine lv_if_eq (tgt := 62) hx hb d_Rd_readEntry_48 (by decide) (fun c_6 => ?_) (fun c_6 => ?_)
      · have h := lf_t h c_6
        exact hB_62 Y G S_5 _ _ _ h m0 hP hD hS (lv_sub hl [] rfl)
      · have h := lf_f h c_6
        refine lv_aload_n hx hb d_Rd_readEntry_51 rfl (lv_at hl 1 rfl) ?_
        refine va_get (D := (dC, dI)) (ci := 7) (v := .ref M.o_Dk) (C := R_Rd) (T := F_Rd) (N := 10) hx hb hts (fun w h => u_Vq_Rd w (i_Rd w h)) hown hK hP 5 rfl rfl 0 (by decide) (hts _ (u_Vq_Rd _ k_Rd_10)) (fun _ h9 => h9) rfl d_Rd_readEntry_52 ?_
        refine lv_iload_n hx hb d_Rd_readEntry_55 rfl (lv_at hl 4 rfl) ?_
        obtain ⟨r_7, S_7, hc_7, h⟩ := lf_cE h
        have hFc := lx_free hD hS hA
        refine va_calli (va_runS (As := [.ref M.o_Dk, .int y_3]) (rest := []) ⟨hx, hb, hml, hown, hts⟩ (l_Da_fit l dC dI X _ hc_7) (va_cwS 2 hts (gwS good_Vq (u_Vq_Rd _ k_Rd_64) (u_Vq_Da _ k_Da_1) (u_Vq_Da _ k_Da_0) (wcs (u_Vq_Da _ k_Da_2) (fun _ h => h))) rfl rfl rfl (by decide +kernel) ⟨Nat.le_of_ble_eq_true rfl, Nat.le_of_ble_eq_true rfl⟩) (ps_ofE2 (X.same _) (fun U z1 z2 => X.mono _ _ U hFc (hEw _ _ hS U z1 z2)) hP hK hD) rfl rfl hl.1 rfl (lv_room (Nat.le_of_ble_eq_true rfl)) d_Rd_readEntry_56 ⟨ly_c0 mF.1, ly_c0 mF.2⟩) hS (fun q _ h => hFc q h) hFc (fun r_ u t H locs ht hvm hw hB hz1 hk1 hS => ?_)
        rw [hw]
        obtain ⟨hP, -, hD⟩ := hB
        rw [ht] at hP
        have hD := lx_dj hD hFc
        refine lv_if_ne (tgt := 64) hx hb d_Rd_readEntry_59 (by decide) (fun c_8 => ?_) (fun c_8 => ?_)
        · have h := lf_f h c_8
          refine lv_iload hx hb d_Rd_readEntry_64 (lv_at hl 0 rfl) ?_
          refine lv_if_eq (tgt := 117) hx hb d_Rd_readEntry_66 (by decide) (fun c_9 => ?_) (fun c_9 => ?_)
          · have h := lf_t h c_9
            refine lv_aload_n hx hb d_Rd_readEntry_117 rfl (lv_at hl 1 rfl) ?_
            refine va_get (D := (dC, dI)) (ci := 7) (v := .int S_7.v_Rd_parts) (C := R_Rd) (T := F_Rd) (N := 10) hx hb hts (fun w h => u_Vq_Rd w (i_Rd w h)) hown hK hP 5 rfl rfl 7 (by decide) (hts _ (u_Vq_Rd _ k_Rd_17)) (fun _ h9 => h9) rfl d_Rd_readEntry_118 ?_
            refine lv_if_ne (tgt := 132) hx hb d_Rd_readEntry_121 (by decide) (fun c_10 => ?_) (fun c_10 => ?_)
            · have h := lf_f h c_10
              refine lv_aload_n hx hb d_Rd_readEntry_132 rfl (lv_at hl 1 rfl) ?_
              refine lv_iload_n hx hb d_Rd_readEntry_133 rfl (lv_at hl 4 rfl) ?_
              obtain ⟨r_11, S_11, hc_11, h⟩ := lf_cE h
              have hFc := lx_free hD hS hA
              refine va_calli (va_runV (As := [.int y_3]) (rest := []) ⟨hx, hb, hml, hown, hts⟩ (l_Rd_closeParts l dC dI X _ hc_11) (cwV 1 hts (gwV good_Vq (u_Vq_Rd _ k_Rd_68) (u_Vq_Rd _ k_Rd_69) (u_Vq_Rd _ k_Rd_106) (u_Vq_Rd _ k_Rd_0) (wcs (u_Vq_Rd _ k_Rd_70) (fun _ h => h))) rfl rfl rfl (by decide +kernel) ⟨Nat.le_of_ble_eq_true rfl, Nat.le_of_ble_eq_true rfl⟩) (pv_ofE (X.same _) (fun U z1 z2 => X.mono _ _ U hFc (hEw _ _ hS U z1 z2)) hP hK hD (va_recv hK hP (ci := 7) (q0 := 5) rfl rfl)) rfl rfl hl.1 rfl (lv_room (Nat.le_of_ble_eq_true rfl)) d_Rd_readEntry_134 ⟨ly_c0 mF.1, ly_c0 mF.2⟩) hS (fun q _ h => hFc q h) hFc (fun r_ u t H locs ht hvm hw hB hz1 hk1 hS => ?_)
              rw [hw]
              obtain ⟨hP, -, hD⟩ := hB
              rw [ht] at hP
              have hD := lx_dj hD hFc
              exact hB_137 y_1 y_2 y_3 y_4 r_11 Y G S_11 _ _ _ h m0 hP hD hS (lv_sub hl [1, 2, 3, 4, 5] rfl)
            · have h := lf_t h c_10
              refine lv_aload_n hx hb d_Rd_readEntry_124 rfl (lv_at hl 1 rfl) ?_
              refine lv_iload_n hx hb d_Rd_readEntry_125 rfl (lv_at hl 4 rfl) ?_
              obtain ⟨r_12, S_12, hc_12, h⟩ := lf_cE h
              have hFc := lx_free hD hS hA
              refine va_calli (va_runV (As := [.int y_3]) (rest := []) ⟨hx, hb, hml, hown, hts⟩ (l_Rd_showShortName l dC dI X _ hc_12) (cwV 1 hts (gwV good_Vq (u_Vq_Rd _ k_Rd_65) (u_Vq_Rd _ k_Rd_66) (u_Vq_Rd _ k_Rd_105) (u_Vq_Rd _ k_Rd_0) (wcs (u_Vq_Rd _ k_Rd_67) (fun _ h => h))) rfl rfl rfl (by decide +kernel) ⟨Nat.le_of_ble_eq_true rfl, Nat.le_of_ble_eq_true rfl⟩) (pv_ofE (X.same _) (fun U z1 z2 => X.mono _ _ U hFc (hEw _ _ hS U z1 z2)) hP hK hD (va_recv hK hP (ci := 7) (q0 := 5) rfl rfl)) rfl rfl hl.1 rfl (lv_room (Nat.le_of_ble_eq_true rfl)) d_Rd_readEntry_126 ⟨ly_c0 mF.1, ly_c0 mF.2⟩) hS (fun q _ h => hFc q h) hFc (fun r_ u t H locs ht hvm hw hB hz1 hk1 hS => ?_)
              rw [hw]
              obtain ⟨hP, -, hD⟩ := hB
              rw [ht] at hP
              have hD := lx_dj hD hFc
              refine lv_goto (tgt := 137) hx hb d_Rd_readEntry_129 (by decide) ?_
              exact hB_137 y_1 y_2 y_3 y_4 r_12 Y G S_12 _ _ _ h m0 hP hD hS (lv_sub hl [1, 2, 3, 4, 5] rfl)
          · have h := lf_f h c_9
            refine lv_aload_n hx hb d_Rd_readEntry_69 rfl (lv_at hl 1 rfl) ?_
            refine va_get (D := (dC, dI)) (ci := 7) (v := .int S_7.v_Rd_parts) (C := R_Rd) (T := F_Rd) (N := 10) hx hb hts (fun w h => u_Vq_Rd w (i_Rd w h)) hown hK hP 5 rfl rfl 7 (by decide) (hts _ (u_Vq_Rd _ k_Rd_17)) (fun _ h9 => h9) rfl d_Rd_readEntry_70 ?_
            refine lv_if_ne (tgt := 91) hx hb d_Rd_readEntry_73 (by decide) (fun c_13 => ?_) (fun c_13 => ?_)
            · have h := lf_f h c_13
              exact hB_91 y_3 Y G S_7 _ _ _ h m0 hP hD hS (lv_sub hl [1, 4] rfl)
            · have h := lf_t h c_13
              refine lv_iload_n hx hb d_Rd_readEntry_76 rfl (lv_at hl 2 rfl) ?_
              refine lv_if_ne (tgt := 91) hx hb d_Rd_readEntry_77 (by decide) (fun c_14 => ?_) (fun c_14 => ?_)
              · have h := lf_f h c_14
                exact hB_91 y_3 Y G S_7 _ _ _ h m0 hP hD hS (lv_sub hl [1, 4] rfl)
              · have h := lf_t h c_14
                refine lv_aload_n hx hb d_Rd_readEntry_80 rfl (lv_at hl 1 rfl) ?_
                refine va_get (D := (dC, dI)) (ci := 7) (v := .ref M.o_Tr) (C := R_Rd) (T := F_Rd) (N := 10) hx hb hts (fun w h => u_Vq_Rd w (i_Rd w h)) hown hK hP 5 rfl rfl 2 (by decide) (hts _ (u_Vq_Rd _ k_Rd_12)) (fun _ h9 => h9) rfl d_Rd_readEntry_81 ?_
                refine va_get (D := (dC, dI)) (ci := 5) (v := .int S_7.v_Tr_label) (C := R_Tr) (T := F_Tr) (N := 18) hx hb hts (fun w h => u_Vq_Tr w (i_Tr w h)) hown hK hP 4 rfl rfl 1 (by decide) (hts _ (u_Vq_Rd _ k_Rd_4)) (fun _ h9 => h9) rfl d_Rd_readEntry_84 ?_
                refine lv_iconst (v := (-1)) hx hb d_Rd_readEntry_87 (by decide) ?_
                refine lv_icmp_eq (tgt := 95) hx hb d_Rd_readEntry_88 (by decide) (fun c_15 => ?_) (fun c_15 => ?_)
                · have h := lf_t h c_15
                  refine lv_iconst (v := 0) hx hb d_Rd_readEntry_95 (by decide) ?_
                  exact hB_96 y_3 0 Y G S_7 _ _ _ h m0 hP hD hS (lv_sub hl [1, 4] rfl)
                · have h := lf_f h c_15
                  exact hB_91 y_3 Y G S_7 _ _ _ h m0 hP hD hS (lv_sub hl [1, 4] rfl)
        · have h := lf_t h c_8
          exact hB_62 Y G S_7 _ _ _ h m0 hP hD hS (lv_sub hl [] rfl)
  have m0 : CG.le G0 G0 := ⟨Nat.le_refl _, Nat.le_refl _⟩
  have mF := mo_Rd_readEntry h
  refine W.widen (k := G0.gc - G0.gc) (n := G0.gs - G0.gs) (Nat.zero_le _) (Nat.zero_le _) ?_
  rw [f_Rd_readEntry] at h
  refine lv_aload_n hx hb d_Rd_readEntry_0 rfl (lv_at hl 0 rfl) ?_
  refine va_get (D := (dC, dI)) (ci := 7) (v := .ref M.o_Dk) (C := R_Rd) (T := F_Rd) (N := 10) hx hb hts (fun w h => u_Vq_Rd w (i_Rd w h)) hown hK hP 5 rfl rfl 0 (by decide) (hts _ (u_Vq_Rd _ k_Rd_10)) (fun _ h9 => h9) rfl d_Rd_readEntry_1 ?_
  refine lv_iload_n hx hb d_Rd_readEntry_4 rfl (lv_at hl 3 rfl) ?_
  refine lv_bipush (v := 11) hx hb d_Rd_readEntry_5 (by decide) ?_
  refine lv_iadd hx hb d_Rd_readEntry_7 ?_
  obtain ⟨r_1, S_1, hc_1, h⟩ := lf_cE h
  have hFc := lx_free hD hS hA
  refine va_calli (va_runV (As := [.int (p2 + 11)]) (rest := []) ⟨hx, hb, hml, hown, hts⟩ (l_Dk_one l dC dI X _ hc_1) (cwV 1 hts (gwV good_Vq (u_Vq_Rd _ k_Rd_41) (u_Vq_Dk _ k_Dk_20) (u_Vq_Dk _ k_Dk_21) (u_Vq_Dk _ k_Dk_0) (wcs (u_Vq_Dk _ k_Dk_22) (fun _ h => h))) rfl rfl rfl (by decide +kernel) ⟨Nat.le_of_ble_eq_true rfl, Nat.le_of_ble_eq_true rfl⟩) (pv_ofE (X.same _) (fun U z1 z2 => X.mono _ _ U hFc (hEw _ _ hS U z1 z2)) hP hK hD (va_recv hK hP (ci := 0) (q0 := 1) rfl rfl)) rfl rfl hl.1 rfl (lv_room (Nat.le_of_ble_eq_true rfl)) d_Rd_readEntry_8 ⟨ly_c0 mF.1, ly_c0 mF.2⟩) hS (fun q _ h => hFc q h) hFc (fun r_ u t H locs ht hvm hw hB hz1 hk1 hS => ?_)
  rw [hw]
  obtain ⟨hP, -, hD⟩ := hB
  rw [ht] at hP
  have hD := lx_dj hD hFc
  refine lv_istore (lv' := [(4, .int r_1), (0, .ref M.o_Rd), (1, .int p0), (2, .int p1), (3, .int p2)]) hx hb d_Rd_readEntry_11 hl (by decide) rfl (fun ls hl => ?_)
  refine lv_iload hx hb d_Rd_readEntry_13 (lv_at hl 0 rfl) ?_
  refine lv_bipush (v := 8) hx hb d_Rd_readEntry_15 (by decide) ?_
  refine lv_iand hx hb d_Rd_readEntry_17 ?_
  refine lv_if_eq (tgt := 25) hx hb d_Rd_readEntry_18 (by decide) (fun c_2 => ?_) (fun c_2 => ?_)
  · have h := lf_t h c_2
    refine lv_iconst (v := 0) hx hb d_Rd_readEntry_25 (by decide) ?_
    exact hB_26 p0 p1 p2 r_1 0 Y G0 S_1 _ _ _ h m0 hP hD hS (lv_sub hl [1, 2, 3, 4, 0] rfl)
  · have h := lf_f h c_2
    refine lv_iconst (v := 1) hx hb d_Rd_readEntry_21 (by decide) ?_
    refine lv_goto (tgt := 26) hx hb d_Rd_readEntry_22 (by decide) ?_
    exact hB_26 p0 p1 p2 r_1 1 Y G0 S_1 _ _ _ h m0 hP hD hS (lv_sub hl [1, 2, 3, 4, 0] rfl)
set_option maxHeartbeats 4000000 in
set_option maxRecDepth 100000 in
theorem l_Rd_readDirectory (l : Launch) (dC : Nat → ClassId) (dI : Nat → Nat → Nat) {K : Nat} {M : CA} {E : (Nat → Prop) → State → Prop} (X : ly_X l dC dI K M E) (sz : Nat) {Y : CT} {G0 G' : CG} {S S' : CS} {p0 : Int32} {p1 : Int32} {r : Int32} (h : f_Rd_readDirectory K G0 S p0 p1 = some (r, G', S')) : Met l y_Rd_readDirectory (.code y_Rd_readDirectory cb_Rd_readDirectory 8 (some .int) :: V_Vq) ({ frames := 5, cells := G'.gc - G0.gc, slots := G'.gs - G0.gs, locals := 154 }) (va_Pc [.ref M.o_Rd, .int p0, .int p1] (fun U => U.heap.size = sz ∧ at_ (dC, dI) (fun _ => True) (wV M Y G0 S) (tV M) U ∧ E (va_A (wV M Y G0 S) sz) U)) (va_Qi (fun (r_ : Int32) (u : CT) => r_ = r) (fun (u : CT) t => at_ (dC, dI) (va_A (wV M Y G0 S) sz) (wV M u G' S') (tV M) t) (va_A (wV M Y G0 S) sz)) (G'.gc - G0.gc) (G'.gs - G0.gs) (va_A (wV M Y G0 S) sz) := by
  refine Met.ofW (cc := cb_Rd_readDirectory) (maxL := 8) (ret := (some .int)) (by decide) rfl ?_
  intro p e s m args below meth c s₁ B hml hv
  obtain ⟨rfl, hsz, ⟨hP, hK, hD0⟩, hE⟩ := hv
  have hx := B.exec
  have hb := B.bytes
  have hr := B.returns
  have hts0 := atoms_spec (ws := .code y_Rd_readDirectory cb_Rd_readDirectory 8 (some .int) :: V_Vq) B.pre
  have hts : ∀ w ∈ V_Vq, w.before ([.ref M.o_Rd, .int p0, .int p1] : List Value).toArray s = true := fun w h => hts0 w (List.mem_cons_of_mem _ h)
  have hown : s.vm.findClass R_Rd = some m.cls := findClass_of_methodNamed B.named
  subst hsz
  have hD := hD0.self (sz := s.heap.size)
  generalize hAe : va_A (wV M Y G0 S) s.heap.size = A at hD hE ⊢
  have hA : ∀ q : Nat, s.heap.size ≤ q → A q := fun q h => by rw [← hAe]; exact Or.inr h
  have hS : va_S A s.heap s.heap [] := va_S.rf
  have hP : va_P (dC, dI) classes (wV M Y G0 S) s.heap := hP
  have hK : va_K (dC, dI) classes (tV M) s := hK
  have hEw : ∀ (H : Heap) (locs : List Loc), va_S A s.heap H locs → ∀ U : State, U.heap = H → s.WarmedH U.vm → E A U := fun H locs hS U hU hW => X.kept A s U H locs hE hS hU hW
  have hl := lv_entry ([.ref M.o_Rd, .int p0, .int p1]) (n := 8) (Nat.le_of_ble_eq_true rfl)
  rw [lg_entry_eq]
  generalize (lg_sl ([.ref M.o_Rd, .int p0, .int p1]) ++ List.replicate (8 - (lg_sl ([.ref M.o_Rd, .int p0, .int p1])).length) Slot.unset).toArray = ls at hl ⊢
  have hl : lv_has ls 8 [(0, .ref M.o_Rd), (1, .int p0), (2, .int p1)] := hl
  refine qabs (fun Q hQ => ?_)
  have hB_84 : ∀ (rec_27 : Int32 → Int32 → Int32 → Int32 → CG → CS → Option (Int32 × CG × CS)) (hr_27 : ∀ (y_1 : Int32) (y_2 : Int32) (y_3 : Int32) (y_4 : Int32) (Y : CT) (G : CG) (S : CS) (H : Heap) (locs : List Loc) (ls : Array Slot), rec_27 y_1 y_2 y_3 y_4 G S = some (r, G', S') → CG.le G0 G → va_P (dC, dI) classes (wV M Y G S) H → va_D A (wV M Y G S) → va_S A s.heap H locs → lv_has ls 8 [(0, .ref M.o_Rd), (1, .int y_1), (2, .int y_2), (3, .int y_3), (4, .int y_4)] → W p l e ({ frames := 5, cells := G'.gc - G0.gc, slots := G'.gs - G0.gs, locals := 154 }) s m ([.ref M.o_Rd, .int p0, .int p1] : List Value).toArray below meth c H locs (G.gc - G0.gc) (G.gs - G0.gs) Q (F0 m 27 ls [])) (hm_27 : ∀ (y_1 : Int32) (y_2 : Int32) (y_3 : Int32) (y_4 : Int32) (G : CG) (S : CS) {x : Int32} {G1 : CG} {S1 : CS}, rec_27 y_1 y_2 y_3 y_4 G S = some (x, G1, S1) → CG.le G G1), ∀ (y_1 : Int32) (y_2 : Int32) (y_3 : Int32) (y_4 : Int32) (z_1 : Int32) (z_2 : Int32) (Y : CT) (G : CG) (S : CS) (H : Heap) (locs : List Loc) (ls : Array Slot), f_Rd_readDirectory_84 K rec_27 y_1 y_2 y_3 y_4 z_1 z_2 G S = some (r, G', S') → CG.le G0 G → va_P (dC, dI) classes (wV M Y G S) H → va_D A (wV M Y G S) → va_S A s.heap H locs → lv_has ls 8 [(0, .ref M.o_Rd), (1, .int y_1), (2, .int y_2), (3, .int y_3), (4, .int y_4)] → W p l e ({ frames := 5, cells := G'.gc - G0.gc, slots := G'.gs - G0.gs, locals := 154 }) s m ([.ref M.o_Rd, .int p0, .int p1] : List Value).toArray below meth c H locs (G.gc - G0.gc) (G.gs - G0.gs) Q (F0 m 84 ls [.int z_2, .int z_1, .ref M.a_Rd_road]) := by
    intro rec_27 hr_27 hm_27 y_1 y_2 y_3 y_4 z_1 z_2 Y G S H locs ls h m0 hP hD hS hl
    have mF := mo_Rd_readDirectory_84 hm_27 h
    rw [f_Rd_readDirectory_84] at h
    obtain ⟨g_16, h⟩ := lf_gE h
    refine va_iast hx hb hK hP hD hS 33 2 rfl rfl g_16 d_Rd_readDirectory_84 (fun H locs hP hD hS => ?_)
    obtain ⟨S_17, eS_17, h⟩ := lf_lX h
    have hP := ly_newP eS_17 hP
    have hD := ly_newD eS_17 hD
    obtain ⟨x_18, ex_18, h⟩ := lf_lX h
    refine lv_iinc (v := x_18) (lv' := [(4, .int x_18), (0, .ref M.o_Rd), (1, .int y_1), (2, .int y_2), (3, .int y_3)]) hx hb d_Rd_readDirectory_85 hl (k := 4) rfl (by rw [ex_18]; rfl) (by decide) rfl (fun ls hl => ?_)
    refine lv_goto (tgt := 27) hx hb d_Rd_readDirectory_88 (by decide) ?_
    exact hr_27 y_1 y_2 y_3 x_18 Y G S_17 _ _ _ h m0 hP hD hS (lv_sub hl [1, 2, 3, 4, 0] rfl)
  have hB_274 : ∀ (rec_118 : Int32 → Int32 → Int32 → CG → CS → Option (Int32 × CG × CS)) (hr_118 : ∀ (y_1 : Int32) (y_4 : Int32) (y_5 : Int32) (Y : CT) (G : CG) (S : CS) (H : Heap) (locs : List Loc) (ls : Array Slot), rec_118 y_1 y_4 y_5 G S = some (r, G', S') → CG.le G0 G → va_P (dC, dI) classes (wV M Y G S) H → va_D A (wV M Y G S) → va_S A s.heap H locs → lv_has ls 8 [(0, .ref M.o_Rd), (1, .int y_1), (4, .int y_4), (5, .int y_5)] → W p l e ({ frames := 5, cells := G'.gc - G0.gc, slots := G'.gs - G0.gs, locals := 154 }) s m ([.ref M.o_Rd, .int p0, .int p1] : List Value).toArray below meth c H locs (G.gc - G0.gc) (G.gs - G0.gs) Q (F0 m 118 ls [])) (hm_118 : ∀ (y_1 : Int32) (y_4 : Int32) (y_5 : Int32) (G : CG) (S : CS) {x : Int32} {G1 : CG} {S1 : CS}, rec_118 y_1 y_4 y_5 G S = some (x, G1, S1) → CG.le G G1), ∀ (y_1 : Int32) (y_4 : Int32) (y_5 : Int32) (y_7 : Int32) (Y : CT) (G : CG) (S : CS) (H : Heap) (locs : List Loc) (ls : Array Slot), f_Rd_readDirectory_274 K rec_118 y_1 y_4 y_5 y_7 G S = some (r, G', S') → CG.le G0 G → va_P (dC, dI) classes (wV M Y G S) H → va_D A (wV M Y G S) → va_S A s.heap H locs → lv_has ls 8 [(0, .ref M.o_Rd), (1, .int y_1), (4, .int y_4), (5, .int y_5), (7, .int y_7)] → W p l e ({ frames := 5, cells := G'.gc - G0.gc, slots := G'.gs - G0.gs, locals := 154 }) s m ([.ref M.o_Rd, .int p0, .int p1] : List Value).toArray below meth c H locs (G.gc - G0.gc) (G.gs - G0.gs) Q (F0 m 274 ls []) := by
    intro rec_118 hr_118 hm_118 y_1 y_4 y_5 y_7 Y G S H locs ls h m0 hP hD hS hl
    have mF := mo_Rd_readDirectory_274 hm_118 h
    rw [f_Rd_readDirectory_274] at h
    refine lv_iload hx hb d_Rd_readDirectory_274 (lv_at hl 4 rfl) ?_
    refine lv_if_eq (tgt := 282) hx hb d_Rd_readDirectory_276 (by decide) (fun c_39 => ?_) (fun c_39 => ?_)
    · have h := lf_t h c_39
      obtain ⟨x_40, ex_40, h⟩ := lf_lX h
      refine lv_iinc (v := x_40) (lv' := [(5, .int x_40), (0, .ref M.o_Rd), (1, .int y_1), (4, .int y_4), (7, .int y_7)]) hx hb d_Rd_readDirectory_282 hl (k := 3) rfl (by rw [ex_40]; rfl) (by decide) rfl (fun ls hl => ?_)
      refine lv_goto (tgt := 118) hx hb d_Rd_readDirectory_285 (by decide) ?_
      exact hr_118 y_1 y_4 x_40 Y G S _ _ _ h m0 hP hD hS (lv_sub hl [1, 2, 3, 0] rfl)
    · have h := lf_f h c_39
      refine lv_iload hx hb d_Rd_readDirectory_279 (lv_at hl 4 rfl) ?_
      rw [hQ]
      have e1 : y_7 = r := congrArg (fun z => z.1) (Option.some.inj h)
      have e2 : G = G' := congrArg (fun z => z.2.1) (Option.some.inj h)
      have e3 : S = S' := congrArg (fun z => z.2.2) (Option.some.inj h)
      have hP := ly_newP3 e2.symm e3.symm hP
      have hD := ly_newD3 e2.symm e3.symm hD
      refine W.widen (k := G'.gc - G0.gc) (n := G'.gs - G0.gs) (ly_wc e2) (ly_ws e2) ?_
      exact W.iret (v := y_7) hx hb hr (fun t ht hW => ⟨⟨y_7, Y, rfl, e1, by rw [ht]; exact hP, va_K.moved hW.alike hK, hD⟩, hS.F ht⟩) hS.2.2 d_Rd_readDirectory_281
  have hB_187 : ∀ (rec_118 : Int32 → Int32 → Int32 → CG → CS → Option (Int32 × CG × CS)) (hr_118 : ∀ (y_1 : Int32) (y_4 : Int32) (y_5 : Int32) (Y : CT) (G : CG) (S : CS) (H : Heap) (locs : List Loc) (ls : Array Slot), rec_118 y_1 y_4 y_5 G S = some (r, G', S') → CG.le G0 G → va_P (dC, dI) classes (wV M Y G S) H → va_D A (wV M Y G S) → va_S A s.heap H locs → lv_has ls 8 [(0, .ref M.o_Rd), (1, .int y_1), (4, .int y_4), (5, .int y_5)] → W p l e ({ frames := 5, cells := G'.gc - G0.gc, slots := G'.gs - G0.gs, locals := 154 }) s m ([.ref M.o_Rd, .int p0, .int p1] : List Value).toArray below meth c H locs (G.gc - G0.gc) (G.gs - G0.gs) Q (F0 m 118 ls [])) (hm_118 : ∀ (y_1 : Int32) (y_4 : Int32) (y_5 : Int32) (G : CG) (S : CS) {x : Int32} {G1 : CG} {S1 : CS}, rec_118 y_1 y_4 y_5 G S = some (x, G1, S1) → CG.le G G1), ∀ (y_1 : Int32) (y_4 : Int32) (y_5 : Int32) (z_0 : Int32) (Y : CT) (G : CG) (S : CS) (H : Heap) (locs : List Loc) (ls : Array Slot), f_Rd_readDirectory_187 K rec_118 y_1 y_4 y_5 z_0 G S = some (r, G', S') → CG.le G0 G → va_P (dC, dI) classes (wV M Y G S) H → va_D A (wV M Y G S) → va_S A s.heap H locs → lv_has ls 8 [(0, .ref M.o_Rd), (1, .int y_1), (4, .int y_4), (5, .int y_5)] → W p l e ({ frames := 5, cells := G'.gc - G0.gc, slots := G'.gs - G0.gs, locals := 154 }) s m ([.ref M.o_Rd, .int p0, .int p1] : List Value).toArray below meth c H locs (G.gc - G0.gc) (G.gs - G0.gs) Q (F0 m 187 ls [.int z_0]) := by
    intro rec_118 hr_118 hm_118 y_1 y_4 y_5 z_0 Y G S H locs ls h m0 hP hD hS hl
    have mF := mo_Rd_readDirectory_187 hm_118 h
    rw [f_Rd_readDirectory_187] at h
    refine lv_istore (lv' := [(7, .int z_0), (0, .ref M.o_Rd), (1, .int y_1), (4, .int y_4), (5, .int y_5)]) hx hb d_Rd_readDirectory_187 hl (by decide) rfl (fun ls hl => ?_)
    refine lv_goto (tgt := 274) hx hb d_Rd_readDirectory_189 (by decide) ?_
    exact hB_274 _ hr_118 hm_118 y_1 y_4 y_5 z_0 Y G S _ _ _ h m0 hP hD hS (lv_sub hl [1, 2, 3, 4, 0] rfl)
  have hB_219 : ∀ (rec_118 : Int32 → Int32 → Int32 → CG → CS → Option (Int32 × CG × CS)) (hr_118 : ∀ (y_1 : Int32) (y_4 : Int32) (y_5 : Int32) (Y : CT) (G : CG) (S : CS) (H : Heap) (locs : List Loc) (ls : Array Slot), rec_118 y_1 y_4 y_5 G S = some (r, G', S') → CG.le G0 G → va_P (dC, dI) classes (wV M Y G S) H → va_D A (wV M Y G S) → va_S A s.heap H locs → lv_has ls 8 [(0, .ref M.o_Rd), (1, .int y_1), (4, .int y_4), (5, .int y_5)] → W p l e ({ frames := 5, cells := G'.gc - G0.gc, slots := G'.gs - G0.gs, locals := 154 }) s m ([.ref M.o_Rd, .int p0, .int p1] : List Value).toArray below meth c H locs (G.gc - G0.gc) (G.gs - G0.gs) Q (F0 m 118 ls [])) (hm_118 : ∀ (y_1 : Int32) (y_4 : Int32) (y_5 : Int32) (G : CG) (S : CS) {x : Int32} {G1 : CG} {S1 : CS}, rec_118 y_1 y_4 y_5 G S = some (x, G1, S1) → CG.le G G1), ∀ (y_1 : Int32) (y_4 : Int32) (y_5 : Int32) (z_0 : Int32) (Y : CT) (G : CG) (S : CS) (H : Heap) (locs : List Loc) (ls : Array Slot), f_Rd_readDirectory_219 K rec_118 y_1 y_4 y_5 z_0 G S = some (r, G', S') → CG.le G0 G → va_P (dC, dI) classes (wV M Y G S) H → va_D A (wV M Y G S) → va_S A s.heap H locs → lv_has ls 8 [(0, .ref M.o_Rd), (1, .int y_1), (4, .int y_4), (5, .int y_5)] → W p l e ({ frames := 5, cells := G'.gc - G0.gc, slots := G'.gs - G0.gs, locals := 154 }) s m ([.ref M.o_Rd, .int p0, .int p1] : List Value).toArray below meth c H locs (G.gc - G0.gc) (G.gs - G0.gs) Q (F0 m 219 ls [.int z_0]) := by
    intro rec_118 hr_118 hm_118 y_1 y_4 y_5 z_0 Y G S H locs ls h m0 hP hD hS hl
    have mF := mo_Rd_readDirectory_219 hm_118 h
    rw [f_Rd_readDirectory_219] at h
    refine lv_istore (lv' := [(7, .int z_0), (0, .ref M.o_Rd), (1, .int y_1), (4, .int y_4), (5, .int y_5)]) hx hb d_Rd_readDirectory_219 hl (by decide) rfl (fun ls hl => ?_)
    refine lv_goto (tgt := 274) hx hb d_Rd_readDirectory_221 (by decide) ?_
    exact hB_274 _ hr_118 hm_118 y_1 y_4 y_5 z_0 Y G S _ _ _ h m0 hP hD hS (lv_sub hl [1, 2, 3, 4, 0] rfl)
  have hB_258 : ∀ (rec_118 : Int32 → Int32 → Int32 → CG → CS → Option (Int32 × CG × CS)) (hr_118 : ∀ (y_1 : Int32) (y_4 : Int32) (y_5 : Int32) (Y : CT) (G : CG) (S : CS) (H : Heap) (locs : List Loc) (ls : Array Slot), rec_118 y_1 y_4 y_5 G S = some (r, G', S') → CG.le G0 G → va_P (dC, dI) classes (wV M Y G S) H → va_D A (wV M Y G S) → va_S A s.heap H locs → lv_has ls 8 [(0, .ref M.o_Rd), (1, .int y_1), (4, .int y_4), (5, .int y_5)] → W p l e ({ frames := 5, cells := G'.gc - G0.gc, slots := G'.gs - G0.gs, locals := 154 }) s m ([.ref M.o_Rd, .int p0, .int p1] : List Value).toArray below meth c H locs (G.gc - G0.gc) (G.gs - G0.gs) Q (F0 m 118 ls [])) (hm_118 : ∀ (y_1 : Int32) (y_4 : Int32) (y_5 : Int32) (G : CG) (S : CS) {x : Int32} {G1 : CG} {S1 : CS}, rec_118 y_1 y_4 y_5 G S = some (x, G1, S1) → CG.le G G1), ∀ (y_1 : Int32) (y_4 : Int32) (y_5 : Int32) (z_0 : Int32) (Y : CT) (G : CG) (S : CS) (H : Heap) (locs : List Loc) (ls : Array Slot), f_Rd_readDirectory_258 K rec_118 y_1 y_4 y_5 z_0 G S = some (r, G', S') → CG.le G0 G → va_P (dC, dI) classes (wV M Y G S) H → va_D A (wV M Y G S) → va_S A s.heap H locs → lv_has ls 8 [(0, .ref M.o_Rd), (1, .int y_1), (4, .int y_4), (5, .int y_5)] → W p l e ({ frames := 5, cells := G'.gc - G0.gc, slots := G'.gs - G0.gs, locals := 154 }) s m ([.ref M.o_Rd, .int p0, .int p1] : List Value).toArray below meth c H locs (G.gc - G0.gc) (G.gs - G0.gs) Q (F0 m 258 ls [.int z_0]) := by
    intro rec_118 hr_118 hm_118 y_1 y_4 y_5 z_0 Y G S H locs ls h m0 hP hD hS hl
    have mF := mo_Rd_readDirectory_258 hm_118 h
    rw [f_Rd_readDirectory_258] at h
    refine lv_istore (lv' := [(7, .int z_0), (0, .ref M.o_Rd), (1, .int y_1), (4, .int y_4), (5, .int y_5)]) hx hb d_Rd_readDirectory_258 hl (by decide) rfl (fun ls hl => ?_)
    refine lv_goto (tgt := 274) hx hb d_Rd_readDirectory_260 (by decide) ?_
    exact hB_274 _ hr_118 hm_118 y_1 y_4 y_5 z_0 Y G S _ _ _ h m0 hP hD hS (lv_sub hl [1, 2, 3, 4, 0] rfl)
  have hB_272 : ∀ (rec_118 : Int32 → Int32 → Int32 → CG → CS → Option (Int32 × CG × CS)) (hr_118 : ∀ (y_1 : Int32) (y_4 : Int32) (y_5 : Int32) (Y : CT) (G : CG) (S : CS) (H : Heap) (locs : List Loc) (ls : Array Slot), rec_118 y_1 y_4 y_5 G S = some (r, G', S') → CG.le G0 G → va_P (dC, dI) classes (wV M Y G S) H → va_D A (wV M Y G S) → va_S A s.heap H locs → lv_has ls 8 [(0, .ref M.o_Rd), (1, .int y_1), (4, .int y_4), (5, .int y_5)] → W p l e ({ frames := 5, cells := G'.gc - G0.gc, slots := G'.gs - G0.gs, locals := 154 }) s m ([.ref M.o_Rd, .int p0, .int p1] : List Value).toArray below meth c H locs (G.gc - G0.gc) (G.gs - G0.gs) Q (F0 m 118 ls [])) (hm_118 : ∀ (y_1 : Int32) (y_4 : Int32) (y_5 : Int32) (G : CG) (S : CS) {x : Int32} {G1 : CG} {S1 : CS}, rec_118 y_1 y_4 y_5 G S = some (x, G1, S1) → CG.le G G1), ∀ (y_1 : Int32) (y_4 : Int32) (y_5 : Int32) (z_0 : Int32) (Y : CT) (G : CG) (S : CS) (H : Heap) (locs : List Loc) (ls : Array Slot), f_Rd_readDirectory_272 K rec_118 y_1 y_4 y_5 z_0 G S = some (r, G', S') → CG.le G0 G → va_P (dC, dI) classes (wV M Y G S) H → va_D A (wV M Y G S) → va_S A s.heap H locs → lv_has ls 8 [(0, .ref M.o_Rd), (1, .int y_1), (4, .int y_4), (5, .int y_5)] → W p l e ({ frames := 5, cells := G'.gc - G0.gc, slots := G'.gs - G0.gs, locals := 154 }) s m ([.ref M.o_Rd, .int p0, .int p1] : List Value).toArray below meth c H locs (G.gc - G0.gc) (G.gs - G0.gs) Q (F0 m 272 ls [.int z_0]) := by
    intro rec_118 hr_118 hm_118 y_1 y_4 y_5 z_0 Y G S H locs ls h m0 hP hD hS hl
    have mF := mo_Rd_readDirectory_272 hm_118 h
    rw [f_Rd_readDirectory_272] at h
    refine lv_istore (lv' := [(7, .int z_0), (0, .ref M.o_Rd), (1, .int y_1), (4, .int y_4), (5, .int y_5)]) hx hb d_Rd_readDirectory_272 hl (by decide) rfl (fun ls hl => ?_)
    exact hB_274 _ hr_118 hm_118 y_1 y_4 y_5 z_0 Y G S _ _ _ h m0 hP hD hS (lv_sub hl [1, 2, 3, 4, 0] rfl)
  have hB_192 : ∀ (rec_118 : Int32 → Int32 → Int32 → CG → CS → Option (Int32 × CG × CS)) (hr_118 : ∀ (y_1 : Int32) (y_4 : Int32) (y_5 : Int32) (Y : CT) (G : CG) (S : CS) (H : Heap) (locs : List Loc) (ls : Array Slot), rec_118 y_1 y_4 y_5 G S = some (r, G', S') → CG.le G0 G → va_P (dC, dI) classes (wV M Y G S) H → va_D A (wV M Y G S) → va_S A s.heap H locs → lv_has ls 8 [(0, .ref M.o_Rd), (1, .int y_1), (4, .int y_4), (5, .int y_5)] → W p l e ({ frames := 5, cells := G'.gc - G0.gc, slots := G'.gs - G0.gs, locals := 154 }) s m ([.ref M.o_Rd, .int p0, .int p1] : List Value).toArray below meth c H locs (G.gc - G0.gc) (G.gs - G0.gs) Q (F0 m 118 ls [])) (hm_118 : ∀ (y_1 : Int32) (y_4 : Int32) (y_5 : Int32) (G : CG) (S : CS) {x : Int32} {G1 : CG} {S1 : CS}, rec_118 y_1 y_4 y_5 G S = some (x, G1, S1) → CG.le G G1), ∀ (y_1 : Int32) (y_4 : Int32) (y_5 : Int32) (y_6 : Int32) (Y : CT) (G : CG) (S : CS) (H : Heap) (locs : List Loc) (ls : Array Slot), f_Rd_readDirectory_192 K rec_118 y_1 y_4 y_5 y_6 G S = some (r, G', S') → CG.le G0 G → va_P (dC, dI) classes (wV M Y G S) H → va_D A (wV M Y G S) → va_S A s.heap H locs → lv_has ls 8 [(0, .ref M.o_Rd), (1, .int y_1), (4, .int y_4), (5, .int y_5), (6, .int y_6)] → W p l e ({ frames := 5, cells := G'.gc - G0.gc, slots := G'.gs - G0.gs, locals := 154 }) s m ([.ref M.o_Rd, .int p0, .int p1] : List Value).toArray below meth c H locs (G.gc - G0.gc) (G.gs - G0.gs) Q (F0 m 192 ls []) := by
    intro rec_118 hr_118 hm_118 y_1 y_4 y_5 y_6 Y G S H locs ls h m0 hP hD hS hl
    have mF := mo_Rd_readDirectory_192 hm_118 h
    rw [f_Rd_readDirectory_192] at h
    refine lv_aload_n hx hb d_Rd_readDirectory_192 rfl (lv_at hl 0 rfl) ?_
    refine va_get (D := (dC, dI)) (ci := 7) (v := .ref M.o_Dk) (C := R_Rd) (T := F_Rd) (N := 10) hx hb hts (fun w h => u_Vq_Rd w (i_Rd w h)) hown hK hP 5 rfl rfl 0 (by decide) (hts _ (u_Vq_Rd _ k_Rd_10)) (fun _ h9 => h9) rfl d_Rd_readDirectory_193 ?_
    refine lv_iload hx hb d_Rd_readDirectory_196 (lv_at hl 4 rfl) ?_
    obtain ⟨r_31, S_31, hc_31, h⟩ := lf_cE h
    have hFc := lx_free hD hS hA
    refine va_calli (va_runV (As := [.int y_6]) (rest := []) ⟨hx, hb, hml, hown, hts⟩ (l_Dk_one l dC dI X _ hc_31) (cwV 1 hts (gwV good_Vq (u_Vq_Rd _ k_Rd_41) (u_Vq_Dk _ k_Dk_20) (u_Vq_Dk _ k_Dk_21) (u_Vq_Dk _ k_Dk_0) (wcs (u_Vq_Dk _ k_Dk_22) (fun _ h => h))) rfl rfl rfl (by decide +kernel) ⟨Nat.le_of_ble_eq_true rfl, Nat.le_of_ble_eq_true rfl⟩) (pv_ofE (X.same _) (fun U z1 z2 => X.mono _ _ U hFc (hEw _ _ hS U z1 z2)) hP hK hD (va_recv hK hP (ci := 0) (q0 := 1) rfl rfl)) rfl rfl hl.1 rfl (lv_room (Nat.le_of_ble_eq_true rfl)) d_Rd_readDirectory_198 ⟨ly_c0 mF.1, ly_c0 mF.2⟩) hS (fun q _ h => hFc q h) hFc (fun r_ u t H locs ht hvm hw hB hz1 hk1 hS => ?_)
    rw [hw]
    obtain ⟨hP, -, hD⟩ := hB
    rw [ht] at hP
    have hD := lx_dj hD hFc
    refine lv_sipush (v := 229) hx hb d_Rd_readDirectory_201 (by decide) ?_
    refine lv_icmp_ne (tgt := 224) hx hb d_Rd_readDirectory_204 (by decide) (fun c_32 => ?_) (fun c_32 => ?_)
    · have h := lf_f h c_32
      refine lv_aload_n hx hb d_Rd_readDirectory_224 rfl (lv_at hl 0 rfl) ?_
      refine va_get (D := (dC, dI)) (ci := 7) (v := .ref M.o_Dk) (C := R_Rd) (T := F_Rd) (N := 10) hx hb hts (fun w h => u_Vq_Rd w (i_Rd w h)) hown hK hP 5 rfl rfl 0 (by decide) (hts _ (u_Vq_Rd _ k_Rd_10)) (fun _ h9 => h9) rfl d_Rd_readDirectory_225 ?_
      refine lv_iload hx hb d_Rd_readDirectory_228 (lv_at hl 4 rfl) ?_
      refine lv_bipush (v := 11) hx hb d_Rd_readDirectory_230 (by decide) ?_
      refine lv_iadd hx hb d_Rd_readDirectory_232 ?_
      obtain ⟨r_33, S_33, hc_33, h⟩ := lf_cE h
      have hFc := lx_free hD hS hA
      refine va_calli (va_runV (As := [.int (y_6 + 11)]) (rest := []) ⟨hx, hb, hml, hown, hts⟩ (l_Dk_one l dC dI X _ hc_33) (cwV 1 hts (gwV good_Vq (u_Vq_Rd _ k_Rd_41) (u_Vq_Dk _ k_Dk_20) (u_Vq_Dk _ k_Dk_21) (u_Vq_Dk _ k_Dk_0) (wcs (u_Vq_Dk _ k_Dk_22) (fun _ h => h))) rfl rfl rfl (by decide +kernel) ⟨Nat.le_of_ble_eq_true rfl, Nat.le_of_ble_eq_true rfl⟩) (pv_ofE (X.same _) (fun U z1 z2 => X.mono _ _ U hFc (hEw _ _ hS U z1 z2)) hP hK hD (va_recv hK hP (ci := 0) (q0 := 1) rfl rfl)) rfl rfl hl.1 rfl (lv_room (Nat.le_of_ble_eq_true rfl)) d_Rd_readDirectory_233 ⟨ly_c0 mF.1, ly_c0 mF.2⟩) hS (fun q _ h => hFc q h) hFc (fun r_ u t H locs ht hvm hw hB hz1 hk1 hS => ?_)
      rw [hw]
      obtain ⟨hP, -, hD⟩ := hB
      rw [ht] at hP
      have hD := lx_dj hD hFc
      refine lv_bipush (v := 63) hx hb d_Rd_readDirectory_236 (by decide) ?_
      refine lv_iand hx hb d_Rd_readDirectory_238 ?_
      refine lv_bipush (v := 15) hx hb d_Rd_readDirectory_239 (by decide) ?_
      refine lv_icmp_ne (tgt := 263) hx hb d_Rd_readDirectory_241 (by decide) (fun c_34 => ?_) (fun c_34 => ?_)
      · have h := lf_f h c_34
        refine lv_aload_n hx hb d_Rd_readDirectory_263 rfl (lv_at hl 0 rfl) ?_
        refine lv_iload_n hx hb d_Rd_readDirectory_264 rfl (lv_at hl 1 rfl) ?_
        refine lv_iload hx hb d_Rd_readDirectory_265 (lv_at hl 3 rfl) ?_
        refine lv_iload hx hb d_Rd_readDirectory_267 (lv_at hl 4 rfl) ?_
        obtain ⟨r_35, G_35, S_35, hc_35, h⟩ := lf_nE h
        have mc := mo_Rd_readEntry hc_35
        have ml_35 := mo_Rd_readEntry hc_35
        have mF1 := mo_Rd_readDirectory_272 hm_118 h
        have hFc := lx_free hD hS hA
        refine va_calli (va_runV (As := [.int y_1, .int y_5, .int y_6]) (rest := []) ⟨hx, hb, hml, hown, hts⟩ (l_Rd_readEntry l dC dI X _ hc_35) (cwV 3 hts (gwV good_Vq (u_Vq_Rd _ k_Rd_56) (u_Vq_Rd _ k_Rd_57) (u_Vq_Rd _ k_Rd_103) (u_Vq_Rd _ k_Rd_0) (wcs (u_Vq_Rd _ k_Rd_58) (fun _ h => h))) rfl rfl rfl (by decide +kernel) ⟨Nat.le_of_ble_eq_true rfl, Nat.le_of_ble_eq_true rfl⟩) (pv_ofE (X.same _) (fun U z1 z2 => X.mono _ _ U hFc (hEw _ _ hS U z1 z2)) hP hK hD (va_recv hK hP (ci := 7) (q0 := 5) rfl rfl)) rfl rfl hl.1 rfl (lv_room (Nat.le_of_ble_eq_true rfl)) d_Rd_readDirectory_269 ⟨ly_c1 m0.1 mc.1 mF1.1, ly_c1 m0.2 mc.2 mF1.2⟩) hS (fun q _ h => hFc q h) hFc (fun r_ Y_35 t H locs ht hvm hw hB hz1 hk1 hS => ?_)
        rw [hw]
        obtain ⟨hP, -, hD⟩ := hB
        rw [ht] at hP
        have hD := lx_dj hD hFc
        refine W.widen (k := G_35.gc - G0.gc) (n := G_35.gs - G0.gs) (ly_c2 m0.1 mc.1) (ly_c2 m0.2 mc.2) ?_
        have m0 := CG.le_tr m0 mc
        exact hB_272 _ hr_118 hm_118 y_1 y_4 y_5 r_35 Y_35 G_35 S_35 _ _ _ h m0 hP hD hS (lv_sub hl [0, 1, 2, 3] rfl)
      · have h := lf_t h c_34
        refine lv_aload_n hx hb d_Rd_readDirectory_244 rfl (lv_at hl 0 rfl) ?_
        refine lv_iload hx hb d_Rd_readDirectory_245 (lv_at hl 4 rfl) ?_
        obtain ⟨r_36, S_36, hc_36, h⟩ := lf_cE h
        have hFc := lx_free hD hS hA
        refine va_calli (va_runV (As := [.int y_6]) (rest := []) ⟨hx, hb, hml, hown, hts⟩ (l_Rd_readPart l dC dI X _ hc_36) (cwV 1 hts (gwV good_Vq (u_Vq_Rd _ k_Rd_50) (u_Vq_Rd _ k_Rd_51) (u_Vq_Rd _ k_Rd_102) (u_Vq_Rd _ k_Rd_0) (wcs (u_Vq_Rd _ k_Rd_52) (fun _ h => h))) rfl rfl rfl (by decide +kernel) ⟨Nat.le_of_ble_eq_true rfl, Nat.le_of_ble_eq_true rfl⟩) (pv_ofE (X.same _) (fun U z1 z2 => X.mono _ _ U hFc (hEw _ _ hS U z1 z2)) hP hK hD (va_recv hK hP (ci := 7) (q0 := 5) rfl rfl)) rfl rfl hl.1 rfl (lv_room (Nat.le_of_ble_eq_true rfl)) d_Rd_readDirectory_247 ⟨ly_c0 mF.1, ly_c0 mF.2⟩) hS (fun q _ h => hFc q h) hFc (fun r_ u t H locs ht hvm hw hB hz1 hk1 hS => ?_)
        rw [hw]
        obtain ⟨hP, -, hD⟩ := hB
        rw [ht] at hP
        have hD := lx_dj hD hFc
        refine lv_if_eq (tgt := 257) hx hb d_Rd_readDirectory_250 (by decide) (fun c_37 => ?_) (fun c_37 => ?_)
        · have h := lf_t h c_37
          refine lv_iconst (v := 4) hx hb d_Rd_readDirectory_257 (by decide) ?_
          exact hB_258 _ hr_118 hm_118 y_1 y_4 y_5 4 Y G S_36 _ _ _ h m0 hP hD hS (lv_sub hl [0, 1, 2, 3] rfl)
        · have h := lf_f h c_37
          refine lv_iconst (v := 0) hx hb d_Rd_readDirectory_253 (by decide) ?_
          refine lv_goto (tgt := 258) hx hb d_Rd_readDirectory_254 (by decide) ?_
          exact hB_258 _ hr_118 hm_118 y_1 y_4 y_5 0 Y G S_36 _ _ _ h m0 hP hD hS (lv_sub hl [0, 1, 2, 3] rfl)
    · have h := lf_t h c_32
      refine lv_aload_n hx hb d_Rd_readDirectory_207 rfl (lv_at hl 0 rfl) ?_
      refine va_get (D := (dC, dI)) (ci := 7) (v := .int S_31.v_Rd_parts) (C := R_Rd) (T := F_Rd) (N := 10) hx hb hts (fun w h => u_Vq_Rd w (i_Rd w h)) hown hK hP 5 rfl rfl 7 (by decide) (hts _ (u_Vq_Rd _ k_Rd_17)) (fun _ h9 => h9) rfl d_Rd_readDirectory_208 ?_
      refine lv_if_ne (tgt := 218) hx hb d_Rd_readDirectory_211 (by decide) (fun c_38 => ?_) (fun c_38 => ?_)
      · have h := lf_f h c_38
        refine lv_iconst (v := 4) hx hb d_Rd_readDirectory_218 (by decide) ?_
        exact hB_219 _ hr_118 hm_118 y_1 y_4 y_5 4 Y G S_31 _ _ _ h m0 hP hD hS (lv_sub hl [0, 1, 2, 3] rfl)
      · have h := lf_t h c_38
        refine lv_iconst (v := 0) hx hb d_Rd_readDirectory_214 (by decide) ?_
        refine lv_goto (tgt := 219) hx hb d_Rd_readDirectory_215 (by decide) ?_
        exact hB_219 _ hr_118 hm_118 y_1 y_4 y_5 0 Y G S_31 _ _ _ h m0 hP hD hS (lv_sub hl [0, 1, 2, 3] rfl)
  have hB_313 : ∀ (Y : CT) (G : CG) (S : CS) (H : Heap) (locs : List Loc) (ls : Array Slot), f_Rd_readDirectory_313 K G S = some (r, G', S') → CG.le G0 G → va_P (dC, dI) classes (wV M Y G S) H → va_D A (wV M Y G S) → va_S A s.heap H locs → lv_has ls 8 [] → W p l e ({ frames := 5, cells := G'.gc - G0.gc, slots := G'.gs - G0.gs, locals := 154 }) s m ([.ref M.o_Rd, .int p0, .int p1] : List Value).toArray below meth c H locs (G.gc - G0.gc) (G.gs - G0.gs) Q (F0 m 313 ls []) := by
    intro Y G S H locs ls h m0 hP hD hS hl
    have mF := mo_Rd_readDirectory_313 h
    rw [f_Rd_readDirectory_313] at h
    refine lv_iconst (v := 4) hx hb d_Rd_readDirectory_313 (by decide) ?_
    refine lv_goto (tgt := 318) hx hb d_Rd_readDirectory_314 (by decide) ?_
    rw [hQ]
    have e1 : (4 : Int32) = r := congrArg (fun z => z.1) (Option.some.inj h)
    have e2 : G = G' := congrArg (fun z => z.2.1) (Option.some.inj h)
    have e3 : S = S' := congrArg (fun z => z.2.2) (Option.some.inj h)
    have hP := ly_newP3 e2.symm e3.symm hP
    have hD := ly_newD3 e2.symm e3.symm hD
    refine W.widen (k := G'.gc - G0.gc) (n := G'.gs - G0.gs) (ly_wc e2) (ly_ws e2) ?_
    exact W.iret (v := 4) hx hb hr (fun t ht hW => ⟨⟨4, Y, rfl, e1, by rw [ht]; exact hP, va_K.moved hW.alike hK, hD⟩, hS.F ht⟩) hS.2.2 d_Rd_readDirectory_318
  have hB_317 : ∀ (Y : CT) (G : CG) (S : CS) (H : Heap) (locs : List Loc) (ls : Array Slot), f_Rd_readDirectory_317 K G S = some (r, G', S') → CG.le G0 G → va_P (dC, dI) classes (wV M Y G S) H → va_D A (wV M Y G S) → va_S A s.heap H locs → lv_has ls 8 [] → W p l e ({ frames := 5, cells := G'.gc - G0.gc, slots := G'.gs - G0.gs, locals := 154 }) s m ([.ref M.o_Rd, .int p0, .int p1] : List Value).toArray below meth c H locs (G.gc - G0.gc) (G.gs - G0.gs) Q (F0 m 317 ls []) := by
    intro Y G S H locs ls h m0 hP hD hS hl
    have mF := mo_Rd_readDirectory_317 h
    rw [f_Rd_readDirectory_317] at h
    refine lv_iconst (v := 0) hx hb d_Rd_readDirectory_317 (by decide) ?_
    rw [hQ]
    have e1 : (0 : Int32) = r := congrArg (fun z => z.1) (Option.some.inj h)
    have e2 : G = G' := congrArg (fun z => z.2.1) (Option.some.inj h)
    have e3 : S = S' := congrArg (fun z => z.2.2) (Option.some.inj h)
    have hP := ly_newP3 e2.symm e3.symm hP
    have hD := ly_newD3 e2.symm e3.symm hD
    refine W.widen (k := G'.gc - G0.gc) (n := G'.gs - G0.gs) (ly_wc e2) (ly_ws e2) ?_
    exact W.iret (v := 0) hx hb hr (fun t ht hW => ⟨⟨0, Y, rfl, e1, by rw [ht]; exact hP, va_K.moved hW.alike hK, hD⟩, hS.F ht⟩) hS.2.2 d_Rd_readDirectory_318
  have hB_288 : ∀ (y_1 : Int32) (y_5 : Int32) (Y : CT) (G : CG) (S : CS) (H : Heap) (locs : List Loc) (ls : Array Slot), f_Rd_readDirectory_288 K y_1 y_5 G S = some (r, G', S') → CG.le G0 G → va_P (dC, dI) classes (wV M Y G S) H → va_D A (wV M Y G S) → va_S A s.heap H locs → lv_has ls 8 [(0, .ref M.o_Rd), (1, .int y_1), (5, .int y_5)] → W p l e ({ frames := 5, cells := G'.gc - G0.gc, slots := G'.gs - G0.gs, locals := 154 }) s m ([.ref M.o_Rd, .int p0, .int p1] : List Value).toArray below meth c H locs (G.gc - G0.gc) (G.gs - G0.gs) Q (F0 m 288 ls []) := by
    intro y_1 y_5 Y G S H locs ls h m0 hP hD hS hl
    have mF := mo_Rd_readDirectory_288 h
    rw [f_Rd_readDirectory_288] at h
    refine lv_aload_n hx hb d_Rd_readDirectory_288 rfl (lv_at hl 0 rfl) ?_
    refine va_get (D := (dC, dI)) (ci := 7) (v := .ref M.o_Tr) (C := R_Rd) (T := F_Rd) (N := 10) hx hb hts (fun w h => u_Vq_Rd w (i_Rd w h)) hown hK hP 5 rfl rfl 2 (by decide) (hts _ (u_Vq_Rd _ k_Rd_12)) (fun _ h9 => h9) rfl d_Rd_readDirectory_289 ?_
    refine lv_iload_n hx hb d_Rd_readDirectory_292 rfl (lv_at hl 1 rfl) ?_
    obtain ⟨S_27, hc_27, h⟩ := lf_bE h
    have hFc := lx_free hD hS hA
    refine va_callv (va_runV (As := [.int y_1]) (rest := []) ⟨hx, hb, hml, hown, hts⟩ (l_Tr_endKids l dC dI X _ hc_27) (cwV 1 hts (gwV good_Vq (u_Vq_Rd _ k_Rd_92) (u_Vq_Tr _ k_Tr_71) (u_Vq_Tr _ k_Tr_72) (u_Vq_Tr _ k_Tr_0) (wcs (u_Vq_Tr _ k_Tr_73) (fun _ h => h))) rfl rfl rfl (by decide +kernel) ⟨Nat.le_of_ble_eq_true rfl, Nat.le_of_ble_eq_true rfl⟩) (pv_ofE (X.same _) (fun U z1 z2 => X.mono _ _ U hFc (hEw _ _ hS U z1 z2)) hP hK hD (va_recv hK hP (ci := 5) (q0 := 4) rfl rfl)) rfl rfl hl.1 rfl (lv_room (Nat.le_of_ble_eq_true rfl)) d_Rd_readDirectory_293 ⟨ly_c0 mF.1, ly_c0 mF.2⟩) hS (fun q _ h => hFc q h) hFc (fun u t H locs ht hvm hw hB hz1 hk1 hS => ?_)
    obtain ⟨hP, -, hD⟩ := hB
    rw [ht] at hP
    have hD := lx_dj hD hFc
    refine lv_aload_n hx hb d_Rd_readDirectory_296 rfl (lv_at hl 0 rfl) ?_
    refine va_get (D := (dC, dI)) (ci := 7) (v := .int S_27.v_Rd_parts) (C := R_Rd) (T := F_Rd) (N := 10) hx hb hts (fun w h => u_Vq_Rd w (i_Rd w h)) hown hK hP 5 rfl rfl 7 (by decide) (hts _ (u_Vq_Rd _ k_Rd_17)) (fun _ h9 => h9) rfl d_Rd_readDirectory_297 ?_
    refine lv_if_ne (tgt := 313) hx hb d_Rd_readDirectory_300 (by decide) (fun c_28 => ?_) (fun c_28 => ?_)
    · have h := lf_f h c_28
      exact hB_313 Y G S_27 _ _ _ h m0 hP hD hS (lv_sub hl [] rfl)
    · have h := lf_t h c_28
      refine lv_iload_n hx hb d_Rd_readDirectory_303 rfl (lv_at hl 1 rfl) ?_
      refine lv_if_eq (tgt := 317) hx hb d_Rd_readDirectory_304 (by decide) (fun c_29 => ?_) (fun c_29 => ?_)
      · have h := lf_t h c_29
        exact hB_317 Y G S_27 _ _ _ h m0 hP hD hS (lv_sub hl [] rfl)
      · have h := lf_f h c_29
        refine lv_iload hx hb d_Rd_readDirectory_307 (lv_at hl 2 rfl) ?_
        refine lv_iconst (v := 2) hx hb d_Rd_readDirectory_309 (by decide) ?_
        refine lv_icmp_ge (tgt := 317) hx hb d_Rd_readDirectory_310 (by decide) (fun c_30 => ?_) (fun c_30 => ?_)
        · have h := lf_t h c_30
          exact hB_317 Y G S_27 _ _ _ h m0 hP hD hS (lv_sub hl [] rfl)
        · have h := lf_f h c_30
          exact hB_313 Y G S_27 _ _ _ h m0 hP hD hS (lv_sub hl [] rfl)
  have hB_118 : ∀ (k : Nat), ∀ (y_1 : Int32) (y_4 : Int32) (y_5 : Int32) (Y : CT) (G : CG) (S : CS) (H : Heap) (locs : List Loc) (ls : Array Slot), f_Rd_readDirectory_118 K k y_1 y_4 y_5 G S = some (r, G', S') → CG.le G0 G → va_P (dC, dI) classes (wV M Y G S) H → va_D A (wV M Y G S) → va_S A s.heap H locs → lv_has ls 8 [(0, .ref M.o_Rd), (1, .int y_1), (4, .int y_4), (5, .int y_5)] → W p l e ({ frames := 5, cells := G'.gc - G0.gc, slots := G'.gs - G0.gs, locals := 154 }) s m ([.ref M.o_Rd, .int p0, .int p1] : List Value).toArray below meth c H locs (G.gc - G0.gc) (G.gs - G0.gs) Q (F0 m 118 ls []) := by
    intro k
    induction k with
    | zero => intro y_1 y_4 y_5 Y G S H locs ls h; exact lf_no h
    | succ k hr_118 =>
      intro y_1 y_4 y_5 Y G S H locs ls h m0 hP hD hS hl
      have mF := mo_Rd_readDirectory_118 (k + 1) y_1 y_4 y_5 G S h
      have hm_118 : ∀ (y_1 : Int32) (y_4 : Int32) (y_5 : Int32) (G : CG) (S : CS) {x : Int32} {G1 : CG} {S1 : CS}, f_Rd_readDirectory_118 K k y_1 y_4 y_5 G S = some (x, G1, S1) → CG.le G G1 := fun y_1 y_4 y_5 G S => mo_Rd_readDirectory_118 k y_1 y_4 y_5 G S
      rw [f_Rd_readDirectory_118] at h
      refine lv_iload hx hb d_Rd_readDirectory_118 (lv_at hl 3 rfl) ?_
      refine lv_iload hx hb d_Rd_readDirectory_120 (lv_at hl 2 rfl) ?_
      refine lv_icmp_ge (tgt := 288) hx hb d_Rd_readDirectory_122 (by decide) (fun c_19 => ?_) (fun c_19 => ?_)
      · have h := lf_t h c_19
        exact hB_288 y_1 y_5 Y G S _ _ _ h m0 hP hD hS (lv_sub hl [0, 1, 3] rfl)
      · have h := lf_f h c_19
        refine lv_aload_n hx hb d_Rd_readDirectory_125 rfl (lv_at hl 0 rfl) ?_
        refine va_get (D := (dC, dI)) (ci := 7) (v := .ref M.o_Tb) (C := R_Rd) (T := F_Rd) (N := 10) hx hb hts (fun w h => u_Vq_Rd w (i_Rd w h)) hown hK hP 5 rfl rfl 1 (by decide) (hts _ (u_Vq_Rd _ k_Rd_11)) (fun _ h9 => h9) rfl d_Rd_readDirectory_126 ?_
        refine lv_aload_n hx hb d_Rd_readDirectory_129 rfl (lv_at hl 0 rfl) ?_
        refine va_get (D := (dC, dI)) (ci := 7) (v := .ref M.a_Rd_road) (C := R_Rd) (T := F_Rd) (N := 10) hx hb hts (fun w h => u_Vq_Rd w (i_Rd w h)) hown hK hP 5 rfl rfl 4 (by decide) (hts _ (u_Vq_Rd _ k_Rd_14)) (fun _ h9 => h9) rfl d_Rd_readDirectory_130 ?_
        refine lv_iload hx hb d_Rd_readDirectory_133 (lv_at hl 3 rfl) ?_
        obtain ⟨r_20, S_20, hc_20, h⟩ := lf_cE h
        have hFc := lx_free hD hS hA
        refine va_calli (va_runV (As := [.ref M.a_Rd_road, .int y_5]) (rest := []) ⟨hx, hb, hml, hown, hts⟩ (l_Tb_slotPlace_Rdroad l dC dI X _ hc_20) (cwV 2 hts (gwV good_Vq (u_Vq_Rd _ k_Rd_40) (u_Vq_Tb _ k_Tb_52) (u_Vq_Tb _ k_Tb_53) (u_Vq_Tb _ k_Tb_0) (wcs (u_Vq_Tb _ k_Tb_54) (fun _ h => h))) rfl rfl rfl (by decide +kernel) ⟨Nat.le_of_ble_eq_true rfl, Nat.le_of_ble_eq_true rfl⟩) (pv_ofE (X.same _) (fun U z1 z2 => X.mono _ _ U hFc (hEw _ _ hS U z1 z2)) hP hK hD (va_recv hK hP (ci := 4) (q0 := 3) rfl rfl)) rfl rfl hl.1 rfl (lv_room (Nat.le_of_ble_eq_true rfl)) d_Rd_readDirectory_135 ⟨ly_c0 mF.1, ly_c0 mF.2⟩) hS (fun q _ h => hFc q h) hFc (fun r_ u t H locs ht hvm hw hB hz1 hk1 hS => ?_)
        rw [hw]
        obtain ⟨hP, -, hD⟩ := hB
        rw [ht] at hP
        have hD := lx_dj hD hFc
        refine lv_istore (lv' := [(6, .int r_20), (0, .ref M.o_Rd), (1, .int y_1), (4, .int y_4), (5, .int y_5)]) hx hb d_Rd_readDirectory_138 hl (by decide) rfl (fun ls hl => ?_)
        refine lv_iconst (v := 0) hx hb d_Rd_readDirectory_140 (by decide) ?_
        refine lv_istore (lv' := [(7, .int 0), (6, .int r_20), (0, .ref M.o_Rd), (1, .int y_1), (4, .int y_4), (5, .int y_5)]) hx hb d_Rd_readDirectory_141 hl (by decide) rfl (fun ls hl => ?_)
        refine lv_aload_n hx hb d_Rd_readDirectory_143 rfl (lv_at hl 2 rfl) ?_
        refine va_get (D := (dC, dI)) (ci := 7) (v := .ref M.o_Dk) (C := R_Rd) (T := F_Rd) (N := 10) hx hb hts (fun w h => u_Vq_Rd w (i_Rd w h)) hown hK hP 5 rfl rfl 0 (by decide) (hts _ (u_Vq_Rd _ k_Rd_10)) (fun _ h9 => h9) rfl d_Rd_readDirectory_144 ?_
        refine lv_iload hx hb d_Rd_readDirectory_147 (lv_at hl 1 rfl) ?_
        obtain ⟨r_21, S_21, hc_21, h⟩ := lf_cE h
        have hFc := lx_free hD hS hA
        refine va_calli (va_runV (As := [.int r_20]) (rest := []) ⟨hx, hb, hml, hown, hts⟩ (l_Dk_one l dC dI X _ hc_21) (cwV 1 hts (gwV good_Vq (u_Vq_Rd _ k_Rd_41) (u_Vq_Dk _ k_Dk_20) (u_Vq_Dk _ k_Dk_21) (u_Vq_Dk _ k_Dk_0) (wcs (u_Vq_Dk _ k_Dk_22) (fun _ h => h))) rfl rfl rfl (by decide +kernel) ⟨Nat.le_of_ble_eq_true rfl, Nat.le_of_ble_eq_true rfl⟩) (pv_ofE (X.same _) (fun U z1 z2 => X.mono _ _ U hFc (hEw _ _ hS U z1 z2)) hP hK hD (va_recv hK hP (ci := 0) (q0 := 1) rfl rfl)) rfl rfl hl.1 rfl (lv_room (Nat.le_of_ble_eq_true rfl)) d_Rd_readDirectory_149 ⟨ly_c0 mF.1, ly_c0 mF.2⟩) hS (fun q _ h => hFc q h) hFc (fun r_ u t H locs ht hvm hw hB hz1 hk1 hS => ?_)
        rw [hw]
        obtain ⟨hP, -, hD⟩ := hB
        rw [ht] at hP
        have hD := lx_dj hD hFc
        refine lv_if_ne (tgt := 158) hx hb d_Rd_readDirectory_152 (by decide) (fun c_22 => ?_) (fun c_22 => ?_)
        · have h := lf_f h c_22
          refine lv_iload_n hx hb d_Rd_readDirectory_158 rfl (lv_at hl 3 rfl) ?_
          refine lv_if_eq (tgt := 192) hx hb d_Rd_readDirectory_159 (by decide) (fun c_23 => ?_) (fun c_23 => ?_)
          · have h := lf_t h c_23
            exact hB_192 _ hr_118 hm_118 y_1 y_4 y_5 r_20 Y G S_21 _ _ _ h m0 hP hD hS (lv_sub hl [2, 3, 4, 5, 1] rfl)
          · have h := lf_f h c_23
            refine lv_iload hx hb d_Rd_readDirectory_162 (lv_at hl 5 rfl) ?_
            refine lv_iconst (v := 2) hx hb d_Rd_readDirectory_164 (by decide) ?_
            refine lv_icmp_ge (tgt := 192) hx hb d_Rd_readDirectory_165 (by decide) (fun c_24 => ?_) (fun c_24 => ?_)
            · have h := lf_t h c_24
              exact hB_192 _ hr_118 hm_118 y_1 y_4 y_5 r_20 Y G S_21 _ _ _ h m0 hP hD hS (lv_sub hl [2, 3, 4, 5, 1] rfl)
            · have h := lf_f h c_24
              refine lv_aload_n hx hb d_Rd_readDirectory_168 rfl (lv_at hl 2 rfl) ?_
              refine lv_iload_n hx hb d_Rd_readDirectory_169 rfl (lv_at hl 3 rfl) ?_
              refine lv_iload hx hb d_Rd_readDirectory_170 (lv_at hl 5 rfl) ?_
              refine lv_iconst (v := 1) hx hb d_Rd_readDirectory_172 (by decide) ?_
              refine lv_iadd hx hb d_Rd_readDirectory_173 ?_
              refine lv_iload hx hb d_Rd_readDirectory_174 (lv_at hl 1 rfl) ?_
              obtain ⟨r_25, S_25, hc_25, h⟩ := lf_cE h
              have hFc := lx_free hD hS hA
              refine va_calli (va_runV (As := [.int y_1, .int (y_5 + 1), .int r_20]) (rest := []) ⟨hx, hb, hml, hown, hts⟩ (l_Rd_isDots l dC dI X _ hc_25) (cwV 3 hts (gwV good_Vq (u_Vq_Rd _ k_Rd_42) (u_Vq_Rd _ k_Rd_43) (u_Vq_Rd _ k_Rd_100) (u_Vq_Rd _ k_Rd_0) (wcs (u_Vq_Rd _ k_Rd_44) (fun _ h => h))) rfl rfl rfl (by decide +kernel) ⟨Nat.le_of_ble_eq_true rfl, Nat.le_of_ble_eq_true rfl⟩) (pv_ofE (X.same _) (fun U z1 z2 => X.mono _ _ U hFc (hEw _ _ hS U z1 z2)) hP hK hD (va_recv hK hP (ci := 7) (q0 := 5) rfl rfl)) rfl rfl hl.1 rfl (lv_room (Nat.le_of_ble_eq_true rfl)) d_Rd_readDirectory_176 ⟨ly_c0 mF.1, ly_c0 mF.2⟩) hS (fun q _ h => hFc q h) hFc (fun r_ u t H locs ht hvm hw hB hz1 hk1 hS => ?_)
              rw [hw]
              obtain ⟨hP, -, hD⟩ := hB
              rw [ht] at hP
              have hD := lx_dj hD hFc
              refine lv_if_eq (tgt := 186) hx hb d_Rd_readDirectory_179 (by decide) (fun c_26 => ?_) (fun c_26 => ?_)
              · have h := lf_t h c_26
                refine lv_iconst (v := 4) hx hb d_Rd_readDirectory_186 (by decide) ?_
                exact hB_187 _ hr_118 hm_118 y_1 y_4 y_5 4 Y G S_25 _ _ _ h m0 hP hD hS (lv_sub hl [2, 3, 4, 5] rfl)
              · have h := lf_f h c_26
                refine lv_iconst (v := 0) hx hb d_Rd_readDirectory_182 (by decide) ?_
                refine lv_goto (tgt := 187) hx hb d_Rd_readDirectory_183 (by decide) ?_
                exact hB_187 _ hr_118 hm_118 y_1 y_4 y_5 0 Y G S_25 _ _ _ h m0 hP hD hS (lv_sub hl [2, 3, 4, 5] rfl)
        · have h := lf_t h c_22
          refine lv_goto (tgt := 288) hx hb d_Rd_readDirectory_155 (by decide) ?_
          exact hB_288 y_1 y_5 Y G S_21 _ _ _ h m0 hP hD hS (lv_sub hl [2, 3, 5] rfl)
  have hB_91 : ∀ (y_1 : Int32) (y_3 : Int32) (Y : CT) (G : CG) (S : CS) (H : Heap) (locs : List Loc) (ls : Array Slot), f_Rd_readDirectory_91 K y_1 y_3 G S = some (r, G', S') → CG.le G0 G → va_P (dC, dI) classes (wV M Y G S) H → va_D A (wV M Y G S) → va_S A s.heap H locs → lv_has ls 8 [(0, .ref M.o_Rd), (1, .int y_1), (3, .int y_3)] → W p l e ({ frames := 5, cells := G'.gc - G0.gc, slots := G'.gs - G0.gs, locals := 154 }) s m ([.ref M.o_Rd, .int p0, .int p1] : List Value).toArray below meth c H locs (G.gc - G0.gc) (G.gs - G0.gs) Q (F0 m 91 ls []) := by
    intro y_1 y_3 Y G S H locs ls h m0 hP hD hS hl
    have mF := mo_Rd_readDirectory_91 h
    rw [f_Rd_readDirectory_91] at h
    refine lv_aload_n hx hb d_Rd_readDirectory_91 rfl (lv_at hl 0 rfl) ?_
    refine va_get (D := (dC, dI)) (ci := 7) (v := .ref M.o_Tr) (C := R_Rd) (T := F_Rd) (N := 10) hx hb hts (fun w h => u_Vq_Rd w (i_Rd w h)) hown hK hP 5 rfl rfl 2 (by decide) (hts _ (u_Vq_Rd _ k_Rd_12)) (fun _ h9 => h9) rfl d_Rd_readDirectory_92 ?_
    refine lv_iload_n hx hb d_Rd_readDirectory_95 rfl (lv_at hl 1 rfl) ?_
    obtain ⟨S_12, hc_12, h⟩ := lf_bE h
    have hFc := lx_free hD hS hA
    refine va_callv (va_runV (As := [.int y_1]) (rest := []) ⟨hx, hb, hml, hown, hts⟩ (l_Tr_beginKids l dC dI X _ hc_12) (cwV 1 hts (gwV good_Vq (u_Vq_Rd _ k_Rd_38) (u_Vq_Tr _ k_Tr_48) (u_Vq_Tr _ k_Tr_49) (u_Vq_Tr _ k_Tr_0) (wcs (u_Vq_Tr _ k_Tr_50) (fun _ h => h))) rfl rfl rfl (by decide +kernel) ⟨Nat.le_of_ble_eq_true rfl, Nat.le_of_ble_eq_true rfl⟩) (pv_ofE (X.same _) (fun U z1 z2 => X.mono _ _ U hFc (hEw _ _ hS U z1 z2)) hP hK hD (va_recv hK hP (ci := 5) (q0 := 4) rfl rfl)) rfl rfl hl.1 rfl (lv_room (Nat.le_of_ble_eq_true rfl)) d_Rd_readDirectory_96 ⟨ly_c0 mF.1, ly_c0 mF.2⟩) hS (fun q _ h => hFc q h) hFc (fun u t H locs ht hvm hw hB hz1 hk1 hS => ?_)
    obtain ⟨hP, -, hD⟩ := hB
    rw [ht] at hP
    have hD := lx_dj hD hFc
    refine lv_aload_n hx hb d_Rd_readDirectory_99 rfl (lv_at hl 0 rfl) ?_
    refine lv_iconst (v := 0) hx hb d_Rd_readDirectory_100 (by decide) ?_
    refine va_put (D := (dC, dI)) (ci := 7) (v := .int 0) (ty := .int) (C := R_Rd) (T := F_Rd) (N := 10) hx hb hts (fun w h => u_Vq_Rd w (i_Rd w h)) t_Rd t_Rd_ok n_Rd hown hK hP hD hS 5 rfl rfl 7 (by decide) (hts _ (u_Vq_Rd _ k_Rd_17)) (fun _ h9 => h9) rfl (by decide +kernel) rfl rfl (Nat.le_of_ble_eq_true rfl) d_Rd_readDirectory_101 (fun H locs hP hD hS => ?_)
    obtain ⟨S_13, eS_13, h⟩ := lf_lX h
    have hP := ly_newP eS_13 hP
    have hD := ly_newD eS_13 hD
    refine lv_iload_n hx hb d_Rd_readDirectory_104 rfl (lv_at hl 2 rfl) ?_
    refine lv_aload_n hx hb d_Rd_readDirectory_105 rfl (lv_at hl 0 rfl) ?_
    refine va_get (D := (dC, dI)) (ci := 7) (v := .ref M.o_Tb) (C := R_Rd) (T := F_Rd) (N := 10) hx hb hts (fun w h => u_Vq_Rd w (i_Rd w h)) hown hK hP 5 rfl rfl 1 (by decide) (hts _ (u_Vq_Rd _ k_Rd_11)) (fun _ h9 => h9) rfl d_Rd_readDirectory_106 ?_
    obtain ⟨r_14, S_14, hc_14, h⟩ := lf_cE h
    have hFc := lx_free hD hS hA
    refine va_calli (va_runV (As := []) (rest := [.int y_3]) ⟨hx, hb, hml, hown, hts⟩ (l_Tb_slotsOfCluster l dC dI X _ hc_14) (cwV 0 hts (gwV good_Vq (u_Vq_Rd _ k_Rd_39) (u_Vq_Tb _ k_Tb_49) (u_Vq_Tb _ k_Tb_50) (u_Vq_Tb _ k_Tb_0) (wcs (u_Vq_Tb _ k_Tb_51) (fun _ h => h))) rfl rfl rfl (by decide +kernel) ⟨Nat.le_of_ble_eq_true rfl, Nat.le_of_ble_eq_true rfl⟩) (pv_ofE (X.same _) (fun U z1 z2 => X.mono _ _ U hFc (hEw _ _ hS U z1 z2)) hP hK hD (va_recv hK hP (ci := 4) (q0 := 3) rfl rfl)) rfl rfl hl.1 rfl (lv_room (Nat.le_of_ble_eq_true rfl)) d_Rd_readDirectory_109 ⟨ly_c0 mF.1, ly_c0 mF.2⟩) hS (fun q _ h => hFc q h) hFc (fun r_ u t H locs ht hvm hw hB hz1 hk1 hS => ?_)
    rw [hw]
    obtain ⟨hP, -, hD⟩ := hB
    rw [ht] at hP
    have hD := lx_dj hD hFc
    refine lv_imul hx hb d_Rd_readDirectory_112 ?_
    refine lv_topi (fun x_15 ex_15 => ?_)
    have h := lf_lE h ex_15
    refine lv_istore (lv' := [(4, .int x_15), (0, .ref M.o_Rd), (1, .int y_1), (3, .int y_3)]) hx hb d_Rd_readDirectory_113 hl (by decide) rfl (fun ls hl => ?_)
    refine lv_iconst (v := 0) hx hb d_Rd_readDirectory_115 (by decide) ?_
    refine lv_istore (lv' := [(5, .int 0), (4, .int x_15), (0, .ref M.o_Rd), (1, .int y_1), (3, .int y_3)]) hx hb d_Rd_readDirectory_116 hl (by decide) rfl (fun ls hl => ?_)
    exact hB_118 K y_1 x_15 0 Y G S_14 _ _ _ h m0 hP hD hS (lv_sub hl [2, 3, 1, 0] rfl)
  have hB_27 : ∀ (k : Nat), ∀ (y_1 : Int32) (y_2 : Int32) (y_3 : Int32) (y_4 : Int32) (Y : CT) (G : CG) (S : CS) (H : Heap) (locs : List Loc) (ls : Array Slot), f_Rd_readDirectory_27 K k y_1 y_2 y_3 y_4 G S = some (r, G', S') → CG.le G0 G → va_P (dC, dI) classes (wV M Y G S) H → va_D A (wV M Y G S) → va_S A s.heap H locs → lv_has ls 8 [(0, .ref M.o_Rd), (1, .int y_1), (2, .int y_2), (3, .int y_3), (4, .int y_4)] → W p l e ({ frames := 5, cells := G'.gc - G0.gc, slots := G'.gs - G0.gs, locals := 154 }) s m ([.ref M.o_Rd, .int p0, .int p1] : List Value).toArray below meth c H locs (G.gc - G0.gc) (G.gs - G0.gs) Q (F0 m 27 ls []) := by
    intro k
    induction k with
    | zero => intro y_1 y_2 y_3 y_4 Y G S H locs ls h; exact lf_no h
    | succ k hr_27 =>
      intro y_1 y_2 y_3 y_4 Y G S H locs ls h m0 hP hD hS hl
      have mF := mo_Rd_readDirectory_27 (k + 1) y_1 y_2 y_3 y_4 G S h
      have hm_27 : ∀ (y_1 : Int32) (y_2 : Int32) (y_3 : Int32) (y_4 : Int32) (G : CG) (S : CS) {x : Int32} {G1 : CG} {S1 : CS}, f_Rd_readDirectory_27 K k y_1 y_2 y_3 y_4 G S = some (x, G1, S1) → CG.le G G1 := fun y_1 y_2 y_3 y_4 G S => mo_Rd_readDirectory_27 k y_1 y_2 y_3 y_4 G S
      rw [f_Rd_readDirectory_27] at h
      refine lv_iload_n hx hb d_Rd_readDirectory_27 rfl (lv_at hl 2 rfl) ?_
      refine lv_if_eq (tgt := 91) hx hb d_Rd_readDirectory_28 (by decide) (fun c_4 => ?_) (fun c_4 => ?_)
      · have h := lf_t h c_4
        exact hB_91 y_1 y_3 Y G S _ _ _ h m0 hP hD hS (lv_sub hl [0, 1, 3] rfl)
      · have h := lf_f h c_4
        refine lv_iload hx hb d_Rd_readDirectory_31 (lv_at hl 4 rfl) ?_
        refine lv_iload_n hx hb d_Rd_readDirectory_33 rfl (lv_at hl 3 rfl) ?_
        refine lv_icmp_ge (tgt := 91) hx hb d_Rd_readDirectory_34 (by decide) (fun c_5 => ?_) (fun c_5 => ?_)
        · have h := lf_t h c_5
          exact hB_91 y_1 y_3 Y G S _ _ _ h m0 hP hD hS (lv_sub hl [0, 1, 3] rfl)
        · have h := lf_f h c_5
          refine lv_aload_n hx hb d_Rd_readDirectory_37 rfl (lv_at hl 0 rfl) ?_
          refine va_get (D := (dC, dI)) (ci := 7) (v := .ref M.a_Rd_road) (C := R_Rd) (T := F_Rd) (N := 10) hx hb hts (fun w h => u_Vq_Rd w (i_Rd w h)) hown hK hP 5 rfl rfl 4 (by decide) (hts _ (u_Vq_Rd _ k_Rd_14)) (fun _ h9 => h9) rfl d_Rd_readDirectory_38 ?_
          refine lv_iload hx hb d_Rd_readDirectory_41 (lv_at hl 4 rfl) ?_
          refine lv_aload_n hx hb d_Rd_readDirectory_43 rfl (lv_at hl 0 rfl) ?_
          refine va_get (D := (dC, dI)) (ci := 7) (v := .ref M.o_Tb) (C := R_Rd) (T := F_Rd) (N := 10) hx hb hts (fun w h => u_Vq_Rd w (i_Rd w h)) hown hK hP 5 rfl rfl 1 (by decide) (hts _ (u_Vq_Rd _ k_Rd_11)) (fun _ h9 => h9) rfl d_Rd_readDirectory_44 ?_
          refine lv_aload_n hx hb d_Rd_readDirectory_47 rfl (lv_at hl 0 rfl) ?_
          refine va_get (D := (dC, dI)) (ci := 7) (v := .ref M.a_Rd_road) (C := R_Rd) (T := F_Rd) (N := 10) hx hb hts (fun w h => u_Vq_Rd w (i_Rd w h)) hown hK hP 5 rfl rfl 4 (by decide) (hts _ (u_Vq_Rd _ k_Rd_14)) (fun _ h9 => h9) rfl d_Rd_readDirectory_48 ?_
          refine lv_iload hx hb d_Rd_readDirectory_51 (lv_at hl 4 rfl) ?_
          obtain ⟨g_6, h⟩ := lf_gE h
          refine va_iald hx hb hK hP 33 2 rfl rfl g_6 d_Rd_readDirectory_53 ?_
          obtain ⟨r_7, S_7, hc_7, h⟩ := lf_cE h
          have hFc := lx_free hD hS hA
          refine va_calli (va_runV (As := [.int (S.w_Rd_road y_4.toNatClampNeg)]) (rest := [.int y_4, .ref M.a_Rd_road]) ⟨hx, hb, hml, hown, hts⟩ (l_Tb_goalOf l dC dI X _ hc_7) (cwV 1 hts (gwV good_Vq (u_Vq_Rd _ k_Rd_37) (u_Vq_Tb _ k_Tb_46) (u_Vq_Tb _ k_Tb_47) (u_Vq_Tb _ k_Tb_0) (wcs (u_Vq_Tb _ k_Tb_48) (fun _ h => h))) rfl rfl rfl (by decide +kernel) ⟨Nat.le_of_ble_eq_true rfl, Nat.le_of_ble_eq_true rfl⟩) (pv_ofE (X.same _) (fun U z1 z2 => X.mono _ _ U hFc (hEw _ _ hS U z1 z2)) hP hK hD (va_recv hK hP (ci := 4) (q0 := 3) rfl rfl)) rfl rfl hl.1 rfl (lv_room (Nat.le_of_ble_eq_true rfl)) d_Rd_readDirectory_54 ⟨ly_c0 mF.1, ly_c0 mF.2⟩) hS (fun q _ h => hFc q h) hFc (fun r_ u t H locs ht hvm hw hB hz1 hk1 hS => ?_)
          rw [hw]
          obtain ⟨hP, -, hD⟩ := hB
          rw [ht] at hP
          have hD := lx_dj hD hFc
          refine lv_if_ne (tgt := 70) hx hb d_Rd_readDirectory_57 (by decide) (fun c_8 => ?_) (fun c_8 => ?_)
          · have h := lf_f h c_8
            refine lv_aload_n hx hb d_Rd_readDirectory_70 rfl (lv_at hl 0 rfl) ?_
            refine va_get (D := (dC, dI)) (ci := 7) (v := .ref M.o_Tb) (C := R_Rd) (T := F_Rd) (N := 10) hx hb hts (fun w h => u_Vq_Rd w (i_Rd w h)) hown hK hP 5 rfl rfl 1 (by decide) (hts _ (u_Vq_Rd _ k_Rd_11)) (fun _ h9 => h9) rfl d_Rd_readDirectory_71 ?_
            refine lv_aload_n hx hb d_Rd_readDirectory_74 rfl (lv_at hl 0 rfl) ?_
            refine va_get (D := (dC, dI)) (ci := 7) (v := .ref M.a_Rd_road) (C := R_Rd) (T := F_Rd) (N := 10) hx hb hts (fun w h => u_Vq_Rd w (i_Rd w h)) hown hK hP 5 rfl rfl 4 (by decide) (hts _ (u_Vq_Rd _ k_Rd_14)) (fun _ h9 => h9) rfl d_Rd_readDirectory_75 ?_
            refine lv_iload hx hb d_Rd_readDirectory_78 (lv_at hl 4 rfl) ?_
            obtain ⟨g_9, h⟩ := lf_gE h
            refine va_iald hx hb hK hP 33 2 rfl rfl g_9 d_Rd_readDirectory_80 ?_
            obtain ⟨r_10, S_10, hc_10, h⟩ := lf_cE h
            have hFc := lx_free hD hS hA
            refine va_calli (va_runV (As := [.int (S_7.w_Rd_road y_4.toNatClampNeg)]) (rest := [.int y_4, .ref M.a_Rd_road]) ⟨hx, hb, hml, hown, hts⟩ (l_Tb_goalOf l dC dI X _ hc_10) (cwV 1 hts (gwV good_Vq (u_Vq_Rd _ k_Rd_37) (u_Vq_Tb _ k_Tb_46) (u_Vq_Tb _ k_Tb_47) (u_Vq_Tb _ k_Tb_0) (wcs (u_Vq_Tb _ k_Tb_48) (fun _ h => h))) rfl rfl rfl (by decide +kernel) ⟨Nat.le_of_ble_eq_true rfl, Nat.le_of_ble_eq_true rfl⟩) (pv_ofE (X.same _) (fun U z1 z2 => X.mono _ _ U hFc (hEw _ _ hS U z1 z2)) hP hK hD (va_recv hK hP (ci := 4) (q0 := 3) rfl rfl)) rfl rfl hl.1 rfl (lv_room (Nat.le_of_ble_eq_true rfl)) d_Rd_readDirectory_81 ⟨ly_c0 mF.1, ly_c0 mF.2⟩) hS (fun q _ h => hFc q h) hFc (fun r_ u t H locs ht hvm hw hB hz1 hk1 hS => ?_)
            rw [hw]
            obtain ⟨hP, -, hD⟩ := hB
            rw [ht] at hP
            have hD := lx_dj hD hFc
            exact hB_84 _ hr_27 hm_27 y_1 y_2 y_3 y_4 y_4 r_10 Y G S_10 _ _ _ h m0 hP hD hS (lv_sub hl [0, 1, 2, 3, 4] rfl)
          · have h := lf_t h c_8
            refine lv_aload_n hx hb d_Rd_readDirectory_60 rfl (lv_at hl 0 rfl) ?_
            refine va_get (D := (dC, dI)) (ci := 7) (v := .ref M.a_Rd_road) (C := R_Rd) (T := F_Rd) (N := 10) hx hb hts (fun w h => u_Vq_Rd w (i_Rd w h)) hown hK hP 5 rfl rfl 4 (by decide) (hts _ (u_Vq_Rd _ k_Rd_14)) (fun _ h9 => h9) rfl d_Rd_readDirectory_61 ?_
            refine lv_iload hx hb d_Rd_readDirectory_64 (lv_at hl 4 rfl) ?_
            obtain ⟨g_11, h⟩ := lf_gE h
            refine va_iald hx hb hK hP 33 2 rfl rfl g_11 d_Rd_readDirectory_66 ?_
            refine lv_goto (tgt := 84) hx hb d_Rd_readDirectory_67 (by decide) ?_
            exact hB_84 _ hr_27 hm_27 y_1 y_2 y_3 y_4 y_4 (S_7.w_Rd_road y_4.toNatClampNeg) Y G S_7 _ _ _ h m0 hP hD hS (lv_sub hl [0, 1, 2, 3, 4] rfl)
  have m0 : CG.le G0 G0 := ⟨Nat.le_refl _, Nat.le_refl _⟩
  have mF := mo_Rd_readDirectory h
  refine W.widen (k := G0.gc - G0.gc) (n := G0.gs - G0.gs) (Nat.zero_le _) (Nat.zero_le _) ?_
  rw [f_Rd_readDirectory] at h
  refine lv_aload_n hx hb d_Rd_readDirectory_0 rfl (lv_at hl 0 rfl) ?_
  refine lv_aload_n hx hb d_Rd_readDirectory_1 rfl (lv_at hl 0 rfl) ?_
  refine va_get (D := (dC, dI)) (ci := 7) (v := .ref M.o_Tr) (C := R_Rd) (T := F_Rd) (N := 10) hx hb hts (fun w h => u_Vq_Rd w (i_Rd w h)) hown hK hP 5 rfl rfl 2 (by decide) (hts _ (u_Vq_Rd _ k_Rd_12)) (fun _ h9 => h9) rfl d_Rd_readDirectory_2 ?_
  refine lv_iload_n hx hb d_Rd_readDirectory_5 rfl (lv_at hl 1 rfl) ?_
  obtain ⟨r_1, S_1, hc_1, h⟩ := lf_cE h
  have hFc := lx_free hD hS hA
  refine va_calli (va_runV (As := [.int p0]) (rest := [.ref M.o_Rd]) ⟨hx, hb, hml, hown, hts⟩ (l_Tr_firstOf l dC dI X _ hc_1) (cwV 1 hts (gwV good_Vq (u_Vq_Rd _ k_Rd_31) (u_Vq_Tr _ k_Tr_45) (u_Vq_Tr _ k_Tr_46) (u_Vq_Tr _ k_Tr_0) (wcs (u_Vq_Tr _ k_Tr_47) (fun _ h => h))) rfl rfl rfl (by decide +kernel) ⟨Nat.le_of_ble_eq_true rfl, Nat.le_of_ble_eq_true rfl⟩) (pv_ofE (X.same _) (fun U z1 z2 => X.mono _ _ U hFc (hEw _ _ hS U z1 z2)) hP hK hD (va_recv hK hP (ci := 5) (q0 := 4) rfl rfl)) rfl rfl hl.1 rfl (lv_room (Nat.le_of_ble_eq_true rfl)) d_Rd_readDirectory_6 ⟨ly_c0 mF.1, ly_c0 mF.2⟩) hS (fun q _ h => hFc q h) hFc (fun r_ u t H locs ht hvm hw hB hz1 hk1 hS => ?_)
  rw [hw]
  obtain ⟨hP, -, hD⟩ := hB
  rw [ht] at hP
  have hD := lx_dj hD hFc
  refine lv_aload_n hx hb d_Rd_readDirectory_9 rfl (lv_at hl 0 rfl) ?_
  refine va_get (D := (dC, dI)) (ci := 7) (v := .ref M.a_Rd_road) (C := R_Rd) (T := F_Rd) (N := 10) hx hb hts (fun w h => u_Vq_Rd w (i_Rd w h)) hown hK hP 5 rfl rfl 4 (by decide) (hts _ (u_Vq_Rd _ k_Rd_14)) (fun _ h9 => h9) rfl d_Rd_readDirectory_10 ?_
  obtain ⟨r_2, S_2, hc_2, h⟩ := lf_cE h
  have hFc := lx_free hD hS hA
  refine va_calli (va_runV (As := [.int r_1, .ref M.a_Rd_road]) (rest := []) ⟨hx, hb, hml, hown, hts⟩ (l_Rd_follow_Rdroad l dC dI X _ hc_2) (cwV 2 hts (gwV good_Vq (u_Vq_Rd _ k_Rd_32) (u_Vq_Rd _ k_Rd_33) (u_Vq_Rd _ k_Rd_98) (u_Vq_Rd _ k_Rd_0) (wcs (u_Vq_Rd _ k_Rd_34) (fun _ h => h))) rfl rfl rfl (by decide +kernel) ⟨Nat.le_of_ble_eq_true rfl, Nat.le_of_ble_eq_true rfl⟩) (pv_ofE (X.same _) (fun U z1 z2 => X.mono _ _ U hFc (hEw _ _ hS U z1 z2)) hP hK hD (va_recv hK hP (ci := 7) (q0 := 5) rfl rfl)) rfl rfl hl.1 rfl (lv_room (Nat.le_of_ble_eq_true rfl)) d_Rd_readDirectory_13 ⟨ly_c0 mF.1, ly_c0 mF.2⟩) hS (fun q _ h => hFc q h) hFc (fun r_ u t H locs ht hvm hw hB hz1 hk1 hS => ?_)
  rw [hw]
  obtain ⟨hP, -, hD⟩ := hB
  rw [ht] at hP
  have hD := lx_dj hD hFc
  refine lv_istore_n (lv' := [(3, .int r_2), (0, .ref M.o_Rd), (1, .int p0), (2, .int p1)]) hx hb d_Rd_readDirectory_16 rfl hl (by decide) rfl (fun ls hl => ?_)
  refine lv_iload_n hx hb d_Rd_readDirectory_17 rfl (lv_at hl 0 rfl) ?_
  refine lv_iconst (v := (-1)) hx hb d_Rd_readDirectory_18 (by decide) ?_
  refine lv_icmp_ne (tgt := 24) hx hb d_Rd_readDirectory_19 (by decide) (fun c_3 => ?_) (fun c_3 => ?_)
  · have h := lf_f h c_3
    refine lv_iconst (v := 0) hx hb d_Rd_readDirectory_24 (by decide) ?_
    refine lv_istore (lv' := [(4, .int 0), (3, .int r_2), (0, .ref M.o_Rd), (1, .int p0), (2, .int p1)]) hx hb d_Rd_readDirectory_25 hl (by decide) rfl (fun ls hl => ?_)
    exact hB_27 K p0 p1 r_2 0 Y G0 S_2 _ _ _ h m0 hP hD hS (lv_sub hl [2, 3, 4, 1, 0] rfl)
  · have h := lf_t h c_3
    refine lv_iconst (v := 3) hx hb d_Rd_readDirectory_22 (by decide) ?_
    rw [hQ]
    have e1 : (3 : Int32) = r := congrArg (fun z => z.1) (Option.some.inj h)
    have e2 : G0 = G' := congrArg (fun z => z.2.1) (Option.some.inj h)
    have e3 : S_2 = S' := congrArg (fun z => z.2.2) (Option.some.inj h)
    have hP := ly_newP3 e2.symm e3.symm hP
    have hD := ly_newD3 e2.symm e3.symm hD
    refine W.widen (k := G'.gc - G0.gc) (n := G'.gs - G0.gs) (ly_wc e2) (ly_ws e2) ?_
    exact W.iret (v := 3) hx hb hr (fun t ht hW => ⟨⟨3, Y, rfl, e1, by rw [ht]; exact hP, va_K.moved hW.alike hK, hD⟩, hS.F ht⟩) hS.2.2 d_Rd_readDirectory_23
set_option maxHeartbeats 4000000 in
set_option maxRecDepth 100000 in
theorem l_Rd_scan (l : Launch) (dC : Nat → ClassId) (dI : Nat → Nat → Nat) {K : Nat} {M : CA} {E : (Nat → Prop) → State → Prop} (X : ly_X l dC dI K M E) (sz : Nat) {Y : CT} {G0 G' : CG} {S S' : CS} {p0 : Int32} {r : Int32} (h : f_Rd_scan K G0 S p0 = some (r, G', S')) : Met l y_Rd_scan (.code y_Rd_scan cb_Rd_scan 4 (some .int) :: V_Vq) ({ frames := 6, cells := G'.gc - G0.gc, slots := G'.gs - G0.gs, locals := 181 }) (va_Pc [.ref M.o_Rd, .int p0] (fun U => U.heap.size = sz ∧ at_ (dC, dI) (fun _ => True) (wV M Y G0 S) (tV M) U ∧ E (va_A (wV M Y G0 S) sz) U)) (va_Qi (fun (r_ : Int32) (u : CT) => r_ = r) (fun (u : CT) t => at_ (dC, dI) (va_A (wV M Y G0 S) sz) (wV M u G' S') (tV M) t) (va_A (wV M Y G0 S) sz)) (G'.gc - G0.gc) (G'.gs - G0.gs) (va_A (wV M Y G0 S) sz) := by
  refine Met.ofW (cc := cb_Rd_scan) (maxL := 4) (ret := (some .int)) (by decide) rfl ?_
  intro p e s m args below meth c s₁ B hml hv
  obtain ⟨rfl, hsz, ⟨hP, hK, hD0⟩, hE⟩ := hv
  have hx := B.exec
  have hb := B.bytes
  have hr := B.returns
  have hts0 := atoms_spec (ws := .code y_Rd_scan cb_Rd_scan 4 (some .int) :: V_Vq) B.pre
  have hts : ∀ w ∈ V_Vq, w.before ([.ref M.o_Rd, .int p0] : List Value).toArray s = true := fun w h => hts0 w (List.mem_cons_of_mem _ h)
  have hown : s.vm.findClass R_Rd = some m.cls := findClass_of_methodNamed B.named
  subst hsz
  have hD := hD0.self (sz := s.heap.size)
  generalize hAe : va_A (wV M Y G0 S) s.heap.size = A at hD hE ⊢
  have hA : ∀ q : Nat, s.heap.size ≤ q → A q := fun q h => by rw [← hAe]; exact Or.inr h
  have hS : va_S A s.heap s.heap [] := va_S.rf
  have hP : va_P (dC, dI) classes (wV M Y G0 S) s.heap := hP
  have hK : va_K (dC, dI) classes (tV M) s := hK
  have hEw : ∀ (H : Heap) (locs : List Loc), va_S A s.heap H locs → ∀ U : State, U.heap = H → s.WarmedH U.vm → E A U := fun H locs hS U hU hW => X.kept A s U H locs hE hS hU hW
  have hl := lv_entry ([.ref M.o_Rd, .int p0]) (n := 4) (Nat.le_of_ble_eq_true rfl)
  rw [lg_entry_eq]
  generalize (lg_sl ([.ref M.o_Rd, .int p0]) ++ List.replicate (4 - (lg_sl ([.ref M.o_Rd, .int p0])).length) Slot.unset).toArray = ls at hl ⊢
  have hl : lv_has ls 4 [(0, .ref M.o_Rd), (1, .int p0)] := hl
  refine qabs (fun Q hQ => ?_)
  have hB_102 : ∀ (rec_64 : Int32 → Int32 → CG → CS → Option (Int32 × CG × CS)) (hr_64 : ∀ (y_1 : Int32) (y_2 : Int32) (Y : CT) (G : CG) (S : CS) (H : Heap) (locs : List Loc) (ls : Array Slot), rec_64 y_1 y_2 G S = some (r, G', S') → CG.le G0 G → va_P (dC, dI) classes (wV M Y G S) H → va_D A (wV M Y G S) → va_S A s.heap H locs → lv_has ls 4 [(0, .ref M.o_Rd), (1, .int y_1), (2, .int y_2)] → W p l e ({ frames := 6, cells := G'.gc - G0.gc, slots := G'.gs - G0.gs, locals := 181 }) s m ([.ref M.o_Rd, .int p0] : List Value).toArray below meth c H locs (G.gc - G0.gc) (G.gs - G0.gs) Q (F0 m 64 ls [])) (hm_64 : ∀ (y_1 : Int32) (y_2 : Int32) (G : CG) (S : CS) {x : Int32} {G1 : CG} {S1 : CS}, rec_64 y_1 y_2 G S = some (x, G1, S1) → CG.le G G1), ∀ (y_1 : Int32) (y_2 : Int32) (z_0 : Int32) (Y : CT) (G : CG) (S : CS) (H : Heap) (locs : List Loc) (ls : Array Slot), f_Rd_scan_102 K rec_64 y_1 y_2 z_0 G S = some (r, G', S') → CG.le G0 G → va_P (dC, dI) classes (wV M Y G S) H → va_D A (wV M Y G S) → va_S A s.heap H locs → lv_has ls 4 [(0, .ref M.o_Rd), (1, .int y_1), (2, .int y_2)] → W p l e ({ frames := 6, cells := G'.gc - G0.gc, slots := G'.gs - G0.gs, locals := 181 }) s m ([.ref M.o_Rd, .int p0] : List Value).toArray below meth c H locs (G.gc - G0.gc) (G.gs - G0.gs) Q (F0 m 102 ls [.int z_0]) := by
    intro rec_64 hr_64 hm_64 y_1 y_2 z_0 Y G S H locs ls h m0 hP hD hS hl
    have mF := mo_Rd_scan_102 hm_64 h
    rw [f_Rd_scan_102] at h
    refine lv_istore_n (lv' := [(3, .int z_0), (0, .ref M.o_Rd), (1, .int y_1), (2, .int y_2)]) hx hb d_Rd_scan_102 rfl hl (by decide) rfl (fun ls hl => ?_)
    refine lv_iload_n hx hb d_Rd_scan_103 rfl (lv_at hl 0 rfl) ?_
    refine lv_if_eq (tgt := 109) hx hb d_Rd_scan_104 (by decide) (fun c_17 => ?_) (fun c_17 => ?_)
    · have h := lf_t h c_17
      obtain ⟨x_18, ex_18, h⟩ := lf_lX h
      refine lv_iinc (v := x_18) (lv' := [(2, .int x_18), (3, .int z_0), (0, .ref M.o_Rd), (1, .int y_1)]) hx hb d_Rd_scan_109 hl (k := 3) rfl (by rw [ex_18]; rfl) (by decide) rfl (fun ls hl => ?_)
      refine lv_goto (tgt := 64) hx hb d_Rd_scan_112 (by decide) ?_
      exact hr_64 y_1 x_18 Y G S _ _ _ h m0 hP hD hS (lv_sub hl [2, 3, 0] rfl)
    · have h := lf_f h c_17
      refine lv_iload_n hx hb d_Rd_scan_107 rfl (lv_at hl 0 rfl) ?_
      rw [hQ]
      have e1 : z_0 = r := congrArg (fun z => z.1) (Option.some.inj h)
      have e2 : G = G' := congrArg (fun z => z.2.1) (Option.some.inj h)
      have e3 : S = S' := congrArg (fun z => z.2.2) (Option.some.inj h)
      have hP := ly_newP3 e2.symm e3.symm hP
      have hD := ly_newD3 e2.symm e3.symm hD
      refine W.widen (k := G'.gc - G0.gc) (n := G'.gs - G0.gs) (ly_wc e2) (ly_ws e2) ?_
      exact W.iret (v := z_0) hx hb hr (fun t ht hW => ⟨⟨z_0, Y, rfl, e1, by rw [ht]; exact hP, va_K.moved hW.alike hK, hD⟩, hS.F ht⟩) hS.2.2 d_Rd_scan_108
  have hB_98 : ∀ (rec_64 : Int32 → Int32 → CG → CS → Option (Int32 × CG × CS)) (hr_64 : ∀ (y_1 : Int32) (y_2 : Int32) (Y : CT) (G : CG) (S : CS) (H : Heap) (locs : List Loc) (ls : Array Slot), rec_64 y_1 y_2 G S = some (r, G', S') → CG.le G0 G → va_P (dC, dI) classes (wV M Y G S) H → va_D A (wV M Y G S) → va_S A s.heap H locs → lv_has ls 4 [(0, .ref M.o_Rd), (1, .int y_1), (2, .int y_2)] → W p l e ({ frames := 6, cells := G'.gc - G0.gc, slots := G'.gs - G0.gs, locals := 181 }) s m ([.ref M.o_Rd, .int p0] : List Value).toArray below meth c H locs (G.gc - G0.gc) (G.gs - G0.gs) Q (F0 m 64 ls [])) (hm_64 : ∀ (y_1 : Int32) (y_2 : Int32) (G : CG) (S : CS) {x : Int32} {G1 : CG} {S1 : CS}, rec_64 y_1 y_2 G S = some (x, G1, S1) → CG.le G G1), ∀ (y_1 : Int32) (y_2 : Int32) (z_0 : Int32) (Y : CT) (G : CG) (S : CS) (H : Heap) (locs : List Loc) (ls : Array Slot), f_Rd_scan_98 K rec_64 y_1 y_2 z_0 G S = some (r, G', S') → CG.le G0 G → va_P (dC, dI) classes (wV M Y G S) H → va_D A (wV M Y G S) → va_S A s.heap H locs → lv_has ls 4 [(0, .ref M.o_Rd), (1, .int y_1), (2, .int y_2)] → W p l e ({ frames := 6, cells := G'.gc - G0.gc, slots := G'.gs - G0.gs, locals := 181 }) s m ([.ref M.o_Rd, .int p0] : List Value).toArray below meth c H locs (G.gc - G0.gc) (G.gs - G0.gs) Q (F0 m 98 ls [.int z_0]) := by
    intro rec_64 hr_64 hm_64 y_1 y_2 z_0 Y G S H locs ls h m0 hP hD hS hl
    have mF := mo_Rd_scan_98 hm_64 h
    rw [f_Rd_scan_98] at h
    refine lv_goto (tgt := 102) hx hb d_Rd_scan_98 (by decide) ?_
    exact hB_102 _ hr_64 hm_64 y_1 y_2 z_0 Y G S _ _ _ h m0 hP hD hS (lv_sub hl [0, 1, 2] rfl)
  have hB_115 : ∀ (Y : CT) (G : CG) (S : CS) (H : Heap) (locs : List Loc) (ls : Array Slot), f_Rd_scan_115 K G S = some (r, G', S') → CG.le G0 G → va_P (dC, dI) classes (wV M Y G S) H → va_D A (wV M Y G S) → va_S A s.heap H locs → lv_has ls 4 [(0, .ref M.o_Rd)] → W p l e ({ frames := 6, cells := G'.gc - G0.gc, slots := G'.gs - G0.gs, locals := 181 }) s m ([.ref M.o_Rd, .int p0] : List Value).toArray below meth c H locs (G.gc - G0.gc) (G.gs - G0.gs) Q (F0 m 115 ls []) := by
    intro Y G S H locs ls h m0 hP hD hS hl
    have mF := mo_Rd_scan_115 h
    rw [f_Rd_scan_115] at h
    refine lv_aload_n hx hb d_Rd_scan_115 rfl (lv_at hl 0 rfl) ?_
    obtain ⟨r_15, S_15, hc_15, h⟩ := lf_cE h
    have hFc := lx_free hD hS hA
    refine va_calli (va_runV (As := []) (rest := []) ⟨hx, hb, hml, hown, hts⟩ (l_Rd_hasStrays l dC dI X _ hc_15) (cwV 0 hts (gwV good_Vq (u_Vq_Rd _ k_Rd_93) (u_Vq_Rd _ k_Rd_94) (u_Vq_Rd _ k_Rd_97) (u_Vq_Rd _ k_Rd_0) (wcs (u_Vq_Rd _ k_Rd_95) (fun _ h => h))) rfl rfl rfl (by decide +kernel) ⟨Nat.le_of_ble_eq_true rfl, Nat.le_of_ble_eq_true rfl⟩) (pv_ofE (X.same _) (fun U z1 z2 => X.mono _ _ U hFc (hEw _ _ hS U z1 z2)) hP hK hD (va_recv hK hP (ci := 7) (q0 := 5) rfl rfl)) rfl rfl hl.1 rfl (lv_room (Nat.le_of_ble_eq_true rfl)) d_Rd_scan_116 ⟨ly_c0 mF.1, ly_c0 mF.2⟩) hS (fun q _ h => hFc q h) hFc (fun r_ u t H locs ht hvm hw hB hz1 hk1 hS => ?_)
    rw [hw]
    obtain ⟨hP, -, hD⟩ := hB
    rw [ht] at hP
    have hD := lx_dj hD hFc
    refine lv_if_eq (tgt := 127) hx hb d_Rd_scan_119 (by decide) (fun c_16 => ?_) (fun c_16 => ?_)
    · have h := lf_t h c_16
      refine lv_iconst (v := 0) hx hb d_Rd_scan_127 (by decide) ?_
      rw [hQ]
      have e1 : (0 : Int32) = r := congrArg (fun z => z.1) (Option.some.inj h)
      have e2 : G = G' := congrArg (fun z => z.2.1) (Option.some.inj h)
      have e3 : S_15 = S' := congrArg (fun z => z.2.2) (Option.some.inj h)
      have hP := ly_newP3 e2.symm e3.symm hP
      have hD := ly_newD3 e2.symm e3.symm hD
      refine W.widen (k := G'.gc - G0.gc) (n := G'.gs - G0.gs) (ly_wc e2) (ly_ws e2) ?_
      exact W.iret (v := 0) hx hb hr (fun t ht hW => ⟨⟨0, Y, rfl, e1, by rw [ht]; exact hP, va_K.moved hW.alike hK, hD⟩, hS.F ht⟩) hS.2.2 d_Rd_scan_128
    · have h := lf_f h c_16
      refine lv_bipush (v := 6) hx hb d_Rd_scan_122 (by decide) ?_
      refine lv_goto (tgt := 128) hx hb d_Rd_scan_124 (by decide) ?_
      rw [hQ]
      have e1 : (6 : Int32) = r := congrArg (fun z => z.1) (Option.some.inj h)
      have e2 : G = G' := congrArg (fun z => z.2.1) (Option.some.inj h)
      have e3 : S_15 = S' := congrArg (fun z => z.2.2) (Option.some.inj h)
      have hP := ly_newP3 e2.symm e3.symm hP
      have hD := ly_newD3 e2.symm e3.symm hD
      refine W.widen (k := G'.gc - G0.gc) (n := G'.gs - G0.gs) (ly_wc e2) (ly_ws e2) ?_
      exact W.iret (v := 6) hx hb hr (fun t ht hW => ⟨⟨6, Y, rfl, e1, by rw [ht]; exact hP, va_K.moved hW.alike hK, hD⟩, hS.F ht⟩) hS.2.2 d_Rd_scan_128
  have hB_64 : ∀ (k : Nat), ∀ (y_1 : Int32) (y_2 : Int32) (Y : CT) (G : CG) (S : CS) (H : Heap) (locs : List Loc) (ls : Array Slot), f_Rd_scan_64 K k y_1 y_2 G S = some (r, G', S') → CG.le G0 G → va_P (dC, dI) classes (wV M Y G S) H → va_D A (wV M Y G S) → va_S A s.heap H locs → lv_has ls 4 [(0, .ref M.o_Rd), (1, .int y_1), (2, .int y_2)] → W p l e ({ frames := 6, cells := G'.gc - G0.gc, slots := G'.gs - G0.gs, locals := 181 }) s m ([.ref M.o_Rd, .int p0] : List Value).toArray below meth c H locs (G.gc - G0.gc) (G.gs - G0.gs) Q (F0 m 64 ls []) := by
    intro k
    induction k with
    | zero => intro y_1 y_2 Y G S H locs ls h; exact lf_no h
    | succ k hr_64 =>
      intro y_1 y_2 Y G S H locs ls h m0 hP hD hS hl
      have mF := mo_Rd_scan_64 (k + 1) y_1 y_2 G S h
      have hm_64 : ∀ (y_1 : Int32) (y_2 : Int32) (G : CG) (S : CS) {x : Int32} {G1 : CG} {S1 : CS}, f_Rd_scan_64 K k y_1 y_2 G S = some (x, G1, S1) → CG.le G G1 := fun y_1 y_2 G S => mo_Rd_scan_64 k y_1 y_2 G S
      rw [f_Rd_scan_64] at h
      refine lv_iload_n hx hb d_Rd_scan_64 rfl (lv_at hl 2 rfl) ?_
      refine lv_ldc (v := 1000000) hx hb hown (hts _ (u_Vq_Rd _ k_Rd_26)) d_Rd_scan_65 ?_
      refine lv_icmp_ge (tgt := 115) hx hb d_Rd_scan_67 (by decide) (fun c_10 => ?_) (fun c_10 => ?_)
      · have h := lf_t h c_10
        exact hB_115 Y G S _ _ _ h m0 hP hD hS (lv_sub hl [0] rfl)
      · have h := lf_f h c_10
        refine lv_iload_n hx hb d_Rd_scan_70 rfl (lv_at hl 2 rfl) ?_
        refine lv_aload_n hx hb d_Rd_scan_71 rfl (lv_at hl 0 rfl) ?_
        refine va_get (D := (dC, dI)) (ci := 7) (v := .ref M.o_Tr) (C := R_Rd) (T := F_Rd) (N := 10) hx hb hts (fun w h => u_Vq_Rd w (i_Rd w h)) hown hK hP 5 rfl rfl 2 (by decide) (hts _ (u_Vq_Rd _ k_Rd_12)) (fun _ h9 => h9) rfl d_Rd_scan_72 ?_
        refine va_get (D := (dC, dI)) (ci := 5) (v := .int S.v_Tr_count) (C := R_Tr) (T := F_Tr) (N := 18) hx hb hts (fun w h => u_Vq_Tr w (i_Tr w h)) hown hK hP 4 rfl rfl 0 (by decide) (hts _ (u_Vq_Rd _ k_Rd_3)) (fun _ h9 => h9) rfl d_Rd_scan_75 ?_
        refine lv_icmp_ge (tgt := 115) hx hb d_Rd_scan_78 (by decide) (fun c_11 => ?_) (fun c_11 => ?_)
        · have h := lf_t h c_11
          exact hB_115 Y G S _ _ _ h m0 hP hD hS (lv_sub hl [0] rfl)
        · have h := lf_f h c_11
          refine lv_aload_n hx hb d_Rd_scan_81 rfl (lv_at hl 0 rfl) ?_
          refine va_get (D := (dC, dI)) (ci := 7) (v := .ref M.o_Tr) (C := R_Rd) (T := F_Rd) (N := 10) hx hb hts (fun w h => u_Vq_Rd w (i_Rd w h)) hown hK hP 5 rfl rfl 2 (by decide) (hts _ (u_Vq_Rd _ k_Rd_12)) (fun _ h9 => h9) rfl d_Rd_scan_82 ?_
          refine lv_iload_n hx hb d_Rd_scan_85 rfl (lv_at hl 2 rfl) ?_
          obtain ⟨r_12, S_12, hc_12, h⟩ := lf_cE h
          have hFc := lx_free hD hS hA
          refine va_calli (va_runV (As := [.int y_2]) (rest := []) ⟨hx, hb, hml, hown, hts⟩ (l_Tr_isDirectory l dC dI X _ hc_12) (cwV 1 hts (gwV good_Vq (u_Vq_Rd _ k_Rd_27) (u_Vq_Tr _ k_Tr_42) (u_Vq_Tr _ k_Tr_43) (u_Vq_Tr _ k_Tr_0) (wcs (u_Vq_Tr _ k_Tr_44) (fun _ h => h))) rfl rfl rfl (by decide +kernel) ⟨Nat.le_of_ble_eq_true rfl, Nat.le_of_ble_eq_true rfl⟩) (pv_ofE (X.same _) (fun U z1 z2 => X.mono _ _ U hFc (hEw _ _ hS U z1 z2)) hP hK hD (va_recv hK hP (ci := 5) (q0 := 4) rfl rfl)) rfl rfl hl.1 rfl (lv_room (Nat.le_of_ble_eq_true rfl)) d_Rd_scan_86 ⟨ly_c0 mF.1, ly_c0 mF.2⟩) hS (fun q _ h => hFc q h) hFc (fun r_ u t H locs ht hvm hw hB hz1 hk1 hS => ?_)
          rw [hw]
          obtain ⟨hP, -, hD⟩ := hB
          rw [ht] at hP
          have hD := lx_dj hD hFc
          refine lv_if_eq (tgt := 101) hx hb d_Rd_scan_89 (by decide) (fun c_13 => ?_) (fun c_13 => ?_)
          · have h := lf_t h c_13
            refine lv_iconst (v := 0) hx hb d_Rd_scan_101 (by decide) ?_
            exact hB_102 _ hr_64 hm_64 y_1 y_2 0 Y G S_12 _ _ _ h m0 hP hD hS (lv_sub hl [0, 1, 2] rfl)
          · have h := lf_f h c_13
            refine lv_aload_n hx hb d_Rd_scan_92 rfl (lv_at hl 0 rfl) ?_
            refine lv_iload_n hx hb d_Rd_scan_93 rfl (lv_at hl 2 rfl) ?_
            refine lv_iload_n hx hb d_Rd_scan_94 rfl (lv_at hl 1 rfl) ?_
            obtain ⟨r_14, G_14, S_14, hc_14, h⟩ := lf_nE h
            have mc := mo_Rd_readDirectory hc_14
            have ml_14 := mo_Rd_readDirectory hc_14
            have mF1 := mo_Rd_scan_98 hm_64 h
            have hFc := lx_free hD hS hA
            refine va_calli (va_runV (As := [.int y_2, .int y_1]) (rest := []) ⟨hx, hb, hml, hown, hts⟩ (l_Rd_readDirectory l dC dI X _ hc_14) (cwV 2 hts (gwV good_Vq (u_Vq_Rd _ k_Rd_28) (u_Vq_Rd _ k_Rd_29) (u_Vq_Rd _ k_Rd_99) (u_Vq_Rd _ k_Rd_0) (wcs (u_Vq_Rd _ k_Rd_30) (fun _ h => h))) rfl rfl rfl (by decide +kernel) ⟨Nat.le_of_ble_eq_true rfl, Nat.le_of_ble_eq_true rfl⟩) (pv_ofE (X.same _) (fun U z1 z2 => X.mono _ _ U hFc (hEw _ _ hS U z1 z2)) hP hK hD (va_recv hK hP (ci := 7) (q0 := 5) rfl rfl)) rfl rfl hl.1 rfl (lv_room (Nat.le_of_ble_eq_true rfl)) d_Rd_scan_95 ⟨ly_c1 m0.1 mc.1 mF1.1, ly_c1 m0.2 mc.2 mF1.2⟩) hS (fun q _ h => hFc q h) hFc (fun r_ Y_14 t H locs ht hvm hw hB hz1 hk1 hS => ?_)
            rw [hw]
            obtain ⟨hP, -, hD⟩ := hB
            rw [ht] at hP
            have hD := lx_dj hD hFc
            refine W.widen (k := G_14.gc - G0.gc) (n := G_14.gs - G0.gs) (ly_c2 m0.1 mc.1) (ly_c2 m0.2 mc.2) ?_
            have m0 := CG.le_tr m0 mc
            exact hB_98 _ hr_64 hm_64 y_1 y_2 r_14 Y_14 G_14 S_14 _ _ _ h m0 hP hD hS (lv_sub hl [0, 1, 2] rfl)
  have hB_62 : ∀ (y_1 : Int32) (Y : CT) (G : CG) (S : CS) (H : Heap) (locs : List Loc) (ls : Array Slot), f_Rd_scan_62 K y_1 G S = some (r, G', S') → CG.le G0 G → va_P (dC, dI) classes (wV M Y G S) H → va_D A (wV M Y G S) → va_S A s.heap H locs → lv_has ls 4 [(0, .ref M.o_Rd), (1, .int y_1)] → W p l e ({ frames := 6, cells := G'.gc - G0.gc, slots := G'.gs - G0.gs, locals := 181 }) s m ([.ref M.o_Rd, .int p0] : List Value).toArray below meth c H locs (G.gc - G0.gc) (G.gs - G0.gs) Q (F0 m 62 ls []) := by
    intro y_1 Y G S H locs ls h m0 hP hD hS hl
    have mF := mo_Rd_scan_62 h
    rw [f_Rd_scan_62] at h
    refine lv_iconst (v := 0) hx hb d_Rd_scan_62 (by decide) ?_
    refine lv_istore_n (lv' := [(2, .int 0), (0, .ref M.o_Rd), (1, .int y_1)]) hx hb d_Rd_scan_63 rfl hl (by decide) rfl (fun ls hl => ?_)
    exact hB_64 K y_1 0 Y G S _ _ _ h m0 hP hD hS (lv_sub hl [1, 2, 0] rfl)
  have hB_26 : ∀ (k : Nat), ∀ (y_1 : Int32) (y_2 : Int32) (Y : CT) (G : CG) (S : CS) (H : Heap) (locs : List Loc) (ls : Array Slot), f_Rd_scan_26 K k y_1 y_2 G S = some (r, G', S') → CG.le G0 G → va_P (dC, dI) classes (wV M Y G S) H → va_D A (wV M Y G S) → va_S A s.heap H locs → lv_has ls 4 [(0, .ref M.o_Rd), (1, .int y_1), (2, .int y_2)] → W p l e ({ frames := 6, cells := G'.gc - G0.gc, slots := G'.gs - G0.gs, locals := 181 }) s m ([.ref M.o_Rd, .int p0] : List Value).toArray below meth c H locs (G.gc - G0.gc) (G.gs - G0.gs) Q (F0 m 26 ls []) := by
    intro k
    induction k with
    | zero => intro y_1 y_2 Y G S H locs ls h; exact lf_no h
    | succ k hr_26 =>
      intro y_1 y_2 Y G S H locs ls h m0 hP hD hS hl
      have mF := mo_Rd_scan_26 (k + 1) y_1 y_2 G S h
      have hm_26 : ∀ (y_1 : Int32) (y_2 : Int32) (G : CG) (S : CS) {x : Int32} {G1 : CG} {S1 : CS}, f_Rd_scan_26 K k y_1 y_2 G S = some (x, G1, S1) → CG.le G G1 := fun y_1 y_2 G S => mo_Rd_scan_26 k y_1 y_2 G S
      rw [f_Rd_scan_26] at h
      refine lv_iload_n hx hb d_Rd_scan_26 rfl (lv_at hl 2 rfl) ?_
      refine lv_aload_n hx hb d_Rd_scan_27 rfl (lv_at hl 0 rfl) ?_
      refine va_get (D := (dC, dI)) (ci := 7) (v := .ref M.a_Rd_taken) (C := R_Rd) (T := F_Rd) (N := 10) hx hb hts (fun w h => u_Vq_Rd w (i_Rd w h)) hown hK hP 5 rfl rfl 3 (by decide) (hts _ (u_Vq_Rd _ k_Rd_13)) (fun _ h9 => h9) rfl d_Rd_scan_28 ?_
      refine va_alen (v := nI (G.n / 2 + 2)) hx hb hK hP 32 1 rfl rfl rfl d_Rd_scan_31 ?_
      refine lv_icmp_ge (tgt := 48) hx hb d_Rd_scan_32 (by decide) (fun c_5 => ?_) (fun c_5 => ?_)
      · have h := lf_t h c_5
        refine lv_aload_n hx hb d_Rd_scan_48 rfl (lv_at hl 0 rfl) ?_
        refine va_get (D := (dC, dI)) (ci := 7) (v := .ref M.o_Tr) (C := R_Rd) (T := F_Rd) (N := 10) hx hb hts (fun w h => u_Vq_Rd w (i_Rd w h)) hown hK hP 5 rfl rfl 2 (by decide) (hts _ (u_Vq_Rd _ k_Rd_12)) (fun _ h9 => h9) rfl d_Rd_scan_49 ?_
        refine lv_aload_n hx hb d_Rd_scan_52 rfl (lv_at hl 0 rfl) ?_
        refine va_get (D := (dC, dI)) (ci := 7) (v := .ref M.o_Tb) (C := R_Rd) (T := F_Rd) (N := 10) hx hb hts (fun w h => u_Vq_Rd w (i_Rd w h)) hown hK hP 5 rfl rfl 1 (by decide) (hts _ (u_Vq_Rd _ k_Rd_11)) (fun _ h9 => h9) rfl d_Rd_scan_53 ?_
        refine va_get (D := (dC, dI)) (ci := 4) (v := .int S.v_Tb_root) (C := R_Tb) (T := F_Tb) (N := 10) hx hb hts (fun w h => u_Vq_Tb w (i_Tb w h)) hown hK hP 3 rfl rfl 5 (by decide) (hts _ (u_Vq_Rd _ k_Rd_1)) (fun _ h9 => h9) rfl d_Rd_scan_56 ?_
        obtain ⟨r_6, G_6, S_6, hc_6, h⟩ := lf_nE h
        have mc := mo_Tr_startWith hc_6
        have ml_6 := mo_Tr_startWith hc_6
        have mF1 := mo_Rd_scan_62 h
        have hFc := lx_free hD hS hA
        refine va_callv (va_runV (As := [.int S.v_Tb_root]) (rest := []) ⟨hx, hb, hml, hown, hts⟩ (l_Tr_startWith l dC dI X _ hc_6) (cwV 1 hts (gwV good_Vq (u_Vq_Rd _ k_Rd_25) (u_Vq_Tr _ k_Tr_23) (u_Vq_Tr _ k_Tr_24) (u_Vq_Tr _ k_Tr_0) (wcs (u_Vq_Tr _ k_Tr_25) (fun _ h => h))) rfl rfl rfl (by decide +kernel) ⟨Nat.le_of_ble_eq_true rfl, Nat.le_of_ble_eq_true rfl⟩) (pv_ofE (X.same _) (fun U z1 z2 => X.mono _ _ U hFc (hEw _ _ hS U z1 z2)) hP hK hD (va_recv hK hP (ci := 5) (q0 := 4) rfl rfl)) rfl rfl hl.1 rfl (lv_room (Nat.le_of_ble_eq_true rfl)) d_Rd_scan_59 ⟨ly_c1 m0.1 mc.1 mF1.1, ly_c1 m0.2 mc.2 mF1.2⟩) hS (fun q _ h => hFc q h) hFc (fun Y_6 t H locs ht hvm hw hB hz1 hk1 hS => ?_)
        obtain ⟨hP, -, hD⟩ := hB
        rw [ht] at hP
        have hD := lx_dj hD hFc
        refine W.widen (k := G_6.gc - G0.gc) (n := G_6.gs - G0.gs) (ly_c2 m0.1 mc.1) (ly_c2 m0.2 mc.2) ?_
        have m0 := CG.le_tr m0 mc
        exact hB_62 y_1 Y_6 G_6 S_6 _ _ _ h m0 hP hD hS (lv_sub hl [0, 1] rfl)
      · have h := lf_f h c_5
        refine lv_aload_n hx hb d_Rd_scan_35 rfl (lv_at hl 0 rfl) ?_
        refine va_get (D := (dC, dI)) (ci := 7) (v := .ref M.a_Rd_taken) (C := R_Rd) (T := F_Rd) (N := 10) hx hb hts (fun w h => u_Vq_Rd w (i_Rd w h)) hown hK hP 5 rfl rfl 3 (by decide) (hts _ (u_Vq_Rd _ k_Rd_13)) (fun _ h9 => h9) rfl d_Rd_scan_36 ?_
        refine lv_iload_n hx hb d_Rd_scan_39 rfl (lv_at hl 2 rfl) ?_
        refine lv_iconst (v := 0) hx hb d_Rd_scan_40 (by decide) ?_
        obtain ⟨g_7, h⟩ := lf_gE h
        refine va_zast hx hb hK hP hD hS 32 1 rfl rfl g_7 d_Rd_scan_41 (fun H locs hP hD hS => ?_)
        obtain ⟨S_8, eS_8, h⟩ := lf_lX h
        have hP := ly_newP eS_8 hP
        have hD := ly_newD eS_8 hD
        obtain ⟨x_9, ex_9, h⟩ := lf_lX h
        refine lv_iinc (v := x_9) (lv' := [(2, .int x_9), (0, .ref M.o_Rd), (1, .int y_1)]) hx hb d_Rd_scan_42 hl (k := 2) rfl (by rw [ex_9]; rfl) (by decide) rfl (fun ls hl => ?_)
        refine lv_goto (tgt := 26) hx hb d_Rd_scan_45 (by decide) ?_
        exact hr_26 y_1 x_9 Y G S_8 _ _ _ h m0 hP hD hS (lv_sub hl [1, 2, 0] rfl)
  have m0 : CG.le G0 G0 := ⟨Nat.le_refl _, Nat.le_refl _⟩
  have mF := mo_Rd_scan h
  refine W.widen (k := G0.gc - G0.gc) (n := G0.gs - G0.gs) (Nat.zero_le _) (Nat.zero_le _) ?_
  rw [f_Rd_scan] at h
  refine lv_aload_n hx hb d_Rd_scan_0 rfl (lv_at hl 0 rfl) ?_
  refine va_get (D := (dC, dI)) (ci := 7) (v := .ref M.o_Tb) (C := R_Rd) (T := F_Rd) (N := 10) hx hb hts (fun w h => u_Vq_Rd w (i_Rd w h)) hown hK hP 5 rfl rfl 1 (by decide) (hts _ (u_Vq_Rd _ k_Rd_11)) (fun _ h9 => h9) rfl d_Rd_scan_1 ?_
  obtain ⟨r_1, S_1, hc_1, h⟩ := lf_cE h
  have hFc := lx_free hD hS hA
  refine va_calli (va_runV (As := []) (rest := []) ⟨hx, hb, hml, hown, hts⟩ (l_Tb_read l dC dI X _ hc_1) (cwV 0 hts (gwV good_Vq (u_Vq_Rd _ k_Rd_23) (u_Vq_Tb _ k_Tb_19) (u_Vq_Tb _ k_Tb_20) (u_Vq_Tb _ k_Tb_0) (wcs (u_Vq_Tb _ k_Tb_21) (fun _ h => h))) rfl rfl rfl (by decide +kernel) ⟨Nat.le_of_ble_eq_true rfl, Nat.le_of_ble_eq_true rfl⟩) (pv_ofE (X.same _) (fun U z1 z2 => X.mono _ _ U hFc (hEw _ _ hS U z1 z2)) hP hK hD (va_recv hK hP (ci := 4) (q0 := 3) rfl rfl)) rfl rfl hl.1 rfl (lv_room (Nat.le_of_ble_eq_true rfl)) d_Rd_scan_4 ⟨ly_c0 mF.1, ly_c0 mF.2⟩) hS (fun q _ h => hFc q h) hFc (fun r_ u t H locs ht hvm hw hB hz1 hk1 hS => ?_)
  rw [hw]
  obtain ⟨hP, -, hD⟩ := hB
  rw [ht] at hP
  have hD := lx_dj hD hFc
  refine lv_if_ne (tgt := 12) hx hb d_Rd_scan_7 (by decide) (fun c_2 => ?_) (fun c_2 => ?_)
  · have h := lf_f h c_2
    refine lv_aload_n hx hb d_Rd_scan_12 rfl (lv_at hl 0 rfl) ?_
    refine va_get (D := (dC, dI)) (ci := 7) (v := .ref M.o_Tb) (C := R_Rd) (T := F_Rd) (N := 10) hx hb hts (fun w h => u_Vq_Rd w (i_Rd w h)) hown hK hP 5 rfl rfl 1 (by decide) (hts _ (u_Vq_Rd _ k_Rd_11)) (fun _ h9 => h9) rfl d_Rd_scan_13 ?_
    obtain ⟨r_3, S_3, hc_3, h⟩ := lf_cE h
    have hFc := lx_free hD hS hA
    refine va_calli (va_runV (As := []) (rest := []) ⟨hx, hb, hml, hown, hts⟩ (l_Tb_entriesFit l dC dI X _ hc_3) (cwV 0 hts (gwV good_Vq (u_Vq_Rd _ k_Rd_24) (u_Vq_Tb _ k_Tb_39) (u_Vq_Tb _ k_Tb_40) (u_Vq_Tb _ k_Tb_0) (wcs (u_Vq_Tb _ k_Tb_41) (fun _ h => h))) rfl rfl rfl (by decide +kernel) ⟨Nat.le_of_ble_eq_true rfl, Nat.le_of_ble_eq_true rfl⟩) (pv_ofE (X.same _) (fun U z1 z2 => X.mono _ _ U hFc (hEw _ _ hS U z1 z2)) hP hK hD (va_recv hK hP (ci := 4) (q0 := 3) rfl rfl)) rfl rfl hl.1 rfl (lv_room (Nat.le_of_ble_eq_true rfl)) d_Rd_scan_16 ⟨ly_c0 mF.1, ly_c0 mF.2⟩) hS (fun q _ h => hFc q h) hFc (fun r_ u t H locs ht hvm hw hB hz1 hk1 hS => ?_)
    rw [hw]
    obtain ⟨hP, -, hD⟩ := hB
    rw [ht] at hP
    have hD := lx_dj hD hFc
    refine lv_if_ne (tgt := 24) hx hb d_Rd_scan_19 (by decide) (fun c_4 => ?_) (fun c_4 => ?_)
    · have h := lf_f h c_4
      refine lv_iconst (v := 0) hx hb d_Rd_scan_24 (by decide) ?_
      refine lv_istore_n (lv' := [(2, .int 0), (0, .ref M.o_Rd), (1, .int p0)]) hx hb d_Rd_scan_25 rfl hl (by decide) rfl (fun ls hl => ?_)
      exact hB_26 K p0 0 Y G0 S_3 _ _ _ h m0 hP hD hS (lv_sub hl [1, 2, 0] rfl)
    · have h := lf_t h c_4
      refine lv_iconst (v := 2) hx hb d_Rd_scan_22 (by decide) ?_
      rw [hQ]
      have e1 : (2 : Int32) = r := congrArg (fun z => z.1) (Option.some.inj h)
      have e2 : G0 = G' := congrArg (fun z => z.2.1) (Option.some.inj h)
      have e3 : S_3 = S' := congrArg (fun z => z.2.2) (Option.some.inj h)
      have hP := ly_newP3 e2.symm e3.symm hP
      have hD := ly_newD3 e2.symm e3.symm hD
      refine W.widen (k := G'.gc - G0.gc) (n := G'.gs - G0.gs) (ly_wc e2) (ly_ws e2) ?_
      exact W.iret (v := 2) hx hb hr (fun t ht hW => ⟨⟨2, Y, rfl, e1, by rw [ht]; exact hP, va_K.moved hW.alike hK, hD⟩, hS.F ht⟩) hS.2.2 d_Rd_scan_23
  · have h := lf_t h c_2
    refine lv_iconst (v := 1) hx hb d_Rd_scan_10 (by decide) ?_
    rw [hQ]
    have e1 : (1 : Int32) = r := congrArg (fun z => z.1) (Option.some.inj h)
    have e2 : G0 = G' := congrArg (fun z => z.2.1) (Option.some.inj h)
    have e3 : S_1 = S' := congrArg (fun z => z.2.2) (Option.some.inj h)
    have hP := ly_newP3 e2.symm e3.symm hP
    have hD := ly_newD3 e2.symm e3.symm hD
    refine W.widen (k := G'.gc - G0.gc) (n := G'.gs - G0.gs) (ly_wc e2) (ly_ws e2) ?_
    exact W.iret (v := 1) hx hb hr (fun t ht hW => ⟨⟨1, Y, rfl, e1, by rw [ht]; exact hP, va_K.moved hW.alike hK, hD⟩, hS.F ht⟩) hS.2.2 d_Rd_scan_11
set_option maxHeartbeats 4000000 in
set_option maxRecDepth 100000 in
theorem l_Tu_turn (l : Launch) (dC : Nat → ClassId) (dI : Nat → Nat → Nat) {K : Nat} {M : CA} {E : (Nat → Prop) → State → Prop} (X : ly_X l dC dI K M E) (sz : Nat) {Y : CT} {G0 G' : CG} {S S' : CS} {p0 : Int32} {p1 : Int32} {r : Int32} (h : f_Tu_turn K G0 S p0 p1 = some (r, G', S')) : Met l y_Tu_turn (.code y_Tu_turn cb_Tu_turn 4 (some .int) :: V_Vq) ({ frames := 11, cells := G'.gc - G0.gc, slots := G'.gs - G0.gs, locals := 317 }) (va_Pc [.ref M.o_Tu, .int p0, .int p1] (fun U => U.heap.size = sz ∧ at_ (dC, dI) (fun _ => True) (wV M Y G0 S) (tV M) U ∧ E (va_A (wV M Y G0 S) sz) U)) (va_Qi (fun (r_ : Int32) (u : CT) => r_ = r) (fun (u : CT) t => at_ (dC, dI) (va_A (wV M Y G0 S) sz) (wV M u G' S') (tV M) t) (va_A (wV M Y G0 S) sz)) (G'.gc - G0.gc) (G'.gs - G0.gs) (va_A (wV M Y G0 S) sz) := by
  refine Met.ofW (cc := cb_Tu_turn) (maxL := 4) (ret := (some .int)) (by decide) rfl ?_
  intro p e s m args below meth c s₁ B hml hv
  obtain ⟨rfl, hsz, ⟨hP, hK, hD0⟩, hE⟩ := hv
  have hx := B.exec
  have hb := B.bytes
  have hr := B.returns
  have hts0 := atoms_spec (ws := .code y_Tu_turn cb_Tu_turn 4 (some .int) :: V_Vq) B.pre
  have hts : ∀ w ∈ V_Vq, w.before ([.ref M.o_Tu, .int p0, .int p1] : List Value).toArray s = true := fun w h => hts0 w (List.mem_cons_of_mem _ h)
  have hown : s.vm.findClass R_Tu = some m.cls := findClass_of_methodNamed B.named
  subst hsz
  have hD := hD0.self (sz := s.heap.size)
  generalize hAe : va_A (wV M Y G0 S) s.heap.size = A at hD hE ⊢
  have hA : ∀ q : Nat, s.heap.size ≤ q → A q := fun q h => by rw [← hAe]; exact Or.inr h
  have hS : va_S A s.heap s.heap [] := va_S.rf
  have hP : va_P (dC, dI) classes (wV M Y G0 S) s.heap := hP
  have hK : va_K (dC, dI) classes (tV M) s := hK
  have hEw : ∀ (H : Heap) (locs : List Loc), va_S A s.heap H locs → ∀ U : State, U.heap = H → s.WarmedH U.vm → E A U := fun H locs hS U hU hW => X.kept A s U H locs hE hS hU hW
  have hl := lv_entry ([.ref M.o_Tu, .int p0, .int p1]) (n := 4) (Nat.le_of_ble_eq_true rfl)
  rw [lg_entry_eq]
  generalize (lg_sl ([.ref M.o_Tu, .int p0, .int p1]) ++ List.replicate (4 - (lg_sl ([.ref M.o_Tu, .int p0, .int p1])).length) Slot.unset).toArray = ls at hl ⊢
  have hl : lv_has ls 4 [(0, .ref M.o_Tu), (1, .int p0), (2, .int p1)] := hl
  refine qabs (fun Q hQ => ?_)
  have hB_109 : ∀ (Y : CT) (G : CG) (S : CS) (H : Heap) (locs : List Loc) (ls : Array Slot), f_Tu_turn_109 K G S = some (r, G', S') → CG.le G0 G → va_P (dC, dI) classes (wV M Y G S) H → va_D A (wV M Y G S) → va_S A s.heap H locs → lv_has ls 4 [] → W p l e ({ frames := 11, cells := G'.gc - G0.gc, slots := G'.gs - G0.gs, locals := 317 }) s m ([.ref M.o_Tu, .int p0, .int p1] : List Value).toArray below meth c H locs (G.gc - G0.gc) (G.gs - G0.gs) Q (F0 m 109 ls []) := by
    intro Y G S H locs ls h m0 hP hD hS hl
    have mF := mo_Tu_turn_109 h
    rw [f_Tu_turn_109] at h
    refine lv_iconst (v := 0) hx hb d_Tu_turn_109 (by decide) ?_
    rw [hQ]
    have e1 : (0 : Int32) = r := congrArg (fun z => z.1) (Option.some.inj h)
    have e2 : G = G' := congrArg (fun z => z.2.1) (Option.some.inj h)
    have e3 : S = S' := congrArg (fun z => z.2.2) (Option.some.inj h)
    have hP := ly_newP3 e2.symm e3.symm hP
    have hD := ly_newD3 e2.symm e3.symm hD
    refine W.widen (k := G'.gc - G0.gc) (n := G'.gs - G0.gs) (ly_wc e2) (ly_ws e2) ?_
    exact W.iret (v := 0) hx hb hr (fun t ht hW => ⟨⟨0, Y, rfl, e1, by rw [ht]; exact hP, va_K.moved hW.alike hK, hD⟩, hS.F ht⟩) hS.2.2 d_Tu_turn_110
  have hB_85 : ∀ (z_0 : Int32) (Y : CT) (G : CG) (S : CS) (H : Heap) (locs : List Loc) (ls : Array Slot), f_Tu_turn_85 K z_0 G S = some (r, G', S') → CG.le G0 G → va_P (dC, dI) classes (wV M Y G S) H → va_D A (wV M Y G S) → va_S A s.heap H locs → lv_has ls 4 [(0, .ref M.o_Tu)] → W p l e ({ frames := 11, cells := G'.gc - G0.gc, slots := G'.gs - G0.gs, locals := 317 }) s m ([.ref M.o_Tu, .int p0, .int p1] : List Value).toArray below meth c H locs (G.gc - G0.gc) (G.gs - G0.gs) Q (F0 m 85 ls [.int z_0]) := by
    intro z_0 Y G S H locs ls h m0 hP hD hS hl
    have mF := mo_Tu_turn_85 h
    rw [f_Tu_turn_85] at h
    refine lv_if_ne (tgt := 109) hx hb d_Tu_turn_85 (by decide) (fun c_16 => ?_) (fun c_16 => ?_)
    · have h := lf_f h c_16
      exact hB_109 Y G S _ _ _ h m0 hP hD hS (lv_sub hl [] rfl)
    · have h := lf_t h c_16
      refine lv_aload_n hx hb d_Tu_turn_88 rfl (lv_at hl 0 rfl) ?_
      refine va_get (D := (dC, dI)) (ci := 10) (v := .ref M.o_Pl) (C := R_Tu) (T := F_Tu) (N := 7) hx hb hts (fun w h => u_Vq_Tu w (i_Tu w h)) hown hK hP 8 rfl rfl 4 (by decide) (hts _ (u_Vq_Tu _ k_Tu_21)) (fun _ h9 => h9) rfl d_Tu_turn_89 ?_
      obtain ⟨r_17, S_17, hc_17, h⟩ := lf_cE h
      have hFc := lx_free hD hS hA
      refine va_calli (va_runV (As := []) (rest := []) ⟨hx, hb, hml, hown, hts⟩ (l_Pl_assign l dC dI X _ hc_17) (cwV 0 hts (gwV good_Vq (u_Vq_Tu _ k_Tu_103) (u_Vq_Pl _ k_Pl_86) (u_Vq_Pl _ k_Pl_87) (u_Vq_Pl _ k_Pl_0) (wcs (u_Vq_Pl _ k_Pl_88) (fun _ h => h))) rfl rfl rfl (by decide +kernel) ⟨Nat.le_of_ble_eq_true rfl, Nat.le_of_ble_eq_true rfl⟩) (pv_ofE (X.same _) (fun U z1 z2 => X.mono _ _ U hFc (hEw _ _ hS U z1 z2)) hP hK hD (va_recv hK hP (ci := 9) (q0 := 7) rfl rfl)) rfl rfl hl.1 rfl (lv_room (Nat.le_of_ble_eq_true rfl)) d_Tu_turn_92 ⟨ly_c0 mF.1, ly_c0 mF.2⟩) hS (fun q _ h => hFc q h) hFc (fun r_ u t H locs ht hvm hw hB hz1 hk1 hS => ?_)
      rw [hw]
      obtain ⟨hP, -, hD⟩ := hB
      rw [ht] at hP
      have hD := lx_dj hD hFc
      refine lv_if_eq (tgt := 109) hx hb d_Tu_turn_95 (by decide) (fun c_18 => ?_) (fun c_18 => ?_)
      · have h := lf_t h c_18
        exact hB_109 Y G S_17 _ _ _ h m0 hP hD hS (lv_sub hl [] rfl)
      · have h := lf_f h c_18
        refine lv_aload_n hx hb d_Tu_turn_98 rfl (lv_at hl 0 rfl) ?_
        refine va_get (D := (dC, dI)) (ci := 10) (v := .ref M.o_Pl) (C := R_Tu) (T := F_Tu) (N := 7) hx hb hts (fun w h => u_Vq_Tu w (i_Tu w h)) hown hK hP 8 rfl rfl 4 (by decide) (hts _ (u_Vq_Tu _ k_Tu_21)) (fun _ h9 => h9) rfl d_Tu_turn_99 ?_
        obtain ⟨S_19, hc_19, h⟩ := lf_bE h
        have hFc := lx_free hD hS hA
        refine va_callv (va_runV (As := []) (rest := []) ⟨hx, hb, hml, hown, hts⟩ (l_Pl_markUsed l dC dI X _ hc_19) (cwV 0 hts (gwV good_Vq (u_Vq_Tu _ k_Tu_104) (u_Vq_Pl _ k_Pl_132) (u_Vq_Pl _ k_Pl_133) (u_Vq_Pl _ k_Pl_0) (wcs (u_Vq_Pl _ k_Pl_134) (fun _ h => h))) rfl rfl rfl (by decide +kernel) ⟨Nat.le_of_ble_eq_true rfl, Nat.le_of_ble_eq_true rfl⟩) (pv_ofE (X.same _) (fun U z1 z2 => X.mono _ _ U hFc (hEw _ _ hS U z1 z2)) hP hK hD (va_recv hK hP (ci := 9) (q0 := 7) rfl rfl)) rfl rfl hl.1 rfl (lv_room (Nat.le_of_ble_eq_true rfl)) d_Tu_turn_102 ⟨ly_c0 mF.1, ly_c0 mF.2⟩) hS (fun q _ h => hFc q h) hFc (fun u t H locs ht hvm hw hB hz1 hk1 hS => ?_)
        obtain ⟨hP, -, hD⟩ := hB
        rw [ht] at hP
        have hD := lx_dj hD hFc
        refine lv_aload_n hx hb d_Tu_turn_105 rfl (lv_at hl 0 rfl) ?_
        obtain ⟨S_20, hc_20, h⟩ := lf_bE h
        have hFc := lx_free hD hS hA
        refine va_callv (va_runV (As := []) (rest := []) ⟨hx, hb, hml, hown, hts⟩ (l_Tu_putFixed l dC dI X _ hc_20) (cwV 0 hts (gwV good_Vq (u_Vq_Tu _ k_Tu_105) (u_Vq_Tu _ k_Tu_106) (u_Vq_Tu _ k_Tu_173) (u_Vq_Tu _ k_Tu_0) (wcs (u_Vq_Tu _ k_Tu_107) (fun _ h => h))) rfl rfl rfl (by decide +kernel) ⟨Nat.le_of_ble_eq_true rfl, Nat.le_of_ble_eq_true rfl⟩) (pv_ofE (X.same _) (fun U z1 z2 => X.mono _ _ U hFc (hEw _ _ hS U z1 z2)) hP hK hD (va_recv hK hP (ci := 10) (q0 := 8) rfl rfl)) rfl rfl hl.1 rfl (lv_room (Nat.le_of_ble_eq_true rfl)) d_Tu_turn_106 ⟨ly_c0 mF.1, ly_c0 mF.2⟩) hS (fun q _ h => hFc q h) hFc (fun u t H locs ht hvm hw hB hz1 hk1 hS => ?_)
        obtain ⟨hP, -, hD⟩ := hB
        rw [ht] at hP
        have hD := lx_dj hD hFc
        exact hB_109 Y G S_20 _ _ _ h m0 hP hD hS (lv_sub hl [] rfl)
  have hB_60 : ∀ (Y : CT) (G : CG) (S : CS) (H : Heap) (locs : List Loc) (ls : Array Slot), f_Tu_turn_60 K G S = some (r, G', S') → CG.le G0 G → va_P (dC, dI) classes (wV M Y G S) H → va_D A (wV M Y G S) → va_S A s.heap H locs → lv_has ls 4 [(0, .ref M.o_Tu)] → W p l e ({ frames := 11, cells := G'.gc - G0.gc, slots := G'.gs - G0.gs, locals := 317 }) s m ([.ref M.o_Tu, .int p0, .int p1] : List Value).toArray below meth c H locs (G.gc - G0.gc) (G.gs - G0.gs) Q (F0 m 60 ls []) := by
    intro Y G S H locs ls h m0 hP hD hS hl
    have mF := mo_Tu_turn_60 h
    rw [f_Tu_turn_60] at h
    refine lv_aload_n hx hb d_Tu_turn_60 rfl (lv_at hl 0 rfl) ?_
    refine va_get (D := (dC, dI)) (ci := 10) (v := .ref M.o_Dk) (C := R_Tu) (T := F_Tu) (N := 7) hx hb hts (fun w h => u_Vq_Tu w (i_Tu w h)) hown hK hP 8 rfl rfl 0 (by decide) (hts _ (u_Vq_Tu _ k_Tu_17)) (fun _ h9 => h9) rfl d_Tu_turn_61 ?_
    obtain ⟨r_8, S_8, hc_8, h⟩ := lf_cE h
    have hFc := lx_free hD hS hA
    refine va_calli (va_runV (As := []) (rest := []) ⟨hx, hb, hml, hown, hts⟩ (l_Dk_isOn l dC dI X _ hc_8) (cwV 0 hts (gwV good_Vq (u_Vq_Tu _ k_Tu_43) (u_Vq_Dk _ k_Dk_44) (u_Vq_Dk _ k_Dk_45) (u_Vq_Dk _ k_Dk_0) (wcs (u_Vq_Dk _ k_Dk_46) (fun _ h => h))) rfl rfl rfl (by decide +kernel) ⟨Nat.le_of_ble_eq_true rfl, Nat.le_of_ble_eq_true rfl⟩) (pv_ofE (X.same _) (fun U z1 z2 => X.mono _ _ U hFc (hEw _ _ hS U z1 z2)) hP hK hD (va_recv hK hP (ci := 0) (q0 := 1) rfl rfl)) rfl rfl hl.1 rfl (lv_room (Nat.le_of_ble_eq_true rfl)) d_Tu_turn_64 ⟨ly_c0 mF.1, ly_c0 mF.2⟩) hS (fun q _ h => hFc q h) hFc (fun r_ u t H locs ht hvm hw hB hz1 hk1 hS => ?_)
    rw [hw]
    obtain ⟨hP, -, hD⟩ := hB
    rw [ht] at hP
    have hD := lx_dj hD hFc
    refine lv_if_eq (tgt := 109) hx hb d_Tu_turn_67 (by decide) (fun c_9 => ?_) (fun c_9 => ?_)
    · have h := lf_t h c_9
      exact hB_109 Y G S_8 _ _ _ h m0 hP hD hS (lv_sub hl [] rfl)
    · have h := lf_f h c_9
      refine lv_aload_n hx hb d_Tu_turn_70 rfl (lv_at hl 0 rfl) ?_
      obtain ⟨r_10, S_10, hc_10, h⟩ := lf_cE h
      have hFc := lx_free hD hS hA
      refine va_calli (va_runV (As := []) (rest := []) ⟨hx, hb, hml, hown, hts⟩ (l_Tu_recall l dC dI X _ hc_10) (cwV 0 hts (gwV good_Vq (u_Vq_Tu _ k_Tu_30) (u_Vq_Tu _ k_Tu_31) (u_Vq_Tu _ k_Tu_158) (u_Vq_Tu _ k_Tu_0) (wcs (u_Vq_Tu _ k_Tu_32) (fun _ h => h))) rfl rfl rfl (by decide +kernel) ⟨Nat.le_of_ble_eq_true rfl, Nat.le_of_ble_eq_true rfl⟩) (pv_ofE (X.same _) (fun U z1 z2 => X.mono _ _ U hFc (hEw _ _ hS U z1 z2)) hP hK hD (va_recv hK hP (ci := 10) (q0 := 8) rfl rfl)) rfl rfl hl.1 rfl (lv_room (Nat.le_of_ble_eq_true rfl)) d_Tu_turn_71 ⟨ly_c0 mF.1, ly_c0 mF.2⟩) hS (fun q _ h => hFc q h) hFc (fun r_ u t H locs ht hvm hw hB hz1 hk1 hS => ?_)
      rw [hw]
      obtain ⟨hP, -, hD⟩ := hB
      rw [ht] at hP
      have hD := lx_dj hD hFc
      refine lv_if_eq (tgt := 109) hx hb d_Tu_turn_74 (by decide) (fun c_11 => ?_) (fun c_11 => ?_)
      · have h := lf_t h c_11
        exact hB_109 Y G S_10 _ _ _ h m0 hP hD hS (lv_sub hl [] rfl)
      · have h := lf_f h c_11
        refine lv_aload_n hx hb d_Tu_turn_77 rfl (lv_at hl 0 rfl) ?_
        refine va_get (D := (dC, dI)) (ci := 10) (v := .ref M.o_Rd) (C := R_Tu) (T := F_Tu) (N := 7) hx hb hts (fun w h => u_Vq_Tu w (i_Tu w h)) hown hK hP 8 rfl rfl 3 (by decide) (hts _ (u_Vq_Tu _ k_Tu_20)) (fun _ h9 => h9) rfl d_Tu_turn_78 ?_
        refine lv_iconst (v := 1) hx hb d_Tu_turn_81 (by decide) ?_
        obtain ⟨r_12, G_12, S_12, hc_12, h⟩ := lf_nE h
        have mc := mo_Rd_scan hc_12
        have ml_12 := mo_Rd_scan hc_12
        have mF1 := mo_Tu_turn_85 h
        have hFc := lx_free hD hS hA
        refine va_calli (va_runV (As := [.int 1]) (rest := []) ⟨hx, hb, hml, hown, hts⟩ (l_Rd_scan l dC dI X _ hc_12) (cwV 1 hts (gwV good_Vq (u_Vq_Tu _ k_Tu_49) (u_Vq_Rd _ k_Rd_20) (u_Vq_Rd _ k_Rd_21) (u_Vq_Rd _ k_Rd_0) (wcs (u_Vq_Rd _ k_Rd_22) (fun _ h => h))) rfl rfl rfl (by decide +kernel) ⟨Nat.le_of_ble_eq_true rfl, Nat.le_of_ble_eq_true rfl⟩) (pv_ofE (X.same _) (fun U z1 z2 => X.mono _ _ U hFc (hEw _ _ hS U z1 z2)) hP hK hD (va_recv hK hP (ci := 7) (q0 := 5) rfl rfl)) rfl rfl hl.1 rfl (lv_room (Nat.le_of_ble_eq_true rfl)) d_Tu_turn_82 ⟨ly_c1 m0.1 mc.1 mF1.1, ly_c1 m0.2 mc.2 mF1.2⟩) hS (fun q _ h => hFc q h) hFc (fun r_ Y_12 t H locs ht hvm hw hB hz1 hk1 hS => ?_)
        rw [hw]
        obtain ⟨hP, -, hD⟩ := hB
        rw [ht] at hP
        have hD := lx_dj hD hFc
        refine W.widen (k := G_12.gc - G0.gc) (n := G_12.gs - G0.gs) (ly_c2 m0.1 mc.1) (ly_c2 m0.2 mc.2) ?_
        have m0 := CG.le_tr m0 mc
        exact hB_85 r_12 Y_12 G_12 S_12 _ _ _ h m0 hP hD hS (lv_sub hl [0] rfl)
  have hB_46 : ∀ (z_1 : Int32) (z_2 : Int32) (Y : CT) (G : CG) (S : CS) (H : Heap) (locs : List Loc) (ls : Array Slot), f_Tu_turn_46 K z_1 z_2 G S = some (r, G', S') → CG.le G0 G → va_P (dC, dI) classes (wV M Y G S) H → va_D A (wV M Y G S) → va_S A s.heap H locs → lv_has ls 4 [(0, .ref M.o_Tu)] → W p l e ({ frames := 11, cells := G'.gc - G0.gc, slots := G'.gs - G0.gs, locals := 317 }) s m ([.ref M.o_Tu, .int p0, .int p1] : List Value).toArray below meth c H locs (G.gc - G0.gc) (G.gs - G0.gs) Q (F0 m 46 ls [.int z_2, .int z_1, .ref M.o_Pl]) := by
    intro z_1 z_2 Y G S H locs ls h m0 hP hD hS hl
    have mF := mo_Tu_turn_46 h
    rw [f_Tu_turn_46] at h
    obtain ⟨r_13, S_13, hc_13, h⟩ := lf_cE h
    have hFc := lx_free hD hS hA
    refine va_calli (va_runV (As := [.int z_1, .int z_2]) (rest := []) ⟨hx, hb, hml, hown, hts⟩ (l_Pl_refusal l dC dI X _ hc_13) (cwV 2 hts (gwV good_Vq (u_Vq_Tu _ k_Tu_50) (u_Vq_Pl _ k_Pl_28) (u_Vq_Pl _ k_Pl_29) (u_Vq_Pl _ k_Pl_0) (wcs (u_Vq_Pl _ k_Pl_30) (fun _ h => h))) rfl rfl rfl (by decide +kernel) ⟨Nat.le_of_ble_eq_true rfl, Nat.le_of_ble_eq_true rfl⟩) (pv_ofE (X.same _) (fun U z1 z2 => X.mono _ _ U hFc (hEw _ _ hS U z1 z2)) hP hK hD (va_recv hK hP (ci := 9) (q0 := 7) rfl rfl)) rfl rfl hl.1 rfl (lv_room (Nat.le_of_ble_eq_true rfl)) d_Tu_turn_46 ⟨ly_c0 mF.1, ly_c0 mF.2⟩) hS (fun q _ h => hFc q h) hFc (fun r_ u t H locs ht hvm hw hB hz1 hk1 hS => ?_)
    rw [hw]
    obtain ⟨hP, -, hD⟩ := hB
    rw [ht] at hP
    have hD := lx_dj hD hFc
    refine lv_istore_n (lv' := [(3, .int r_13), (0, .ref M.o_Tu)]) hx hb d_Tu_turn_49 rfl hl (by decide) rfl (fun ls hl => ?_)
    refine lv_iload_n hx hb d_Tu_turn_50 rfl (lv_at hl 0 rfl) ?_
    refine lv_if_eq (tgt := 56) hx hb d_Tu_turn_51 (by decide) (fun c_14 => ?_) (fun c_14 => ?_)
    · have h := lf_t h c_14
      refine lv_aload_n hx hb d_Tu_turn_56 rfl (lv_at hl 1 rfl) ?_
      obtain ⟨S_15, hc_15, h⟩ := lf_bE h
      have hFc := lx_free hD hS hA
      refine va_callv (va_runV (As := []) (rest := []) ⟨hx, hb, hml, hown, hts⟩ (l_Tu_prepare l dC dI X _ hc_15) (cwV 0 hts (gwV good_Vq (u_Vq_Tu _ k_Tu_51) (u_Vq_Tu _ k_Tu_52) (u_Vq_Tu _ k_Tu_162) (u_Vq_Tu _ k_Tu_0) (wcs (u_Vq_Tu _ k_Tu_53) (fun _ h => h))) rfl rfl rfl (by decide +kernel) ⟨Nat.le_of_ble_eq_true rfl, Nat.le_of_ble_eq_true rfl⟩) (pv_ofE (X.same _) (fun U z1 z2 => X.mono _ _ U hFc (hEw _ _ hS U z1 z2)) hP hK hD (va_recv hK hP (ci := 10) (q0 := 8) rfl rfl)) rfl rfl hl.1 rfl (lv_room (Nat.le_of_ble_eq_true rfl)) d_Tu_turn_57 ⟨ly_c0 mF.1, ly_c0 mF.2⟩) hS (fun q _ h => hFc q h) hFc (fun u t H locs ht hvm hw hB hz1 hk1 hS => ?_)
      obtain ⟨hP, -, hD⟩ := hB
      rw [ht] at hP
      have hD := lx_dj hD hFc
      exact hB_60 Y G S_15 _ _ _ h m0 hP hD hS (lv_sub hl [1] rfl)
    · have h := lf_f h c_14
      refine lv_iload_n hx hb d_Tu_turn_54 rfl (lv_at hl 0 rfl) ?_
      rw [hQ]
      have e1 : r_13 = r := congrArg (fun z => z.1) (Option.some.inj h)
      have e2 : G = G' := congrArg (fun z => z.2.1) (Option.some.inj h)
      have e3 : S_13 = S' := congrArg (fun z => z.2.2) (Option.some.inj h)
      have hP := ly_newP3 e2.symm e3.symm hP
      have hD := ly_newD3 e2.symm e3.symm hD
      refine W.widen (k := G'.gc - G0.gc) (n := G'.gs - G0.gs) (ly_wc e2) (ly_ws e2) ?_
      exact W.iret (v := r_13) hx hb hr (fun t ht hW => ⟨⟨r_13, Y, rfl, e1, by rw [ht]; exact hP, va_K.moved hW.alike hK, hD⟩, hS.F ht⟩) hS.2.2 d_Tu_turn_55
  have m0 : CG.le G0 G0 := ⟨Nat.le_refl _, Nat.le_refl _⟩
  have mF := mo_Tu_turn h
  refine W.widen (k := G0.gc - G0.gc) (n := G0.gs - G0.gs) (Nat.zero_le _) (Nat.zero_le _) ?_
  rw [f_Tu_turn] at h
  refine lv_iload_n hx hb d_Tu_turn_0 rfl (lv_at hl 1 rfl) ?_
  refine lv_iconst (v := 1) hx hb d_Tu_turn_1 (by decide) ?_
  refine lv_icmp_ne (tgt := 11) hx hb d_Tu_turn_2 (by decide) (fun c_1 => ?_) (fun c_1 => ?_)
  · have h := lf_f h c_1
    refine lv_aload_n hx hb d_Tu_turn_11 rfl (lv_at hl 0 rfl) ?_
    refine va_get (D := (dC, dI)) (ci := 10) (v := .ref M.o_In) (C := R_Tu) (T := F_Tu) (N := 7) hx hb hts (fun w h => u_Vq_Tu w (i_Tu w h)) hown hK hP 8 rfl rfl 5 (by decide) (hts _ (u_Vq_Tu _ k_Tu_22)) (fun _ h9 => h9) rfl d_Tu_turn_12 ?_
    obtain ⟨r_2, S_2, hc_2, h⟩ := lf_cE h
    have hFc := lx_free hD hS hA
    refine va_calli (va_runV (As := []) (rest := []) ⟨hx, hb, hml, hown, hts⟩ (l_In_isThere l dC dI X _ hc_2) (cwV 0 hts (gwV good_Vq (u_Vq_Tu _ k_Tu_48) (u_Vq_In _ k_In_7) (u_Vq_In _ k_In_8) (u_Vq_In _ k_In_0) (wcs (u_Vq_In _ k_In_9) (fun _ h => h))) rfl rfl rfl (by decide +kernel) ⟨Nat.le_of_ble_eq_true rfl, Nat.le_of_ble_eq_true rfl⟩) (pv_ofE (X.same _) (fun U z1 z2 => X.mono _ _ U hFc (hEw _ _ hS U z1 z2)) hP hK hD (va_recv hK hP (ci := 6) (q0 := 9) rfl rfl)) rfl rfl hl.1 rfl (lv_room (Nat.le_of_ble_eq_true rfl)) d_Tu_turn_15 ⟨ly_c0 mF.1, ly_c0 mF.2⟩) hS (fun q _ h => hFc q h) hFc (fun r_ u t H locs ht hvm hw hB hz1 hk1 hS => ?_)
    rw [hw]
    obtain ⟨hP, -, hD⟩ := hB
    rw [ht] at hP
    have hD := lx_dj hD hFc
    refine lv_if_eq (tgt := 23) hx hb d_Tu_turn_18 (by decide) (fun c_3 => ?_) (fun c_3 => ?_)
    · have h := lf_t h c_3
      refine lv_aload_n hx hb d_Tu_turn_23 rfl (lv_at hl 0 rfl) ?_
      refine va_get (D := (dC, dI)) (ci := 10) (v := .ref M.o_In) (C := R_Tu) (T := F_Tu) (N := 7) hx hb hts (fun w h => u_Vq_Tu w (i_Tu w h)) hown hK hP 8 rfl rfl 5 (by decide) (hts _ (u_Vq_Tu _ k_Tu_22)) (fun _ h9 => h9) rfl d_Tu_turn_24 ?_
      obtain ⟨r_4, S_4, hc_4, h⟩ := lf_cE h
      have hFc := lx_free hD hS hA
      refine va_calli (va_runV (As := []) (rest := []) ⟨hx, hb, hml, hown, hts⟩ (l_In_isMarked l dC dI X _ hc_4) (cwV 0 hts (gwV good_Vq (u_Vq_Tu _ k_Tu_33) (u_Vq_In _ k_In_11) (u_Vq_In _ k_In_12) (u_Vq_In _ k_In_0) (wcs (u_Vq_In _ k_In_13) (fun _ h => h))) rfl rfl rfl (by decide +kernel) ⟨Nat.le_of_ble_eq_true rfl, Nat.le_of_ble_eq_true rfl⟩) (pv_ofE (X.same _) (fun U z1 z2 => X.mono _ _ U hFc (hEw _ _ hS U z1 z2)) hP hK hD (va_recv hK hP (ci := 6) (q0 := 9) rfl rfl)) rfl rfl hl.1 rfl (lv_room (Nat.le_of_ble_eq_true rfl)) d_Tu_turn_27 ⟨ly_c0 mF.1, ly_c0 mF.2⟩) hS (fun q _ h => hFc q h) hFc (fun r_ u t H locs ht hvm hw hB hz1 hk1 hS => ?_)
      rw [hw]
      obtain ⟨hP, -, hD⟩ := hB
      rw [ht] at hP
      have hD := lx_dj hD hFc
      refine lv_if_ne (tgt := 60) hx hb d_Tu_turn_30 (by decide) (fun c_5 => ?_) (fun c_5 => ?_)
      · have h := lf_f h c_5
        exact hB_60 Y G0 S_4 _ _ _ h m0 hP hD hS (lv_sub hl [0] rfl)
      · have h := lf_t h c_5
        refine lv_aload_n hx hb d_Tu_turn_33 rfl (lv_at hl 0 rfl) ?_
        refine va_get (D := (dC, dI)) (ci := 10) (v := .ref M.o_Pl) (C := R_Tu) (T := F_Tu) (N := 7) hx hb hts (fun w h => u_Vq_Tu w (i_Tu w h)) hown hK hP 8 rfl rfl 4 (by decide) (hts _ (u_Vq_Tu _ k_Tu_21)) (fun _ h9 => h9) rfl d_Tu_turn_34 ?_
        refine lv_iload_n hx hb d_Tu_turn_37 rfl (lv_at hl 2 rfl) ?_
        refine lv_aload_n hx hb d_Tu_turn_38 rfl (lv_at hl 0 rfl) ?_
        refine va_get (D := (dC, dI)) (ci := 10) (v := .ref M.o_Rd) (C := R_Tu) (T := F_Tu) (N := 7) hx hb hts (fun w h => u_Vq_Tu w (i_Tu w h)) hown hK hP 8 rfl rfl 3 (by decide) (hts _ (u_Vq_Tu _ k_Tu_20)) (fun _ h9 => h9) rfl d_Tu_turn_39 ?_
        refine lv_iconst (v := 0) hx hb d_Tu_turn_42 (by decide) ?_
        obtain ⟨r_6, G_6, S_6, hc_6, h⟩ := lf_nE h
        have mc := mo_Rd_scan hc_6
        have ml_6 := mo_Rd_scan hc_6
        have mF1 := mo_Tu_turn_46 h
        have hFc := lx_free hD hS hA
        refine va_calli (va_runV (As := [.int 0]) (rest := [.int p1, .ref M.o_Pl]) ⟨hx, hb, hml, hown, hts⟩ (l_Rd_scan l dC dI X _ hc_6) (cwV 1 hts (gwV good_Vq (u_Vq_Tu _ k_Tu_49) (u_Vq_Rd _ k_Rd_20) (u_Vq_Rd _ k_Rd_21) (u_Vq_Rd _ k_Rd_0) (wcs (u_Vq_Rd _ k_Rd_22) (fun _ h => h))) rfl rfl rfl (by decide +kernel) ⟨Nat.le_of_ble_eq_true rfl, Nat.le_of_ble_eq_true rfl⟩) (pv_ofE (X.same _) (fun U z1 z2 => X.mono _ _ U hFc (hEw _ _ hS U z1 z2)) hP hK hD (va_recv hK hP (ci := 7) (q0 := 5) rfl rfl)) rfl rfl hl.1 rfl (lv_room (Nat.le_of_ble_eq_true rfl)) d_Tu_turn_43 ⟨ly_c1 m0.1 mc.1 mF1.1, ly_c1 m0.2 mc.2 mF1.2⟩) hS (fun q _ h => hFc q h) hFc (fun r_ Y_6 t H locs ht hvm hw hB hz1 hk1 hS => ?_)
        rw [hw]
        obtain ⟨hP, -, hD⟩ := hB
        rw [ht] at hP
        have hD := lx_dj hD hFc
        refine W.widen (k := G_6.gc - G0.gc) (n := G_6.gs - G0.gs) (ly_c2 m0.1 mc.1) (ly_c2 m0.2 mc.2) ?_
        have m0 := CG.le_tr m0 mc
        exact hB_46 p1 r_6 Y_6 G_6 S_6 _ _ _ h m0 hP hD hS (lv_sub hl [0] rfl)
    · have h := lf_f h c_3
      refine lv_iconst (v := 0) hx hb d_Tu_turn_21 (by decide) ?_
      rw [hQ]
      have e1 : (0 : Int32) = r := congrArg (fun z => z.1) (Option.some.inj h)
      have e2 : G0 = G' := congrArg (fun z => z.2.1) (Option.some.inj h)
      have e3 : S_2 = S' := congrArg (fun z => z.2.2) (Option.some.inj h)
      have hP := ly_newP3 e2.symm e3.symm hP
      have hD := ly_newD3 e2.symm e3.symm hD
      refine W.widen (k := G'.gc - G0.gc) (n := G'.gs - G0.gs) (ly_wc e2) (ly_ws e2) ?_
      exact W.iret (v := 0) hx hb hr (fun t ht hW => ⟨⟨0, Y, rfl, e1, by rw [ht]; exact hP, va_K.moved hW.alike hK, hD⟩, hS.F ht⟩) hS.2.2 d_Tu_turn_22
  · have h := lf_t h c_1
    refine lv_aload_n hx hb d_Tu_turn_5 rfl (lv_at hl 0 rfl) ?_
    obtain ⟨S_7, hc_7, h⟩ := lf_bE h
    have hFc := lx_free hD hS hA
    refine va_callv (va_runV (As := []) (rest := []) ⟨hx, hb, hml, hown, hts⟩ (l_Tu_goBack l dC dI X _ hc_7) (cwV 0 hts (gwV good_Vq (u_Vq_Tu _ k_Tu_27) (u_Vq_Tu _ k_Tu_28) (u_Vq_Tu _ k_Tu_159) (u_Vq_Tu _ k_Tu_0) (wcs (u_Vq_Tu _ k_Tu_29) (fun _ h => h))) rfl rfl rfl (by decide +kernel) ⟨Nat.le_of_ble_eq_true rfl, Nat.le_of_ble_eq_true rfl⟩) (pv_ofE (X.same _) (fun U z1 z2 => X.mono _ _ U hFc (hEw _ _ hS U z1 z2)) hP hK hD (va_recv hK hP (ci := 10) (q0 := 8) rfl rfl)) rfl rfl hl.1 rfl (lv_room (Nat.le_of_ble_eq_true rfl)) d_Tu_turn_6 ⟨ly_c0 mF.1, ly_c0 mF.2⟩) hS (fun q _ h => hFc q h) hFc (fun u t H locs ht hvm hw hB hz1 hk1 hS => ?_)
    obtain ⟨hP, -, hD⟩ := hB
    rw [ht] at hP
    have hD := lx_dj hD hFc
    refine lv_iconst (v := 0) hx hb d_Tu_turn_9 (by decide) ?_
    rw [hQ]
    have e1 : (0 : Int32) = r := congrArg (fun z => z.1) (Option.some.inj h)
    have e2 : G0 = G' := congrArg (fun z => z.2.1) (Option.some.inj h)
    have e3 : S_7 = S' := congrArg (fun z => z.2.2) (Option.some.inj h)
    have hP := ly_newP3 e2.symm e3.symm hP
    have hD := ly_newD3 e2.symm e3.symm hD
    refine W.widen (k := G'.gc - G0.gc) (n := G'.gs - G0.gs) (ly_wc e2) (ly_ws e2) ?_
    exact W.iret (v := 0) hx hb hr (fun t ht hW => ⟨⟨0, Y, rfl, e1, by rw [ht]; exact hP, va_K.moved hW.alike hK, hD⟩, hS.F ht⟩) hS.2.2 d_Tu_turn_10
set_option maxHeartbeats 4000000 in
set_option maxRecDepth 100000 in
theorem l_Vt_look (l : Launch) (dC : Nat → ClassId) (dI : Nat → Nat → Nat) {K : Nat} {M : CA} {E : (Nat → Prop) → State → Prop} (X : ly_X l dC dI K M E) (sz : Nat) {Y : CT} {G0 G' : CG} {S S' : CS} {r : Int32} (h : f_Vt_look K G0 S = some (r, G', S')) : Met l y_Vt_look (.code y_Vt_look cb_Vt_look 1 (some .int) :: V_Vq) ({ frames := 7, cells := G'.gc - G0.gc, slots := G'.gs - G0.gs, locals := 204 }) (va_Pc [.ref M.o_Vt] (fun U => U.heap.size = sz ∧ at_ (dC, dI) (fun _ => True) (wV M Y G0 S) (tV M) U ∧ E (va_A (wV M Y G0 S) sz) U)) (va_Qi (fun (r_ : Int32) (u : CT) => r_ = r) (fun (u : CT) t => at_ (dC, dI) (va_A (wV M Y G0 S) sz) (wV M u G' S') (tV M) t) (va_A (wV M Y G0 S) sz)) (G'.gc - G0.gc) (G'.gs - G0.gs) (va_A (wV M Y G0 S) sz) := by
  refine Met.ofW (cc := cb_Vt_look) (maxL := 1) (ret := (some .int)) (by decide) rfl ?_
  intro p e s m args below meth c s₁ B hml hv
  obtain ⟨rfl, hsz, ⟨hP, hK, hD0⟩, hE⟩ := hv
  have hx := B.exec
  have hb := B.bytes
  have hr := B.returns
  have hts0 := atoms_spec (ws := .code y_Vt_look cb_Vt_look 1 (some .int) :: V_Vq) B.pre
  have hts : ∀ w ∈ V_Vq, w.before ([.ref M.o_Vt] : List Value).toArray s = true := fun w h => hts0 w (List.mem_cons_of_mem _ h)
  have hown : s.vm.findClass R_Vt = some m.cls := findClass_of_methodNamed B.named
  subst hsz
  have hD := hD0.self (sz := s.heap.size)
  generalize hAe : va_A (wV M Y G0 S) s.heap.size = A at hD hE ⊢
  have hA : ∀ q : Nat, s.heap.size ≤ q → A q := fun q h => by rw [← hAe]; exact Or.inr h
  have hS : va_S A s.heap s.heap [] := va_S.rf
  have hP : va_P (dC, dI) classes (wV M Y G0 S) s.heap := hP
  have hK : va_K (dC, dI) classes (tV M) s := hK
  have hEw : ∀ (H : Heap) (locs : List Loc), va_S A s.heap H locs → ∀ U : State, U.heap = H → s.WarmedH U.vm → E A U := fun H locs hS U hU hW => X.kept A s U H locs hE hS hU hW
  have hl := lv_entry ([.ref M.o_Vt]) (n := 1) (Nat.le_of_ble_eq_true rfl)
  rw [lg_entry_eq]
  generalize (lg_sl ([.ref M.o_Vt]) ++ List.replicate (1 - (lg_sl ([.ref M.o_Vt])).length) Slot.unset).toArray = ls at hl ⊢
  have hl : lv_has ls 1 [(0, .ref M.o_Vt)] := hl
  refine qabs (fun Q hQ => ?_)
  have hB_36 : ∀ (Y : CT) (G : CG) (S : CS) (H : Heap) (locs : List Loc) (ls : Array Slot), f_Vt_look_36 K G S = some (r, G', S') → CG.le G0 G → va_P (dC, dI) classes (wV M Y G S) H → va_D A (wV M Y G S) → va_S A s.heap H locs → lv_has ls 1 [(0, .ref M.o_Vt)] → W p l e ({ frames := 7, cells := G'.gc - G0.gc, slots := G'.gs - G0.gs, locals := 204 }) s m ([.ref M.o_Vt] : List Value).toArray below meth c H locs (G.gc - G0.gc) (G.gs - G0.gs) Q (F0 m 36 ls []) := by
    intro Y G S H locs ls h m0 hP hD hS hl
    have mF := mo_Vt_look_36 h
    rw [f_Vt_look_36] at h
    refine lv_aload_n hx hb d_Vt_look_36 rfl (lv_at hl 0 rfl) ?_
    refine va_get (D := (dC, dI)) (ci := 11) (v := .int S.v_Vt_lastFault) (C := R_Vt) (T := F_Vt) (N := 16) hx hb hts (fun w h => u_Vq_Vt w (i_Vt w h)) hown hK hP 0 rfl rfl 14 (by decide) (hts _ (u_Vq_Vt _ k_Vt_43)) (fun _ h9 => h9) rfl d_Vt_look_37 ?_
    refine lv_iconst (v := 1) hx hb d_Vt_look_40 (by decide) ?_
    refine lv_icmp_ne (tgt := 48) hx hb d_Vt_look_41 (by decide) (fun c_5 => ?_) (fun c_5 => ?_)
    · have h := lf_f h c_5
      refine lv_iconst (v := 1) hx hb d_Vt_look_48 (by decide) ?_
      rw [hQ]
      have e1 : (1 : Int32) = r := congrArg (fun z => z.1) (Option.some.inj h)
      have e2 : G = G' := congrArg (fun z => z.2.1) (Option.some.inj h)
      have e3 : S = S' := congrArg (fun z => z.2.2) (Option.some.inj h)
      have hP := ly_newP3 e2.symm e3.symm hP
      have hD := ly_newD3 e2.symm e3.symm hD
      refine W.widen (k := G'.gc - G0.gc) (n := G'.gs - G0.gs) (ly_wc e2) (ly_ws e2) ?_
      exact W.iret (v := 1) hx hb hr (fun t ht hW => ⟨⟨1, Y, rfl, e1, by rw [ht]; exact hP, va_K.moved hW.alike hK, hD⟩, hS.F ht⟩) hS.2.2 d_Vt_look_49
    · have h := lf_t h c_5
      refine lv_iconst (v := 0) hx hb d_Vt_look_44 (by decide) ?_
      refine lv_goto (tgt := 49) hx hb d_Vt_look_45 (by decide) ?_
      rw [hQ]
      have e1 : (0 : Int32) = r := congrArg (fun z => z.1) (Option.some.inj h)
      have e2 : G = G' := congrArg (fun z => z.2.1) (Option.some.inj h)
      have e3 : S = S' := congrArg (fun z => z.2.2) (Option.some.inj h)
      have hP := ly_newP3 e2.symm e3.symm hP
      have hD := ly_newD3 e2.symm e3.symm hD
      refine W.widen (k := G'.gc - G0.gc) (n := G'.gs - G0.gs) (ly_wc e2) (ly_ws e2) ?_
      exact W.iret (v := 0) hx hb hr (fun t ht hW => ⟨⟨0, Y, rfl, e1, by rw [ht]; exact hP, va_K.moved hW.alike hK, hD⟩, hS.F ht⟩) hS.2.2 d_Vt_look_49
  have hB_28 : ∀ (z_1 : Int32) (Y : CT) (G : CG) (S : CS) (H : Heap) (locs : List Loc) (ls : Array Slot), f_Vt_look_28 K z_1 G S = some (r, G', S') → CG.le G0 G → va_P (dC, dI) classes (wV M Y G S) H → va_D A (wV M Y G S) → va_S A s.heap H locs → lv_has ls 1 [(0, .ref M.o_Vt)] → W p l e ({ frames := 7, cells := G'.gc - G0.gc, slots := G'.gs - G0.gs, locals := 204 }) s m ([.ref M.o_Vt] : List Value).toArray below meth c H locs (G.gc - G0.gc) (G.gs - G0.gs) Q (F0 m 28 ls [.int z_1, .ref M.o_Vt]) := by
    intro z_1 Y G S H locs ls h m0 hP hD hS hl
    have mF := mo_Vt_look_28 h
    rw [f_Vt_look_28] at h
    refine va_put (D := (dC, dI)) (ci := 11) (v := .int z_1) (ty := .int) (C := R_Vt) (T := F_Vt) (N := 16) hx hb hts (fun w h => u_Vq_Vt w (i_Vt w h)) t_Vt t_Vt_ok n_Vt hown hK hP hD hS 0 rfl rfl 14 (by decide) (hts _ (u_Vq_Vt _ k_Vt_43)) (fun _ h9 => h9) rfl (by decide +kernel) rfl rfl (Nat.le_of_ble_eq_true rfl) d_Vt_look_28 (fun H locs hP hD hS => ?_)
    obtain ⟨S_6, eS_6, h⟩ := lf_lX h
    have hP := ly_newP eS_6 hP
    have hD := ly_newD eS_6 hD
    refine lv_aload_n hx hb d_Vt_look_31 rfl (lv_at hl 0 rfl) ?_
    refine lv_iconst (v := 0) hx hb d_Vt_look_32 (by decide) ?_
    refine va_put (D := (dC, dI)) (ci := 11) (v := .int 0) (ty := .boolean) (C := R_Vt) (T := F_Vt) (N := 16) hx hb hts (fun w h => u_Vq_Vt w (i_Vt w h)) t_Vt t_Vt_ok n_Vt hown hK hP hD hS 0 rfl rfl 13 (by decide) (hts _ (u_Vq_Vt _ k_Vt_42)) (fun _ h9 => h9) rfl (by decide +kernel) rfl rfl (Nat.le_of_ble_eq_true rfl) d_Vt_look_33 (fun H locs hP hD hS => ?_)
    obtain ⟨S_7, eS_7, h⟩ := lf_lX h
    have hP := ly_newP eS_7 hP
    have hD := ly_newD eS_7 hD
    exact hB_36 Y G S_7 _ _ _ h m0 hP hD hS (lv_sub hl [0] rfl)
  have m0 : CG.le G0 G0 := ⟨Nat.le_refl _, Nat.le_refl _⟩
  have mF := mo_Vt_look h
  refine W.widen (k := G0.gc - G0.gc) (n := G0.gs - G0.gs) (Nat.zero_le _) (Nat.zero_le _) ?_
  rw [f_Vt_look] at h
  refine lv_aload_n hx hb d_Vt_look_0 rfl (lv_at hl 0 rfl) ?_
  refine va_get (D := (dC, dI)) (ci := 11) (v := .ref M.o_In) (C := R_Vt) (T := F_Vt) (N := 16) hx hb hts (fun w h => u_Vq_Vt w (i_Vt w h)) hown hK hP 0 rfl rfl 8 (by decide) (hts _ (u_Vq_Vt _ k_Vt_37)) (fun _ h9 => h9) rfl d_Vt_look_1 ?_
  obtain ⟨r_1, S_1, hc_1, h⟩ := lf_cE h
  have hFc := lx_free hD hS hA
  refine va_calli (va_runV (As := []) (rest := []) ⟨hx, hb, hml, hown, hts⟩ (l_In_isThere l dC dI X _ hc_1) (cwV 0 hts (gwV good_Vq (u_Vq_Vt _ k_Vt_71) (u_Vq_In _ k_In_7) (u_Vq_In _ k_In_8) (u_Vq_In _ k_In_0) (wcs (u_Vq_In _ k_In_9) (fun _ h => h))) rfl rfl rfl (by decide +kernel) ⟨Nat.le_of_ble_eq_true rfl, Nat.le_of_ble_eq_true rfl⟩) (pv_ofE (X.same _) (fun U z1 z2 => X.mono _ _ U hFc (hEw _ _ hS U z1 z2)) hP hK hD (va_recv hK hP (ci := 6) (q0 := 9) rfl rfl)) rfl rfl hl.1 rfl (lv_room (Nat.le_of_ble_eq_true rfl)) d_Vt_look_4 ⟨ly_c0 mF.1, ly_c0 mF.2⟩) hS (fun q _ h => hFc q h) hFc (fun r_ u t H locs ht hvm hw hB hz1 hk1 hS => ?_)
  rw [hw]
  obtain ⟨hP, -, hD⟩ := hB
  rw [ht] at hP
  have hD := lx_dj hD hFc
  refine lv_if_eq (tgt := 12) hx hb d_Vt_look_7 (by decide) (fun c_2 => ?_) (fun c_2 => ?_)
  · have h := lf_t h c_2
    refine lv_aload_n hx hb d_Vt_look_12 rfl (lv_at hl 0 rfl) ?_
    refine va_get (D := (dC, dI)) (ci := 11) (v := .int S_1.v_Vt_stale) (C := R_Vt) (T := F_Vt) (N := 16) hx hb hts (fun w h => u_Vq_Vt w (i_Vt w h)) hown hK hP 0 rfl rfl 13 (by decide) (hts _ (u_Vq_Vt _ k_Vt_42)) (fun _ h9 => h9) rfl d_Vt_look_13 ?_
    refine lv_if_eq (tgt := 36) hx hb d_Vt_look_16 (by decide) (fun c_3 => ?_) (fun c_3 => ?_)
    · have h := lf_t h c_3
      exact hB_36 Y G0 S_1 _ _ _ h m0 hP hD hS (lv_sub hl [0] rfl)
    · have h := lf_f h c_3
      refine lv_aload_n hx hb d_Vt_look_19 rfl (lv_at hl 0 rfl) ?_
      refine lv_aload_n hx hb d_Vt_look_20 rfl (lv_at hl 0 rfl) ?_
      refine va_get (D := (dC, dI)) (ci := 11) (v := .ref M.o_Rd) (C := R_Vt) (T := F_Vt) (N := 16) hx hb hts (fun w h => u_Vq_Vt w (i_Vt w h)) hown hK hP 0 rfl rfl 4 (by decide) (hts _ (u_Vq_Vt _ k_Vt_33)) (fun _ h9 => h9) rfl d_Vt_look_21 ?_
      refine lv_iconst (v := 0) hx hb d_Vt_look_24 (by decide) ?_
      obtain ⟨r_4, G_4, S_4, hc_4, h⟩ := lf_nE h
      have mc := mo_Rd_scan hc_4
      have ml_4 := mo_Rd_scan hc_4
      have mF1 := mo_Vt_look_28 h
      have hFc := lx_free hD hS hA
      refine va_calli (va_runV (As := [.int 0]) (rest := [.ref M.o_Vt]) ⟨hx, hb, hml, hown, hts⟩ (l_Rd_scan l dC dI X _ hc_4) (cwV 1 hts (gwV good_Vq (u_Vq_Vt _ k_Vt_72) (u_Vq_Rd _ k_Rd_20) (u_Vq_Rd _ k_Rd_21) (u_Vq_Rd _ k_Rd_0) (wcs (u_Vq_Rd _ k_Rd_22) (fun _ h => h))) rfl rfl rfl (by decide +kernel) ⟨Nat.le_of_ble_eq_true rfl, Nat.le_of_ble_eq_true rfl⟩) (pv_ofE (X.same _) (fun U z1 z2 => X.mono _ _ U hFc (hEw _ _ hS U z1 z2)) hP hK hD (va_recv hK hP (ci := 7) (q0 := 5) rfl rfl)) rfl rfl hl.1 rfl (lv_room (Nat.le_of_ble_eq_true rfl)) d_Vt_look_25 ⟨ly_c1 m0.1 mc.1 mF1.1, ly_c1 m0.2 mc.2 mF1.2⟩) hS (fun q _ h => hFc q h) hFc (fun r_ Y_4 t H locs ht hvm hw hB hz1 hk1 hS => ?_)
      rw [hw]
      obtain ⟨hP, -, hD⟩ := hB
      rw [ht] at hP
      have hD := lx_dj hD hFc
      refine W.widen (k := G_4.gc - G0.gc) (n := G_4.gs - G0.gs) (ly_c2 m0.1 mc.1) (ly_c2 m0.2 mc.2) ?_
      have m0 := CG.le_tr m0 mc
      exact hB_28 r_4 Y_4 G_4 S_4 _ _ _ h m0 hP hD hS (lv_sub hl [0] rfl)
  · have h := lf_f h c_2
    refine lv_iconst (v := 2) hx hb d_Vt_look_10 (by decide) ?_
    rw [hQ]
    have e1 : (2 : Int32) = r := congrArg (fun z => z.1) (Option.some.inj h)
    have e2 : G0 = G' := congrArg (fun z => z.2.1) (Option.some.inj h)
    have e3 : S_1 = S' := congrArg (fun z => z.2.2) (Option.some.inj h)
    have hP := ly_newP3 e2.symm e3.symm hP
    have hD := ly_newD3 e2.symm e3.symm hD
    refine W.widen (k := G'.gc - G0.gc) (n := G'.gs - G0.gs) (ly_wc e2) (ly_ws e2) ?_
    exact W.iret (v := 2) hx hb hr (fun t ht hW => ⟨⟨2, Y, rfl, e1, by rw [ht]; exact hP, va_K.moved hW.alike hK, hD⟩, hS.F ht⟩) hS.2.2 d_Vt_look_11
set_option maxHeartbeats 4000000 in
set_option maxRecDepth 100000 in
theorem l_Vt_kind (l : Launch) (dC : Nat → ClassId) (dI : Nat → Nat → Nat) {K : Nat} {M : CA} {E : (Nat → Prop) → State → Prop} (X : ly_X l dC dI K M E) (sz : Nat) {Y : CT} {G0 G' : CG} {S S' : CS} {r : Int32} (h : f_Vt_kind K G0 S = some (r, G', S')) : Met l y_Vt_kind (.code y_Vt_kind cb_Vt_kind 1 (some .int) :: V_Vq) ({ frames := 8, cells := G'.gc - G0.gc, slots := G'.gs - G0.gs, locals := 224 }) (va_Pc [.ref M.o_Vt] (fun U => U.heap.size = sz ∧ at_ (dC, dI) (fun _ => True) (wV M Y G0 S) (tV M) U ∧ E (va_A (wV M Y G0 S) sz) U)) (va_Qi (fun (r_ : Int32) (u : CT) => r_ = r) (fun (u : CT) t => at_ (dC, dI) (va_A (wV M Y G0 S) sz) (wV M u G' S') (tV M) t) (va_A (wV M Y G0 S) sz)) (G'.gc - G0.gc) (G'.gs - G0.gs) (va_A (wV M Y G0 S) sz) := by
  refine Met.ofW (cc := cb_Vt_kind) (maxL := 1) (ret := (some .int)) (by decide) rfl ?_
  intro p e s m args below meth c s₁ B hml hv
  obtain ⟨rfl, hsz, ⟨hP, hK, hD0⟩, hE⟩ := hv
  have hx := B.exec
  have hb := B.bytes
  have hr := B.returns
  have hts0 := atoms_spec (ws := .code y_Vt_kind cb_Vt_kind 1 (some .int) :: V_Vq) B.pre
  have hts : ∀ w ∈ V_Vq, w.before ([.ref M.o_Vt] : List Value).toArray s = true := fun w h => hts0 w (List.mem_cons_of_mem _ h)
  have hown : s.vm.findClass R_Vt = some m.cls := findClass_of_methodNamed B.named
  subst hsz
  have hD := hD0.self (sz := s.heap.size)
  generalize hAe : va_A (wV M Y G0 S) s.heap.size = A at hD hE ⊢
  have hA : ∀ q : Nat, s.heap.size ≤ q → A q := fun q h => by rw [← hAe]; exact Or.inr h
  have hS : va_S A s.heap s.heap [] := va_S.rf
  have hP : va_P (dC, dI) classes (wV M Y G0 S) s.heap := hP
  have hK : va_K (dC, dI) classes (tV M) s := hK
  have hEw : ∀ (H : Heap) (locs : List Loc), va_S A s.heap H locs → ∀ U : State, U.heap = H → s.WarmedH U.vm → E A U := fun H locs hS U hU hW => X.kept A s U H locs hE hS hU hW
  have hl := lv_entry ([.ref M.o_Vt]) (n := 1) (Nat.le_of_ble_eq_true rfl)
  rw [lg_entry_eq]
  generalize (lg_sl ([.ref M.o_Vt]) ++ List.replicate (1 - (lg_sl ([.ref M.o_Vt])).length) Slot.unset).toArray = ls at hl ⊢
  have hl : lv_has ls 1 [(0, .ref M.o_Vt)] := hl
  refine qabs (fun Q hQ => ?_)
  have hB_4 : ∀ (z_0 : Int32) (Y : CT) (G : CG) (S : CS) (H : Heap) (locs : List Loc) (ls : Array Slot), f_Vt_kind_4 K z_0 G S = some (r, G', S') → CG.le G0 G → va_P (dC, dI) classes (wV M Y G S) H → va_D A (wV M Y G S) → va_S A s.heap H locs → lv_has ls 1 [] → W p l e ({ frames := 8, cells := G'.gc - G0.gc, slots := G'.gs - G0.gs, locals := 224 }) s m ([.ref M.o_Vt] : List Value).toArray below meth c H locs (G.gc - G0.gc) (G.gs - G0.gs) Q (F0 m 4 ls [.int z_0]) := by
    intro z_0 Y G S H locs ls h m0 hP hD hS hl
    have mF := mo_Vt_kind_4 h
    rw [f_Vt_kind_4] at h
    rw [hQ]
    have e1 : z_0 = r := congrArg (fun z => z.1) (Option.some.inj h)
    have e2 : G = G' := congrArg (fun z => z.2.1) (Option.some.inj h)
    have e3 : S = S' := congrArg (fun z => z.2.2) (Option.some.inj h)
    have hP := ly_newP3 e2.symm e3.symm hP
    have hD := ly_newD3 e2.symm e3.symm hD
    refine W.widen (k := G'.gc - G0.gc) (n := G'.gs - G0.gs) (ly_wc e2) (ly_ws e2) ?_
    exact W.iret (v := z_0) hx hb hr (fun t ht hW => ⟨⟨z_0, Y, rfl, e1, by rw [ht]; exact hP, va_K.moved hW.alike hK, hD⟩, hS.F ht⟩) hS.2.2 d_Vt_kind_4
  have m0 : CG.le G0 G0 := ⟨Nat.le_refl _, Nat.le_refl _⟩
  have mF := mo_Vt_kind h
  refine W.widen (k := G0.gc - G0.gc) (n := G0.gs - G0.gs) (Nat.zero_le _) (Nat.zero_le _) ?_
  rw [f_Vt_kind] at h
  refine lv_aload_n hx hb d_Vt_kind_0 rfl (lv_at hl 0 rfl) ?_
  obtain ⟨r_1, G_1, S_1, hc_1, h⟩ := lf_nE h
  have mc := mo_Vt_look hc_1
  have ml_1 := mo_Vt_look hc_1
  have mF1 := mo_Vt_kind_4 h
  have hFc := lx_free hD hS hA
  refine va_calli (va_runV (As := []) (rest := []) ⟨hx, hb, hml, hown, hts⟩ (l_Vt_look l dC dI X _ hc_1) (cwV 0 hts (gwV good_Vq (u_Vq_Vt _ k_Vt_68) (u_Vq_Vt _ k_Vt_69) (u_Vq_Vt _ k_Vt_214) (u_Vq_Vt _ k_Vt_0) (wcs (u_Vq_Vt _ k_Vt_70) (fun _ h => h))) rfl rfl rfl (by decide +kernel) ⟨Nat.le_of_ble_eq_true rfl, Nat.le_of_ble_eq_true rfl⟩) (pv_ofE (X.same _) (fun U z1 z2 => X.mono _ _ U hFc (hEw _ _ hS U z1 z2)) hP hK hD (va_recv hK hP (ci := 11) (q0 := 0) rfl rfl)) rfl rfl hl.1 rfl (lv_room (Nat.le_of_ble_eq_true rfl)) d_Vt_kind_1 ⟨ly_c1 m0.1 mc.1 mF1.1, ly_c1 m0.2 mc.2 mF1.2⟩) hS (fun q _ h => hFc q h) hFc (fun r_ Y_1 t H locs ht hvm hw hB hz1 hk1 hS => ?_)
  rw [hw]
  obtain ⟨hP, -, hD⟩ := hB
  rw [ht] at hP
  have hD := lx_dj hD hFc
  refine W.widen (k := G_1.gc - G0.gc) (n := G_1.gs - G0.gs) (ly_c2 m0.1 mc.1) (ly_c2 m0.2 mc.2) ?_
  have m0 := CG.le_tr m0 mc
  exact hB_4 r_1 Y_1 G_1 S_1 _ _ _ h m0 hP hD hS (lv_sub hl [] rfl)
set_option maxHeartbeats 4000000 in
set_option maxRecDepth 100000 in
theorem l_Vt_fault (l : Launch) (dC : Nat → ClassId) (dI : Nat → Nat → Nat) {K : Nat} {M : CA} {E : (Nat → Prop) → State → Prop} (X : ly_X l dC dI K M E) (sz : Nat) {Y : CT} {G0 G' : CG} {S S' : CS} {r : Int32} (h : f_Vt_fault K G0 S = some (r, G', S')) : Met l y_Vt_fault (.code y_Vt_fault cb_Vt_fault 1 (some .int) :: V_Vq) ({ frames := 8, cells := G'.gc - G0.gc, slots := G'.gs - G0.gs, locals := 224 }) (va_Pc [.ref M.o_Vt] (fun U => U.heap.size = sz ∧ at_ (dC, dI) (fun _ => True) (wV M Y G0 S) (tV M) U ∧ E (va_A (wV M Y G0 S) sz) U)) (va_Qi (fun (r_ : Int32) (u : CT) => r_ = r) (fun (u : CT) t => at_ (dC, dI) (va_A (wV M Y G0 S) sz) (wV M u G' S') (tV M) t) (va_A (wV M Y G0 S) sz)) (G'.gc - G0.gc) (G'.gs - G0.gs) (va_A (wV M Y G0 S) sz) := by
  refine Met.ofW (cc := cb_Vt_fault) (maxL := 1) (ret := (some .int)) (by decide) rfl ?_
  intro p e s m args below meth c s₁ B hml hv
  obtain ⟨rfl, hsz, ⟨hP, hK, hD0⟩, hE⟩ := hv
  have hx := B.exec
  have hb := B.bytes
  have hr := B.returns
  have hts0 := atoms_spec (ws := .code y_Vt_fault cb_Vt_fault 1 (some .int) :: V_Vq) B.pre
  have hts : ∀ w ∈ V_Vq, w.before ([.ref M.o_Vt] : List Value).toArray s = true := fun w h => hts0 w (List.mem_cons_of_mem _ h)
  have hown : s.vm.findClass R_Vt = some m.cls := findClass_of_methodNamed B.named
  subst hsz
  have hD := hD0.self (sz := s.heap.size)
  generalize hAe : va_A (wV M Y G0 S) s.heap.size = A at hD hE ⊢
  have hA : ∀ q : Nat, s.heap.size ≤ q → A q := fun q h => by rw [← hAe]; exact Or.inr h
  have hS : va_S A s.heap s.heap [] := va_S.rf
  have hP : va_P (dC, dI) classes (wV M Y G0 S) s.heap := hP
  have hK : va_K (dC, dI) classes (tV M) s := hK
  have hEw : ∀ (H : Heap) (locs : List Loc), va_S A s.heap H locs → ∀ U : State, U.heap = H → s.WarmedH U.vm → E A U := fun H locs hS U hU hW => X.kept A s U H locs hE hS hU hW
  have hl := lv_entry ([.ref M.o_Vt]) (n := 1) (Nat.le_of_ble_eq_true rfl)
  rw [lg_entry_eq]
  generalize (lg_sl ([.ref M.o_Vt]) ++ List.replicate (1 - (lg_sl ([.ref M.o_Vt])).length) Slot.unset).toArray = ls at hl ⊢
  have hl : lv_has ls 1 [(0, .ref M.o_Vt)] := hl
  refine qabs (fun Q hQ => ?_)
  have hB_4 : ∀ (z_0 : Int32) (Y : CT) (G : CG) (S : CS) (H : Heap) (locs : List Loc) (ls : Array Slot), f_Vt_fault_4 K z_0 G S = some (r, G', S') → CG.le G0 G → va_P (dC, dI) classes (wV M Y G S) H → va_D A (wV M Y G S) → va_S A s.heap H locs → lv_has ls 1 [(0, .ref M.o_Vt)] → W p l e ({ frames := 8, cells := G'.gc - G0.gc, slots := G'.gs - G0.gs, locals := 224 }) s m ([.ref M.o_Vt] : List Value).toArray below meth c H locs (G.gc - G0.gc) (G.gs - G0.gs) Q (F0 m 4 ls [.int z_0]) := by
    intro z_0 Y G S H locs ls h m0 hP hD hS hl
    have mF := mo_Vt_fault_4 h
    rw [f_Vt_fault_4] at h
    refine lv_iconst (v := 2) hx hb d_Vt_fault_4 (by decide) ?_
    refine lv_icmp_ne (tgt := 12) hx hb d_Vt_fault_5 (by decide) (fun c_2 => ?_) (fun c_2 => ?_)
    · have h := lf_f h c_2
      refine lv_aload_n hx hb d_Vt_fault_12 rfl (lv_at hl 0 rfl) ?_
      refine va_get (D := (dC, dI)) (ci := 11) (v := .int S.v_Vt_lastFault) (C := R_Vt) (T := F_Vt) (N := 16) hx hb hts (fun w h => u_Vq_Vt w (i_Vt w h)) hown hK hP 0 rfl rfl 14 (by decide) (hts _ (u_Vq_Vt _ k_Vt_43)) (fun _ h9 => h9) rfl d_Vt_fault_13 ?_
      rw [hQ]
      have e1 : S.v_Vt_lastFault = r := congrArg (fun z => z.1) (Option.some.inj h)
      have e2 : G = G' := congrArg (fun z => z.2.1) (Option.some.inj h)
      have e3 : S = S' := congrArg (fun z => z.2.2) (Option.some.inj h)
      have hP := ly_newP3 e2.symm e3.symm hP
      have hD := ly_newD3 e2.symm e3.symm hD
      refine W.widen (k := G'.gc - G0.gc) (n := G'.gs - G0.gs) (ly_wc e2) (ly_ws e2) ?_
      exact W.iret (v := S.v_Vt_lastFault) hx hb hr (fun t ht hW => ⟨⟨S.v_Vt_lastFault, Y, rfl, e1, by rw [ht]; exact hP, va_K.moved hW.alike hK, hD⟩, hS.F ht⟩) hS.2.2 d_Vt_fault_16
    · have h := lf_t h c_2
      refine lv_iconst (v := 0) hx hb d_Vt_fault_8 (by decide) ?_
      refine lv_goto (tgt := 16) hx hb d_Vt_fault_9 (by decide) ?_
      rw [hQ]
      have e1 : (0 : Int32) = r := congrArg (fun z => z.1) (Option.some.inj h)
      have e2 : G = G' := congrArg (fun z => z.2.1) (Option.some.inj h)
      have e3 : S = S' := congrArg (fun z => z.2.2) (Option.some.inj h)
      have hP := ly_newP3 e2.symm e3.symm hP
      have hD := ly_newD3 e2.symm e3.symm hD
      refine W.widen (k := G'.gc - G0.gc) (n := G'.gs - G0.gs) (ly_wc e2) (ly_ws e2) ?_
      exact W.iret (v := 0) hx hb hr (fun t ht hW => ⟨⟨0, Y, rfl, e1, by rw [ht]; exact hP, va_K.moved hW.alike hK, hD⟩, hS.F ht⟩) hS.2.2 d_Vt_fault_16
  have m0 : CG.le G0 G0 := ⟨Nat.le_refl _, Nat.le_refl _⟩
  have mF := mo_Vt_fault h
  refine W.widen (k := G0.gc - G0.gc) (n := G0.gs - G0.gs) (Nat.zero_le _) (Nat.zero_le _) ?_
  rw [f_Vt_fault] at h
  refine lv_aload_n hx hb d_Vt_fault_0 rfl (lv_at hl 0 rfl) ?_
  obtain ⟨r_1, G_1, S_1, hc_1, h⟩ := lf_nE h
  have mc := mo_Vt_look hc_1
  have ml_1 := mo_Vt_look hc_1
  have mF1 := mo_Vt_fault_4 h
  have hFc := lx_free hD hS hA
  refine va_calli (va_runV (As := []) (rest := []) ⟨hx, hb, hml, hown, hts⟩ (l_Vt_look l dC dI X _ hc_1) (cwV 0 hts (gwV good_Vq (u_Vq_Vt _ k_Vt_68) (u_Vq_Vt _ k_Vt_69) (u_Vq_Vt _ k_Vt_214) (u_Vq_Vt _ k_Vt_0) (wcs (u_Vq_Vt _ k_Vt_70) (fun _ h => h))) rfl rfl rfl (by decide +kernel) ⟨Nat.le_of_ble_eq_true rfl, Nat.le_of_ble_eq_true rfl⟩) (pv_ofE (X.same _) (fun U z1 z2 => X.mono _ _ U hFc (hEw _ _ hS U z1 z2)) hP hK hD (va_recv hK hP (ci := 11) (q0 := 0) rfl rfl)) rfl rfl hl.1 rfl (lv_room (Nat.le_of_ble_eq_true rfl)) d_Vt_fault_1 ⟨ly_c1 m0.1 mc.1 mF1.1, ly_c1 m0.2 mc.2 mF1.2⟩) hS (fun q _ h => hFc q h) hFc (fun r_ Y_1 t H locs ht hvm hw hB hz1 hk1 hS => ?_)
  rw [hw]
  obtain ⟨hP, -, hD⟩ := hB
  rw [ht] at hP
  have hD := lx_dj hD hFc
  refine W.widen (k := G_1.gc - G0.gc) (n := G_1.gs - G0.gs) (ly_c2 m0.1 mc.1) (ly_c2 m0.2 mc.2) ?_
  have m0 := CG.le_tr m0 mc
  exact hB_4 r_1 Y_1 G_1 S_1 _ _ _ h m0 hP hD hS (lv_sub hl [0] rfl)
set_option maxHeartbeats 4000000 in
set_option maxRecDepth 100000 in
theorem l_Vt_byteAt (l : Launch) (dC : Nat → ClassId) (dI : Nat → Nat → Nat) {K : Nat} {M : CA} {E : (Nat → Prop) → State → Prop} (X : ly_X l dC dI K M E) (sz : Nat) {Y : CT} {G0 G' : CG} {S S' : CS} {p0 : Int32} {p1 : Int32} {r : Int32} (h : f_Vt_byteAt K G0 S p0 p1 = some (r, G', S')) : Met l y_Vt_byteAt (.code y_Vt_byteAt cb_Vt_byteAt 5 (some .int) :: V_Vq) ({ frames := 8, cells := G'.gc - G0.gc, slots := G'.gs - G0.gs, locals := 224 }) (va_Pc [.ref M.o_Vt, .int p0, .int p1] (fun U => U.heap.size = sz ∧ at_ (dC, dI) (fun _ => True) (wV M Y G0 S) (tV M) U ∧ E (va_A (wV M Y G0 S) sz) U)) (va_Qi (fun (r_ : Int32) (u : CT) => r_ = r) (fun (u : CT) t => at_ (dC, dI) (va_A (wV M Y G0 S) sz) (wV M u G' S') (tV M) t) (va_A (wV M Y G0 S) sz)) (G'.gc - G0.gc) (G'.gs - G0.gs) (va_A (wV M Y G0 S) sz) := by
  refine Met.ofW (cc := cb_Vt_byteAt) (maxL := 5) (ret := (some .int)) (by decide) rfl ?_
  intro p e s m args below meth c s₁ B hml hv
  obtain ⟨rfl, hsz, ⟨hP, hK, hD0⟩, hE⟩ := hv
  have hx := B.exec
  have hb := B.bytes
  have hr := B.returns
  have hts0 := atoms_spec (ws := .code y_Vt_byteAt cb_Vt_byteAt 5 (some .int) :: V_Vq) B.pre
  have hts : ∀ w ∈ V_Vq, w.before ([.ref M.o_Vt, .int p0, .int p1] : List Value).toArray s = true := fun w h => hts0 w (List.mem_cons_of_mem _ h)
  have hown : s.vm.findClass R_Vt = some m.cls := findClass_of_methodNamed B.named
  subst hsz
  have hD := hD0.self (sz := s.heap.size)
  generalize hAe : va_A (wV M Y G0 S) s.heap.size = A at hD hE ⊢
  have hA : ∀ q : Nat, s.heap.size ≤ q → A q := fun q h => by rw [← hAe]; exact Or.inr h
  have hS : va_S A s.heap s.heap [] := va_S.rf
  have hP : va_P (dC, dI) classes (wV M Y G0 S) s.heap := hP
  have hK : va_K (dC, dI) classes (tV M) s := hK
  have hEw : ∀ (H : Heap) (locs : List Loc), va_S A s.heap H locs → ∀ U : State, U.heap = H → s.WarmedH U.vm → E A U := fun H locs hS U hU hW => X.kept A s U H locs hE hS hU hW
  have hl := lv_entry ([.ref M.o_Vt, .int p0, .int p1]) (n := 5) (Nat.le_of_ble_eq_true rfl)
  rw [lg_entry_eq]
  generalize (lg_sl ([.ref M.o_Vt, .int p0, .int p1]) ++ List.replicate (5 - (lg_sl ([.ref M.o_Vt, .int p0, .int p1])).length) Slot.unset).toArray = ls at hl ⊢
  have hl : lv_has ls 5 [(0, .ref M.o_Vt), (1, .int p0), (2, .int p1)] := hl
  refine qabs (fun Q hQ => ?_)
  have hB_60 : ∀ (y_1 : Int32) (y_2 : Int32) (z_0 : Int32) (Y : CT) (G : CG) (S : CS) (H : Heap) (locs : List Loc) (ls : Array Slot), f_Vt_byteAt_60 K y_1 y_2 z_0 G S = some (r, G', S') → CG.le G0 G → va_P (dC, dI) classes (wV M Y G S) H → va_D A (wV M Y G S) → va_S A s.heap H locs → lv_has ls 5 [(0, .ref M.o_Vt), (1, .int y_1), (2, .int y_2)] → W p l e ({ frames := 8, cells := G'.gc - G0.gc, slots := G'.gs - G0.gs, locals := 224 }) s m ([.ref M.o_Vt, .int p0, .int p1] : List Value).toArray below meth c H locs (G.gc - G0.gc) (G.gs - G0.gs) Q (F0 m 60 ls [.int z_0]) := by
    intro y_1 y_2 z_0 Y G S H locs ls h m0 hP hD hS hl
    have mF := mo_Vt_byteAt_60 h
    rw [f_Vt_byteAt_60] at h
    refine lv_istore (lv' := [(4, .int z_0), (0, .ref M.o_Vt), (1, .int y_1), (2, .int y_2)]) hx hb d_Vt_byteAt_60 hl (by decide) rfl (fun ls hl => ?_)
    refine lv_iload hx hb d_Vt_byteAt_62 (lv_at hl 0 rfl) ?_
    refine lv_if_eq (tgt := 84) hx hb d_Vt_byteAt_64 (by decide) (fun c_11 => ?_) (fun c_11 => ?_)
    · have h := lf_t h c_11
      refine lv_iconst (v := (-1)) hx hb d_Vt_byteAt_84 (by decide) ?_
      rw [hQ]
      have e1 : ((-1)) = r := congrArg (fun z => z.1) (Option.some.inj h)
      have e2 : G = G' := congrArg (fun z => z.2.1) (Option.some.inj h)
      have e3 : S = S' := congrArg (fun z => z.2.2) (Option.some.inj h)
      have hP := ly_newP3 e2.symm e3.symm hP
      have hD := ly_newD3 e2.symm e3.symm hD
      refine W.widen (k := G'.gc - G0.gc) (n := G'.gs - G0.gs) (ly_wc e2) (ly_ws e2) ?_
      exact W.iret (v := ((-1))) hx hb hr (fun t ht hW => ⟨⟨((-1)), Y, rfl, e1, by rw [ht]; exact hP, va_K.moved hW.alike hK, hD⟩, hS.F ht⟩) hS.2.2 d_Vt_byteAt_85
    · have h := lf_f h c_11
      refine lv_aload_n hx hb d_Vt_byteAt_67 rfl (lv_at hl 1 rfl) ?_
      refine va_get (D := (dC, dI)) (ci := 11) (v := .ref M.o_Dk) (C := R_Vt) (T := F_Vt) (N := 16) hx hb hts (fun w h => u_Vq_Vt w (i_Vt w h)) hown hK hP 0 rfl rfl 0 (by decide) (hts _ (u_Vq_Vt _ k_Vt_29)) (fun _ h9 => h9) rfl d_Vt_byteAt_68 ?_
      refine lv_iload_n hx hb d_Vt_byteAt_71 rfl (lv_at hl 2 rfl) ?_
      refine lv_sipush (v := 512) hx hb d_Vt_byteAt_72 (by decide) ?_
      refine lv_imul hx hb d_Vt_byteAt_75 ?_
      refine lv_iload_n hx hb d_Vt_byteAt_76 rfl (lv_at hl 3 rfl) ?_
      refine lv_iadd hx hb d_Vt_byteAt_77 ?_
      obtain ⟨r_12, S_12, hc_12, h⟩ := lf_cE h
      have hFc := lx_free hD hS hA
      refine va_calli (va_runV (As := [.int ((y_1 * 512) + y_2)]) (rest := []) ⟨hx, hb, hml, hown, hts⟩ (l_Dk_one l dC dI X _ hc_12) (cwV 1 hts (gwV good_Vq (u_Vq_Vt _ k_Vt_81) (u_Vq_Dk _ k_Dk_20) (u_Vq_Dk _ k_Dk_21) (u_Vq_Dk _ k_Dk_0) (wcs (u_Vq_Dk _ k_Dk_22) (fun _ h => h))) rfl rfl rfl (by decide +kernel) ⟨Nat.le_of_ble_eq_true rfl, Nat.le_of_ble_eq_true rfl⟩) (pv_ofE (X.same _) (fun U z1 z2 => X.mono _ _ U hFc (hEw _ _ hS U z1 z2)) hP hK hD (va_recv hK hP (ci := 0) (q0 := 1) rfl rfl)) rfl rfl hl.1 rfl (lv_room (Nat.le_of_ble_eq_true rfl)) d_Vt_byteAt_78 ⟨ly_c0 mF.1, ly_c0 mF.2⟩) hS (fun q _ h => hFc q h) hFc (fun r_ u t H locs ht hvm hw hB hz1 hk1 hS => ?_)
      rw [hw]
      obtain ⟨hP, -, hD⟩ := hB
      rw [ht] at hP
      have hD := lx_dj hD hFc
      refine lv_goto (tgt := 85) hx hb d_Vt_byteAt_81 (by decide) ?_
      rw [hQ]
      have e1 : r_12 = r := congrArg (fun z => z.1) (Option.some.inj h)
      have e2 : G = G' := congrArg (fun z => z.2.1) (Option.some.inj h)
      have e3 : S_12 = S' := congrArg (fun z => z.2.2) (Option.some.inj h)
      have hP := ly_newP3 e2.symm e3.symm hP
      have hD := ly_newD3 e2.symm e3.symm hD
      refine W.widen (k := G'.gc - G0.gc) (n := G'.gs - G0.gs) (ly_wc e2) (ly_ws e2) ?_
      exact W.iret (v := r_12) hx hb hr (fun t ht hW => ⟨⟨r_12, Y, rfl, e1, by rw [ht]; exact hP, va_K.moved hW.alike hK, hD⟩, hS.F ht⟩) hS.2.2 d_Vt_byteAt_85
  have hB_55 : ∀ (y_1 : Int32) (y_2 : Int32) (Y : CT) (G : CG) (S : CS) (H : Heap) (locs : List Loc) (ls : Array Slot), f_Vt_byteAt_55 K y_1 y_2 G S = some (r, G', S') → CG.le G0 G → va_P (dC, dI) classes (wV M Y G S) H → va_D A (wV M Y G S) → va_S A s.heap H locs → lv_has ls 5 [(0, .ref M.o_Vt), (1, .int y_1), (2, .int y_2)] → W p l e ({ frames := 8, cells := G'.gc - G0.gc, slots := G'.gs - G0.gs, locals := 224 }) s m ([.ref M.o_Vt, .int p0, .int p1] : List Value).toArray below meth c H locs (G.gc - G0.gc) (G.gs - G0.gs) Q (F0 m 55 ls []) := by
    intro y_1 y_2 Y G S H locs ls h m0 hP hD hS hl
    have mF := mo_Vt_byteAt_55 h
    rw [f_Vt_byteAt_55] at h
    refine lv_iconst (v := 1) hx hb d_Vt_byteAt_55 (by decide) ?_
    refine lv_goto (tgt := 60) hx hb d_Vt_byteAt_56 (by decide) ?_
    exact hB_60 y_1 y_2 1 Y G S _ _ _ h m0 hP hD hS (lv_sub hl [0, 1, 2] rfl)
  have hB_59 : ∀ (y_1 : Int32) (y_2 : Int32) (Y : CT) (G : CG) (S : CS) (H : Heap) (locs : List Loc) (ls : Array Slot), f_Vt_byteAt_59 K y_1 y_2 G S = some (r, G', S') → CG.le G0 G → va_P (dC, dI) classes (wV M Y G S) H → va_D A (wV M Y G S) → va_S A s.heap H locs → lv_has ls 5 [(0, .ref M.o_Vt), (1, .int y_1), (2, .int y_2)] → W p l e ({ frames := 8, cells := G'.gc - G0.gc, slots := G'.gs - G0.gs, locals := 224 }) s m ([.ref M.o_Vt, .int p0, .int p1] : List Value).toArray below meth c H locs (G.gc - G0.gc) (G.gs - G0.gs) Q (F0 m 59 ls []) := by
    intro y_1 y_2 Y G S H locs ls h m0 hP hD hS hl
    have mF := mo_Vt_byteAt_59 h
    rw [f_Vt_byteAt_59] at h
    refine lv_iconst (v := 0) hx hb d_Vt_byteAt_59 (by decide) ?_
    exact hB_60 y_1 y_2 0 Y G S _ _ _ h m0 hP hD hS (lv_sub hl [0, 1, 2] rfl)
  have hB_39 : ∀ (y_1 : Int32) (y_2 : Int32) (y_3 : Int32) (Y : CT) (G : CG) (S : CS) (H : Heap) (locs : List Loc) (ls : Array Slot), f_Vt_byteAt_39 K y_1 y_2 y_3 G S = some (r, G', S') → CG.le G0 G → va_P (dC, dI) classes (wV M Y G S) H → va_D A (wV M Y G S) → va_S A s.heap H locs → lv_has ls 5 [(0, .ref M.o_Vt), (1, .int y_1), (2, .int y_2), (3, .int y_3)] → W p l e ({ frames := 8, cells := G'.gc - G0.gc, slots := G'.gs - G0.gs, locals := 224 }) s m ([.ref M.o_Vt, .int p0, .int p1] : List Value).toArray below meth c H locs (G.gc - G0.gc) (G.gs - G0.gs) Q (F0 m 39 ls []) := by
    intro y_1 y_2 y_3 Y G S H locs ls h m0 hP hD hS hl
    have mF := mo_Vt_byteAt_39 h
    rw [f_Vt_byteAt_39] at h
    refine lv_iload_n hx hb d_Vt_byteAt_39 rfl (lv_at hl 3 rfl) ?_
    refine lv_iconst (v := 2) hx hb d_Vt_byteAt_40 (by decide) ?_
    refine lv_icmp_ne (tgt := 59) hx hb d_Vt_byteAt_41 (by decide) (fun c_8 => ?_) (fun c_8 => ?_)
    · have h := lf_f h c_8
      exact hB_59 y_1 y_2 Y G S _ _ _ h m0 hP hD hS (lv_sub hl [0, 1, 2] rfl)
    · have h := lf_t h c_8
      refine lv_aload_n hx hb d_Vt_byteAt_44 rfl (lv_at hl 0 rfl) ?_
      refine va_get (D := (dC, dI)) (ci := 11) (v := .ref M.o_In) (C := R_Vt) (T := F_Vt) (N := 16) hx hb hts (fun w h => u_Vq_Vt w (i_Vt w h)) hown hK hP 0 rfl rfl 8 (by decide) (hts _ (u_Vq_Vt _ k_Vt_37)) (fun _ h9 => h9) rfl d_Vt_byteAt_45 ?_
      refine lv_iload_n hx hb d_Vt_byteAt_48 rfl (lv_at hl 1 rfl) ?_
      obtain ⟨r_9, S_9, hc_9, h⟩ := lf_cE h
      have hFc := lx_free hD hS hA
      refine va_calli (va_runV (As := [.int y_1]) (rest := []) ⟨hx, hb, hml, hown, hts⟩ (l_In_shows l dC dI X _ hc_9) (cwV 1 hts (gwV good_Vq (u_Vq_Vt _ k_Vt_80) (u_Vq_In _ k_In_18) (u_Vq_In _ k_In_19) (u_Vq_In _ k_In_0) (wcs (u_Vq_In _ k_In_20) (fun _ h => h))) rfl rfl rfl (by decide +kernel) ⟨Nat.le_of_ble_eq_true rfl, Nat.le_of_ble_eq_true rfl⟩) (pv_ofE (X.same _) (fun U z1 z2 => X.mono _ _ U hFc (hEw _ _ hS U z1 z2)) hP hK hD (va_recv hK hP (ci := 6) (q0 := 9) rfl rfl)) rfl rfl hl.1 rfl (lv_room (Nat.le_of_ble_eq_true rfl)) d_Vt_byteAt_49 ⟨ly_c0 mF.1, ly_c0 mF.2⟩) hS (fun q _ h => hFc q h) hFc (fun r_ u t H locs ht hvm hw hB hz1 hk1 hS => ?_)
      rw [hw]
      obtain ⟨hP, -, hD⟩ := hB
      rw [ht] at hP
      have hD := lx_dj hD hFc
      refine lv_if_eq (tgt := 59) hx hb d_Vt_byteAt_52 (by decide) (fun c_10 => ?_) (fun c_10 => ?_)
      · have h := lf_t h c_10
        exact hB_59 y_1 y_2 Y G S_9 _ _ _ h m0 hP hD hS (lv_sub hl [0, 1, 2] rfl)
      · have h := lf_f h c_10
        exact hB_55 y_1 y_2 Y G S_9 _ _ _ h m0 hP hD hS (lv_sub hl [0, 1, 2] rfl)
  have hB_18 : ∀ (y_1 : Int32) (y_2 : Int32) (z_0 : Int32) (Y : CT) (G : CG) (S : CS) (H : Heap) (locs : List Loc) (ls : Array Slot), f_Vt_byteAt_18 K y_1 y_2 z_0 G S = some (r, G', S') → CG.le G0 G → va_P (dC, dI) classes (wV M Y G S) H → va_D A (wV M Y G S) → va_S A s.heap H locs → lv_has ls 5 [(0, .ref M.o_Vt), (1, .int y_1), (2, .int y_2)] → W p l e ({ frames := 8, cells := G'.gc - G0.gc, slots := G'.gs - G0.gs, locals := 224 }) s m ([.ref M.o_Vt, .int p0, .int p1] : List Value).toArray below meth c H locs (G.gc - G0.gc) (G.gs - G0.gs) Q (F0 m 18 ls [.int z_0]) := by
    intro y_1 y_2 z_0 Y G S H locs ls h m0 hP hD hS hl
    have mF := mo_Vt_byteAt_18 h
    rw [f_Vt_byteAt_18] at h
    refine lv_istore_n (lv' := [(3, .int z_0), (0, .ref M.o_Vt), (1, .int y_1), (2, .int y_2)]) hx hb d_Vt_byteAt_18 rfl hl (by decide) rfl (fun ls hl => ?_)
    refine lv_iload_n hx hb d_Vt_byteAt_19 rfl (lv_at hl 0 rfl) ?_
    refine lv_if_eq (tgt := 55) hx hb d_Vt_byteAt_20 (by decide) (fun c_4 => ?_) (fun c_4 => ?_)
    · have h := lf_t h c_4
      exact hB_55 y_1 y_2 Y G S _ _ _ h m0 hP hD hS (lv_sub hl [1, 2, 3] rfl)
    · have h := lf_f h c_4
      refine lv_iload_n hx hb d_Vt_byteAt_23 rfl (lv_at hl 0 rfl) ?_
      refine lv_iconst (v := 1) hx hb d_Vt_byteAt_24 (by decide) ?_
      refine lv_icmp_ne (tgt := 39) hx hb d_Vt_byteAt_25 (by decide) (fun c_5 => ?_) (fun c_5 => ?_)
      · have h := lf_f h c_5
        exact hB_39 y_1 y_2 z_0 Y G S _ _ _ h m0 hP hD hS (lv_sub hl [1, 2, 3, 0] rfl)
      · have h := lf_t h c_5
        refine lv_aload_n hx hb d_Vt_byteAt_28 rfl (lv_at hl 1 rfl) ?_
        refine va_get (D := (dC, dI)) (ci := 11) (v := .ref M.o_Tb) (C := R_Vt) (T := F_Vt) (N := 16) hx hb hts (fun w h => u_Vq_Vt w (i_Vt w h)) hown hK hP 0 rfl rfl 2 (by decide) (hts _ (u_Vq_Vt _ k_Vt_31)) (fun _ h9 => h9) rfl d_Vt_byteAt_29 ?_
        refine lv_iload_n hx hb d_Vt_byteAt_32 rfl (lv_at hl 2 rfl) ?_
        obtain ⟨r_6, S_6, hc_6, h⟩ := lf_cE h
        have hFc := lx_free hD hS hA
        refine va_calli (va_runV (As := [.int y_1]) (rest := []) ⟨hx, hb, hml, hown, hts⟩ (l_Tb_shows l dC dI X _ hc_6) (cwV 1 hts (gwV good_Vq (u_Vq_Vt _ k_Vt_79) (u_Vq_Tb _ k_Tb_66) (u_Vq_Tb _ k_Tb_67) (u_Vq_Tb _ k_Tb_0) (wcs (u_Vq_Tb _ k_Tb_68) (fun _ h => h))) rfl rfl rfl (by decide +kernel) ⟨Nat.le_of_ble_eq_true rfl, Nat.le_of_ble_eq_true rfl⟩) (pv_ofE (X.same _) (fun U z1 z2 => X.mono _ _ U hFc (hEw _ _ hS U z1 z2)) hP hK hD (va_recv hK hP (ci := 4) (q0 := 3) rfl rfl)) rfl rfl hl.1 rfl (lv_room (Nat.le_of_ble_eq_true rfl)) d_Vt_byteAt_33 ⟨ly_c0 mF.1, ly_c0 mF.2⟩) hS (fun q _ h => hFc q h) hFc (fun r_ u t H locs ht hvm hw hB hz1 hk1 hS => ?_)
        rw [hw]
        obtain ⟨hP, -, hD⟩ := hB
        rw [ht] at hP
        have hD := lx_dj hD hFc
        refine lv_if_ne (tgt := 55) hx hb d_Vt_byteAt_36 (by decide) (fun c_7 => ?_) (fun c_7 => ?_)
        · have h := lf_f h c_7
          exact hB_55 y_1 y_2 Y G S_6 _ _ _ h m0 hP hD hS (lv_sub hl [1, 2, 3] rfl)
        · have h := lf_t h c_7
          exact hB_39 y_1 y_2 z_0 Y G S_6 _ _ _ h m0 hP hD hS (lv_sub hl [1, 2, 3, 0] rfl)
  have m0 : CG.le G0 G0 := ⟨Nat.le_refl _, Nat.le_refl _⟩
  have mF := mo_Vt_byteAt h
  refine W.widen (k := G0.gc - G0.gc) (n := G0.gs - G0.gs) (Nat.zero_le _) (Nat.zero_le _) ?_
  rw [f_Vt_byteAt] at h
  refine lv_aload_n hx hb d_Vt_byteAt_0 rfl (lv_at hl 0 rfl) ?_
  refine va_get (D := (dC, dI)) (ci := 11) (v := .ref M.o_Dk) (C := R_Vt) (T := F_Vt) (N := 16) hx hb hts (fun w h => u_Vq_Vt w (i_Vt w h)) hown hK hP 0 rfl rfl 0 (by decide) (hts _ (u_Vq_Vt _ k_Vt_29)) (fun _ h9 => h9) rfl d_Vt_byteAt_1 ?_
  refine lv_iload_n hx hb d_Vt_byteAt_4 rfl (lv_at hl 1 rfl) ?_
  refine lv_iload_n hx hb d_Vt_byteAt_5 rfl (lv_at hl 2 rfl) ?_
  obtain ⟨r_1, S_1, hc_1, h⟩ := lf_cE h
  have hFc := lx_free hD hS hA
  refine va_calli (va_runV (As := [.int p0, .int p1]) (rest := []) ⟨hx, hb, hml, hown, hts⟩ (l_Dk_has l dC dI X _ hc_1) (cwV 2 hts (gwV good_Vq (u_Vq_Vt _ k_Vt_60) (u_Vq_Dk _ k_Dk_8) (u_Vq_Dk _ k_Dk_9) (u_Vq_Dk _ k_Dk_0) (wcs (u_Vq_Dk _ k_Dk_10) (fun _ h => h))) rfl rfl rfl (by decide +kernel) ⟨Nat.le_of_ble_eq_true rfl, Nat.le_of_ble_eq_true rfl⟩) (pv_ofE (X.same _) (fun U z1 z2 => X.mono _ _ U hFc (hEw _ _ hS U z1 z2)) hP hK hD (va_recv hK hP (ci := 0) (q0 := 1) rfl rfl)) rfl rfl hl.1 rfl (lv_room (Nat.le_of_ble_eq_true rfl)) d_Vt_byteAt_6 ⟨ly_c0 mF.1, ly_c0 mF.2⟩) hS (fun q _ h => hFc q h) hFc (fun r_ u t H locs ht hvm hw hB hz1 hk1 hS => ?_)
  rw [hw]
  obtain ⟨hP, -, hD⟩ := hB
  rw [ht] at hP
  have hD := lx_dj hD hFc
  refine lv_if_ne (tgt := 14) hx hb d_Vt_byteAt_9 (by decide) (fun c_2 => ?_) (fun c_2 => ?_)
  · have h := lf_f h c_2
    refine lv_aload_n hx hb d_Vt_byteAt_14 rfl (lv_at hl 0 rfl) ?_
    obtain ⟨r_3, G_3, S_3, hc_3, h⟩ := lf_nE h
    have mc := mo_Vt_look hc_3
    have ml_3 := mo_Vt_look hc_3
    have mF1 := mo_Vt_byteAt_18 h
    have hFc := lx_free hD hS hA
    refine va_calli (va_runV (As := []) (rest := []) ⟨hx, hb, hml, hown, hts⟩ (l_Vt_look l dC dI X _ hc_3) (cwV 0 hts (gwV good_Vq (u_Vq_Vt _ k_Vt_68) (u_Vq_Vt _ k_Vt_69) (u_Vq_Vt _ k_Vt_214) (u_Vq_Vt _ k_Vt_0) (wcs (u_Vq_Vt _ k_Vt_70) (fun _ h => h))) rfl rfl rfl (by decide +kernel) ⟨Nat.le_of_ble_eq_true rfl, Nat.le_of_ble_eq_true rfl⟩) (pv_ofE (X.same _) (fun U z1 z2 => X.mono _ _ U hFc (hEw _ _ hS U z1 z2)) hP hK hD (va_recv hK hP (ci := 11) (q0 := 0) rfl rfl)) rfl rfl hl.1 rfl (lv_room (Nat.le_of_ble_eq_true rfl)) d_Vt_byteAt_15 ⟨ly_c1 m0.1 mc.1 mF1.1, ly_c1 m0.2 mc.2 mF1.2⟩) hS (fun q _ h => hFc q h) hFc (fun r_ Y_3 t H locs ht hvm hw hB hz1 hk1 hS => ?_)
    rw [hw]
    obtain ⟨hP, -, hD⟩ := hB
    rw [ht] at hP
    have hD := lx_dj hD hFc
    refine W.widen (k := G_3.gc - G0.gc) (n := G_3.gs - G0.gs) (ly_c2 m0.1 mc.1) (ly_c2 m0.2 mc.2) ?_
    have m0 := CG.le_tr m0 mc
    exact hB_18 p0 p1 r_3 Y_3 G_3 S_3 _ _ _ h m0 hP hD hS (lv_sub hl [0, 1, 2] rfl)
  · have h := lf_t h c_2
    refine lv_iconst (v := (-1)) hx hb d_Vt_byteAt_12 (by decide) ?_
    rw [hQ]
    have e1 : ((-1)) = r := congrArg (fun z => z.1) (Option.some.inj h)
    have e2 : G0 = G' := congrArg (fun z => z.2.1) (Option.some.inj h)
    have e3 : S_1 = S' := congrArg (fun z => z.2.2) (Option.some.inj h)
    have hP := ly_newP3 e2.symm e3.symm hP
    have hD := ly_newD3 e2.symm e3.symm hD
    refine W.widen (k := G'.gc - G0.gc) (n := G'.gs - G0.gs) (ly_wc e2) (ly_ws e2) ?_
    exact W.iret (v := ((-1))) hx hb hr (fun t ht hW => ⟨⟨((-1)), Y, rfl, e1, by rw [ht]; exact hP, va_K.moved hW.alike hK, hD⟩, hS.F ht⟩) hS.2.2 d_Vt_byteAt_13
set_option maxHeartbeats 4000000 in
set_option maxRecDepth 100000 in
theorem l_Vt_plan (l : Launch) (dC : Nat → ClassId) (dI : Nat → Nat → Nat) {K : Nat} {M : CA} {E : (Nat → Prop) → State → Prop} (X : ly_X l dC dI K M E) (sz : Nat) {Y : CT} {G0 G' : CG} {S S' : CS} {p0 : Int32} {p1 : Int32} {r : Int32} (h : f_Vt_plan K G0 S p0 p1 = some (r, G', S')) : Met l y_Vt_plan (.code y_Vt_plan cb_Vt_plan 4 (some .int) :: V_Vq) ({ frames := 11, cells := G'.gc - G0.gc, slots := G'.gs - G0.gs, locals := 311 }) (va_Pc [.ref M.o_Vt, .int p0, .int p1] (fun U => U.heap.size = sz ∧ at_ (dC, dI) (fun _ => True) (wV M Y G0 S) (tV M) U ∧ E (va_A (wV M Y G0 S) sz) U)) (va_Qi (fun (r_ : Int32) (u : CT) => r_ = r) (fun (u : CT) t => at_ (dC, dI) (va_A (wV M Y G0 S) sz) (wV M u G' S') (tV M) t) (va_A (wV M Y G0 S) sz)) (G'.gc - G0.gc) (G'.gs - G0.gs) (va_A (wV M Y G0 S) sz) := by
  refine Met.ofW (cc := cb_Vt_plan) (maxL := 4) (ret := (some .int)) (by decide) rfl ?_
  intro p e s m args below meth c s₁ B hml hv
  obtain ⟨rfl, hsz, ⟨hP, hK, hD0⟩, hE⟩ := hv
  have hx := B.exec
  have hb := B.bytes
  have hr := B.returns
  have hts0 := atoms_spec (ws := .code y_Vt_plan cb_Vt_plan 4 (some .int) :: V_Vq) B.pre
  have hts : ∀ w ∈ V_Vq, w.before ([.ref M.o_Vt, .int p0, .int p1] : List Value).toArray s = true := fun w h => hts0 w (List.mem_cons_of_mem _ h)
  have hown : s.vm.findClass R_Vt = some m.cls := findClass_of_methodNamed B.named
  subst hsz
  have hD := hD0.self (sz := s.heap.size)
  generalize hAe : va_A (wV M Y G0 S) s.heap.size = A at hD hE ⊢
  have hA : ∀ q : Nat, s.heap.size ≤ q → A q := fun q h => by rw [← hAe]; exact Or.inr h
  have hS : va_S A s.heap s.heap [] := va_S.rf
  have hP : va_P (dC, dI) classes (wV M Y G0 S) s.heap := hP
  have hK : va_K (dC, dI) classes (tV M) s := hK
  have hEw : ∀ (H : Heap) (locs : List Loc), va_S A s.heap H locs → ∀ U : State, U.heap = H → s.WarmedH U.vm → E A U := fun H locs hS U hU hW => X.kept A s U H locs hE hS hU hW
  have hl := lv_entry ([.ref M.o_Vt, .int p0, .int p1]) (n := 4) (Nat.le_of_ble_eq_true rfl)
  rw [lg_entry_eq]
  generalize (lg_sl ([.ref M.o_Vt, .int p0, .int p1]) ++ List.replicate (4 - (lg_sl ([.ref M.o_Vt, .int p0, .int p1])).length) Slot.unset).toArray = ls at hl ⊢
  have hl : lv_has ls 4 [(0, .ref M.o_Vt), (1, .int p0), (2, .int p1)] := hl
  refine qabs (fun Q hQ => ?_)
  have hB_18 : ∀ (Y : CT) (G : CG) (S : CS) (H : Heap) (locs : List Loc) (ls : Array Slot), f_Vt_plan_18 K G S = some (r, G', S') → CG.le G0 G → va_P (dC, dI) classes (wV M Y G S) H → va_D A (wV M Y G S) → va_S A s.heap H locs → lv_has ls 4 [] → W p l e ({ frames := 11, cells := G'.gc - G0.gc, slots := G'.gs - G0.gs, locals := 311 }) s m ([.ref M.o_Vt, .int p0, .int p1] : List Value).toArray below meth c H locs (G.gc - G0.gc) (G.gs - G0.gs) Q (F0 m 18 ls []) := by
    intro Y G S H locs ls h m0 hP hD hS hl
    have mF := mo_Vt_plan_18 h
    rw [f_Vt_plan_18] at h
    refine lv_iconst (v := (-1)) hx hb d_Vt_plan_18 (by decide) ?_
    rw [hQ]
    have e1 : ((-1)) = r := congrArg (fun z => z.1) (Option.some.inj h)
    have e2 : G = G' := congrArg (fun z => z.2.1) (Option.some.inj h)
    have e3 : S = S' := congrArg (fun z => z.2.2) (Option.some.inj h)
    have hP := ly_newP3 e2.symm e3.symm hP
    have hD := ly_newD3 e2.symm e3.symm hD
    refine W.widen (k := G'.gc - G0.gc) (n := G'.gs - G0.gs) (ly_wc e2) (ly_ws e2) ?_
    exact W.iret (v := ((-1))) hx hb hr (fun t ht hW => ⟨⟨((-1)), Y, rfl, e1, by rw [ht]; exact hP, va_K.moved hW.alike hK, hD⟩, hS.F ht⟩) hS.2.2 d_Vt_plan_19
  have hB_14 : ∀ (y_1 : Int32) (y_2 : Int32) (z_0 : Int32) (Y : CT) (G : CG) (S : CS) (H : Heap) (locs : List Loc) (ls : Array Slot), f_Vt_plan_14 K y_1 y_2 z_0 G S = some (r, G', S') → CG.le G0 G → va_P (dC, dI) classes (wV M Y G S) H → va_D A (wV M Y G S) → va_S A s.heap H locs → lv_has ls 4 [(0, .ref M.o_Vt), (1, .int y_1), (2, .int y_2)] → W p l e ({ frames := 11, cells := G'.gc - G0.gc, slots := G'.gs - G0.gs, locals := 311 }) s m ([.ref M.o_Vt, .int p0, .int p1] : List Value).toArray below meth c H locs (G.gc - G0.gc) (G.gs - G0.gs) Q (F0 m 14 ls [.int z_0]) := by
    intro y_1 y_2 z_0 Y G S H locs ls h m0 hP hD hS hl
    have mF := mo_Vt_plan_14 h
    rw [f_Vt_plan_14] at h
    refine lv_iconst (v := 1) hx hb d_Vt_plan_14 (by decide) ?_
    refine lv_icmp_eq (tgt := 20) hx hb d_Vt_plan_15 (by decide) (fun c_4 => ?_) (fun c_4 => ?_)
    · have h := lf_t h c_4
      refine lv_aload_n hx hb d_Vt_plan_20 rfl (lv_at hl 0 rfl) ?_
      refine va_get (D := (dC, dI)) (ci := 11) (v := .ref M.o_Pl) (C := R_Vt) (T := F_Vt) (N := 16) hx hb hts (fun w h => u_Vq_Vt w (i_Vt w h)) hown hK hP 0 rfl rfl 6 (by decide) (hts _ (u_Vq_Vt _ k_Vt_35)) (fun _ h9 => h9) rfl d_Vt_plan_21 ?_
      refine lv_iload_n hx hb d_Vt_plan_24 rfl (lv_at hl 1 rfl) ?_
      refine lv_aload_n hx hb d_Vt_plan_25 rfl (lv_at hl 0 rfl) ?_
      refine va_get (D := (dC, dI)) (ci := 11) (v := .int S.v_Vt_lastFault) (C := R_Vt) (T := F_Vt) (N := 16) hx hb hts (fun w h => u_Vq_Vt w (i_Vt w h)) hown hK hP 0 rfl rfl 14 (by decide) (hts _ (u_Vq_Vt _ k_Vt_43)) (fun _ h9 => h9) rfl d_Vt_plan_26 ?_
      obtain ⟨r_5, S_5, hc_5, h⟩ := lf_cE h
      have hFc := lx_free hD hS hA
      refine va_calli (va_runV (As := [.int y_1, .int S.v_Vt_lastFault]) (rest := []) ⟨hx, hb, hml, hown, hts⟩ (l_Pl_refusal l dC dI X _ hc_5) (cwV 2 hts (gwV good_Vq (u_Vq_Vt _ k_Vt_85) (u_Vq_Pl _ k_Pl_28) (u_Vq_Pl _ k_Pl_29) (u_Vq_Pl _ k_Pl_0) (wcs (u_Vq_Pl _ k_Pl_30) (fun _ h => h))) rfl rfl rfl (by decide +kernel) ⟨Nat.le_of_ble_eq_true rfl, Nat.le_of_ble_eq_true rfl⟩) (pv_ofE (X.same _) (fun U z1 z2 => X.mono _ _ U hFc (hEw _ _ hS U z1 z2)) hP hK hD (va_recv hK hP (ci := 9) (q0 := 7) rfl rfl)) rfl rfl hl.1 rfl (lv_room (Nat.le_of_ble_eq_true rfl)) d_Vt_plan_29 ⟨ly_c0 mF.1, ly_c0 mF.2⟩) hS (fun q _ h => hFc q h) hFc (fun r_ u t H locs ht hvm hw hB hz1 hk1 hS => ?_)
      rw [hw]
      obtain ⟨hP, -, hD⟩ := hB
      rw [ht] at hP
      have hD := lx_dj hD hFc
      refine lv_istore_n (lv' := [(3, .int r_5), (0, .ref M.o_Vt), (1, .int y_1), (2, .int y_2)]) hx hb d_Vt_plan_32 rfl hl (by decide) rfl (fun ls hl => ?_)
      refine lv_iload_n hx hb d_Vt_plan_33 rfl (lv_at hl 3 rfl) ?_
      refine lv_if_ne (tgt := 39) hx hb d_Vt_plan_34 (by decide) (fun c_6 => ?_) (fun c_6 => ?_)
      · have h := lf_f h c_6
        refine lv_iload_n hx hb d_Vt_plan_39 rfl (lv_at hl 0 rfl) ?_
        refine lv_if_ne (tgt := 54) hx hb d_Vt_plan_40 (by decide) (fun c_7 => ?_) (fun c_7 => ?_)
        · have h := lf_f h c_7
          refine lv_iconst (v := (-1)) hx hb d_Vt_plan_54 (by decide) ?_
          rw [hQ]
          have e1 : ((-1)) = r := congrArg (fun z => z.1) (Option.some.inj h)
          have e2 : G = G' := congrArg (fun z => z.2.1) (Option.some.inj h)
          have e3 : S_5 = S' := congrArg (fun z => z.2.2) (Option.some.inj h)
          have hP := ly_newP3 e2.symm e3.symm hP
          have hD := ly_newD3 e2.symm e3.symm hD
          refine W.widen (k := G'.gc - G0.gc) (n := G'.gs - G0.gs) (ly_wc e2) (ly_ws e2) ?_
          exact W.iret (v := ((-1))) hx hb hr (fun t ht hW => ⟨⟨((-1)), Y, rfl, e1, by rw [ht]; exact hP, va_K.moved hW.alike hK, hD⟩, hS.F ht⟩) hS.2.2 d_Vt_plan_55
        · have h := lf_t h c_7
          refine lv_aload_n hx hb d_Vt_plan_43 rfl (lv_at hl 1 rfl) ?_
          refine va_get (D := (dC, dI)) (ci := 11) (v := .ref M.o_Pl) (C := R_Vt) (T := F_Vt) (N := 16) hx hb hts (fun w h => u_Vq_Vt w (i_Vt w h)) hown hK hP 0 rfl rfl 6 (by decide) (hts _ (u_Vq_Vt _ k_Vt_35)) (fun _ h9 => h9) rfl d_Vt_plan_44 ?_
          refine lv_iload_n hx hb d_Vt_plan_47 rfl (lv_at hl 3 rfl) ?_
          obtain ⟨r_8, S_8, hc_8, h⟩ := lf_cE h
          have hFc := lx_free hD hS hA
          refine va_calli (va_runV (As := [.int y_2]) (rest := []) ⟨hx, hb, hml, hown, hts⟩ (l_Pl_number l dC dI X _ hc_8) (cwV 1 hts (gwV good_Vq (u_Vq_Vt _ k_Vt_86) (u_Vq_Pl _ k_Pl_150) (u_Vq_Pl _ k_Pl_151) (u_Vq_Pl _ k_Pl_0) (wcs (u_Vq_Pl _ k_Pl_152) (fun _ h => h))) rfl rfl rfl (by decide +kernel) ⟨Nat.le_of_ble_eq_true rfl, Nat.le_of_ble_eq_true rfl⟩) (pv_ofE (X.same _) (fun U z1 z2 => X.mono _ _ U hFc (hEw _ _ hS U z1 z2)) hP hK hD (va_recv hK hP (ci := 9) (q0 := 7) rfl rfl)) rfl rfl hl.1 rfl (lv_room (Nat.le_of_ble_eq_true rfl)) d_Vt_plan_48 ⟨ly_c0 mF.1, ly_c0 mF.2⟩) hS (fun q _ h => hFc q h) hFc (fun r_ u t H locs ht hvm hw hB hz1 hk1 hS => ?_)
          rw [hw]
          obtain ⟨hP, -, hD⟩ := hB
          rw [ht] at hP
          have hD := lx_dj hD hFc
          refine lv_goto (tgt := 55) hx hb d_Vt_plan_51 (by decide) ?_
          rw [hQ]
          have e1 : r_8 = r := congrArg (fun z => z.1) (Option.some.inj h)
          have e2 : G = G' := congrArg (fun z => z.2.1) (Option.some.inj h)
          have e3 : S_8 = S' := congrArg (fun z => z.2.2) (Option.some.inj h)
          have hP := ly_newP3 e2.symm e3.symm hP
          have hD := ly_newD3 e2.symm e3.symm hD
          refine W.widen (k := G'.gc - G0.gc) (n := G'.gs - G0.gs) (ly_wc e2) (ly_ws e2) ?_
          exact W.iret (v := r_8) hx hb hr (fun t ht hW => ⟨⟨r_8, Y, rfl, e1, by rw [ht]; exact hP, va_K.moved hW.alike hK, hD⟩, hS.F ht⟩) hS.2.2 d_Vt_plan_55
      · have h := lf_t h c_6
        refine lv_iload_n hx hb d_Vt_plan_37 rfl (lv_at hl 0 rfl) ?_
        rw [hQ]
        have e1 : r_5 = r := congrArg (fun z => z.1) (Option.some.inj h)
        have e2 : G = G' := congrArg (fun z => z.2.1) (Option.some.inj h)
        have e3 : S_5 = S' := congrArg (fun z => z.2.2) (Option.some.inj h)
        have hP := ly_newP3 e2.symm e3.symm hP
        have hD := ly_newD3 e2.symm e3.symm hD
        refine W.widen (k := G'.gc - G0.gc) (n := G'.gs - G0.gs) (ly_wc e2) (ly_ws e2) ?_
        exact W.iret (v := r_5) hx hb hr (fun t ht hW => ⟨⟨r_5, Y, rfl, e1, by rw [ht]; exact hP, va_K.moved hW.alike hK, hD⟩, hS.F ht⟩) hS.2.2 d_Vt_plan_38
    · have h := lf_f h c_4
      exact hB_18 Y G S _ _ _ h m0 hP hD hS (lv_sub hl [] rfl)
  have m0 : CG.le G0 G0 := ⟨Nat.le_refl _, Nat.le_refl _⟩
  have mF := mo_Vt_plan h
  refine W.widen (k := G0.gc - G0.gc) (n := G0.gs - G0.gs) (Nat.zero_le _) (Nat.zero_le _) ?_
  rw [f_Vt_plan] at h
  refine lv_iload_n hx hb d_Vt_plan_0 rfl (lv_at hl 2 rfl) ?_
  refine lv_if_lt (tgt := 18) hx hb d_Vt_plan_1 (by decide) (fun c_1 => ?_) (fun c_1 => ?_)
  · have h := lf_t h c_1
    exact hB_18 Y G0 S _ _ _ h m0 hP hD hS (lv_sub hl [] rfl)
  · have h := lf_f h c_1
    refine lv_iload_n hx hb d_Vt_plan_4 rfl (lv_at hl 2 rfl) ?_
    refine lv_bipush (v := 6) hx hb d_Vt_plan_5 (by decide) ?_
    refine lv_icmp_gt (tgt := 18) hx hb d_Vt_plan_7 (by decide) (fun c_2 => ?_) (fun c_2 => ?_)
    · have h := lf_t h c_2
      exact hB_18 Y G0 S _ _ _ h m0 hP hD hS (lv_sub hl [] rfl)
    · have h := lf_f h c_2
      refine lv_aload_n hx hb d_Vt_plan_10 rfl (lv_at hl 0 rfl) ?_
      obtain ⟨r_3, G_3, S_3, hc_3, h⟩ := lf_nE h
      have mc := mo_Vt_look hc_3
      have ml_3 := mo_Vt_look hc_3
      have mF1 := mo_Vt_plan_14 h
      have hFc := lx_free hD hS hA
      refine va_calli (va_runV (As := []) (rest := []) ⟨hx, hb, hml, hown, hts⟩ (l_Vt_look l dC dI X _ hc_3) (cwV 0 hts (gwV good_Vq (u_Vq_Vt _ k_Vt_68) (u_Vq_Vt _ k_Vt_69) (u_Vq_Vt _ k_Vt_214) (u_Vq_Vt _ k_Vt_0) (wcs (u_Vq_Vt _ k_Vt_70) (fun _ h => h))) rfl rfl rfl (by decide +kernel) ⟨Nat.le_of_ble_eq_true rfl, Nat.le_of_ble_eq_true rfl⟩) (pv_ofE (X.same _) (fun U z1 z2 => X.mono _ _ U hFc (hEw _ _ hS U z1 z2)) hP hK hD (va_recv hK hP (ci := 11) (q0 := 0) rfl rfl)) rfl rfl hl.1 rfl (lv_room (Nat.le_of_ble_eq_true rfl)) d_Vt_plan_11 ⟨ly_c1 m0.1 mc.1 mF1.1, ly_c1 m0.2 mc.2 mF1.2⟩) hS (fun q _ h => hFc q h) hFc (fun r_ Y_3 t H locs ht hvm hw hB hz1 hk1 hS => ?_)
      rw [hw]
      obtain ⟨hP, -, hD⟩ := hB
      rw [ht] at hP
      have hD := lx_dj hD hFc
      refine W.widen (k := G_3.gc - G0.gc) (n := G_3.gs - G0.gs) (ly_c2 m0.1 mc.1) (ly_c2 m0.2 mc.2) ?_
      have m0 := CG.le_tr m0 mc
      exact hB_14 p0 p1 r_3 Y_3 G_3 S_3 _ _ _ h m0 hP hD hS (lv_sub hl [0, 1, 2] rfl)
set_option maxHeartbeats 4000000 in
set_option maxRecDepth 100000 in
theorem l_Vt_target (l : Launch) (dC : Nat → ClassId) (dI : Nat → Nat → Nat) {K : Nat} {M : CA} {E : (Nat → Prop) → State → Prop} (X : ly_X l dC dI K M E) (sz : Nat) {Y : CT} {G0 G' : CG} {S S' : CS} {p0 : Int32} {p1 : Int32} {r : Int32} (h : f_Vt_target K G0 S p0 p1 = some (r, G', S')) : Met l y_Vt_target (.code y_Vt_target cb_Vt_target 3 (some .int) :: V_Vq) ({ frames := 11, cells := G'.gc - G0.gc, slots := G'.gs - G0.gs, locals := 311 }) (va_Pc [.ref M.o_Vt, .int p0, .int p1] (fun U => U.heap.size = sz ∧ at_ (dC, dI) (fun _ => True) (wV M Y G0 S) (tV M) U ∧ E (va_A (wV M Y G0 S) sz) U)) (va_Qi (fun (r_ : Int32) (u : CT) => r_ = r) (fun (u : CT) t => at_ (dC, dI) (va_A (wV M Y G0 S) sz) (wV M u G' S') (tV M) t) (va_A (wV M Y G0 S) sz)) (G'.gc - G0.gc) (G'.gs - G0.gs) (va_A (wV M Y G0 S) sz) := by
  refine Met.ofW (cc := cb_Vt_target) (maxL := 3) (ret := (some .int)) (by decide) rfl ?_
  intro p e s m args below meth c s₁ B hml hv
  obtain ⟨rfl, hsz, ⟨hP, hK, hD0⟩, hE⟩ := hv
  have hx := B.exec
  have hb := B.bytes
  have hr := B.returns
  have hts0 := atoms_spec (ws := .code y_Vt_target cb_Vt_target 3 (some .int) :: V_Vq) B.pre
  have hts : ∀ w ∈ V_Vq, w.before ([.ref M.o_Vt, .int p0, .int p1] : List Value).toArray s = true := fun w h => hts0 w (List.mem_cons_of_mem _ h)
  have hown : s.vm.findClass R_Vt = some m.cls := findClass_of_methodNamed B.named
  subst hsz
  have hD := hD0.self (sz := s.heap.size)
  generalize hAe : va_A (wV M Y G0 S) s.heap.size = A at hD hE ⊢
  have hA : ∀ q : Nat, s.heap.size ≤ q → A q := fun q h => by rw [← hAe]; exact Or.inr h
  have hS : va_S A s.heap s.heap [] := va_S.rf
  have hP : va_P (dC, dI) classes (wV M Y G0 S) s.heap := hP
  have hK : va_K (dC, dI) classes (tV M) s := hK
  have hEw : ∀ (H : Heap) (locs : List Loc), va_S A s.heap H locs → ∀ U : State, U.heap = H → s.WarmedH U.vm → E A U := fun H locs hS U hU hW => X.kept A s U H locs hE hS hU hW
  have hl := lv_entry ([.ref M.o_Vt, .int p0, .int p1]) (n := 3) (Nat.le_of_ble_eq_true rfl)
  rw [lg_entry_eq]
  generalize (lg_sl ([.ref M.o_Vt, .int p0, .int p1]) ++ List.replicate (3 - (lg_sl ([.ref M.o_Vt, .int p0, .int p1])).length) Slot.unset).toArray = ls at hl ⊢
  have hl : lv_has ls 3 [(0, .ref M.o_Vt), (1, .int p0), (2, .int p1)] := hl
  refine qabs (fun Q hQ => ?_)
  have hB_23 : ∀ (Y : CT) (G : CG) (S : CS) (H : Heap) (locs : List Loc) (ls : Array Slot), f_Vt_target_23 K G S = some (r, G', S') → CG.le G0 G → va_P (dC, dI) classes (wV M Y G S) H → va_D A (wV M Y G S) → va_S A s.heap H locs → lv_has ls 3 [] → W p l e ({ frames := 11, cells := G'.gc - G0.gc, slots := G'.gs - G0.gs, locals := 311 }) s m ([.ref M.o_Vt, .int p0, .int p1] : List Value).toArray below meth c H locs (G.gc - G0.gc) (G.gs - G0.gs) Q (F0 m 23 ls []) := by
    intro Y G S H locs ls h m0 hP hD hS hl
    have mF := mo_Vt_target_23 h
    rw [f_Vt_target_23] at h
    refine lv_iconst (v := (-1)) hx hb d_Vt_target_23 (by decide) ?_
    rw [hQ]
    have e1 : ((-1)) = r := congrArg (fun z => z.1) (Option.some.inj h)
    have e2 : G = G' := congrArg (fun z => z.2.1) (Option.some.inj h)
    have e3 : S = S' := congrArg (fun z => z.2.2) (Option.some.inj h)
    have hP := ly_newP3 e2.symm e3.symm hP
    have hD := ly_newD3 e2.symm e3.symm hD
    refine W.widen (k := G'.gc - G0.gc) (n := G'.gs - G0.gs) (ly_wc e2) (ly_ws e2) ?_
    exact W.iret (v := ((-1))) hx hb hr (fun t ht hW => ⟨⟨((-1)), Y, rfl, e1, by rw [ht]; exact hP, va_K.moved hW.alike hK, hD⟩, hS.F ht⟩) hS.2.2 d_Vt_target_24
  have hB_4 : ∀ (y_1 : Int32) (y_2 : Int32) (z_0 : Int32) (Y : CT) (G : CG) (S : CS) (H : Heap) (locs : List Loc) (ls : Array Slot), f_Vt_target_4 K y_1 y_2 z_0 G S = some (r, G', S') → CG.le G0 G → va_P (dC, dI) classes (wV M Y G S) H → va_D A (wV M Y G S) → va_S A s.heap H locs → lv_has ls 3 [(0, .ref M.o_Vt), (1, .int y_1), (2, .int y_2)] → W p l e ({ frames := 11, cells := G'.gc - G0.gc, slots := G'.gs - G0.gs, locals := 311 }) s m ([.ref M.o_Vt, .int p0, .int p1] : List Value).toArray below meth c H locs (G.gc - G0.gc) (G.gs - G0.gs) Q (F0 m 4 ls [.int z_0]) := by
    intro y_1 y_2 z_0 Y G S H locs ls h m0 hP hD hS hl
    have mF := mo_Vt_target_4 h
    rw [f_Vt_target_4] at h
    refine lv_iconst (v := 1) hx hb d_Vt_target_4 (by decide) ?_
    refine lv_icmp_ne (tgt := 23) hx hb d_Vt_target_5 (by decide) (fun c_2 => ?_) (fun c_2 => ?_)
    · have h := lf_f h c_2
      exact hB_23 Y G S _ _ _ h m0 hP hD hS (lv_sub hl [] rfl)
    · have h := lf_t h c_2
      refine lv_aload_n hx hb d_Vt_target_8 rfl (lv_at hl 0 rfl) ?_
      refine va_get (D := (dC, dI)) (ci := 11) (v := .ref M.o_Pl) (C := R_Vt) (T := F_Vt) (N := 16) hx hb hts (fun w h => u_Vq_Vt w (i_Vt w h)) hown hK hP 0 rfl rfl 6 (by decide) (hts _ (u_Vq_Vt _ k_Vt_35)) (fun _ h9 => h9) rfl d_Vt_target_9 ?_
      refine lv_iload_n hx hb d_Vt_target_12 rfl (lv_at hl 1 rfl) ?_
      refine lv_aload_n hx hb d_Vt_target_13 rfl (lv_at hl 0 rfl) ?_
      refine va_get (D := (dC, dI)) (ci := 11) (v := .int S.v_Vt_lastFault) (C := R_Vt) (T := F_Vt) (N := 16) hx hb hts (fun w h => u_Vq_Vt w (i_Vt w h)) hown hK hP 0 rfl rfl 14 (by decide) (hts _ (u_Vq_Vt _ k_Vt_43)) (fun _ h9 => h9) rfl d_Vt_target_14 ?_
      obtain ⟨r_3, S_3, hc_3, h⟩ := lf_cE h
      have hFc := lx_free hD hS hA
      refine va_calli (va_runV (As := [.int y_1, .int S.v_Vt_lastFault]) (rest := []) ⟨hx, hb, hml, hown, hts⟩ (l_Pl_refusal l dC dI X _ hc_3) (cwV 2 hts (gwV good_Vq (u_Vq_Vt _ k_Vt_85) (u_Vq_Pl _ k_Pl_28) (u_Vq_Pl _ k_Pl_29) (u_Vq_Pl _ k_Pl_0) (wcs (u_Vq_Pl _ k_Pl_30) (fun _ h => h))) rfl rfl rfl (by decide +kernel) ⟨Nat.le_of_ble_eq_true rfl, Nat.le_of_ble_eq_true rfl⟩) (pv_ofE (X.same _) (fun U z1 z2 => X.mono _ _ U hFc (hEw _ _ hS U z1 z2)) hP hK hD (va_recv hK hP (ci := 9) (q0 := 7) rfl rfl)) rfl rfl hl.1 rfl (lv_room (Nat.le_of_ble_eq_true rfl)) d_Vt_target_17 ⟨ly_c0 mF.1, ly_c0 mF.2⟩) hS (fun q _ h => hFc q h) hFc (fun r_ u t H locs ht hvm hw hB hz1 hk1 hS => ?_)
      rw [hw]
      obtain ⟨hP, -, hD⟩ := hB
      rw [ht] at hP
      have hD := lx_dj hD hFc
      refine lv_if_eq (tgt := 25) hx hb d_Vt_target_20 (by decide) (fun c_4 => ?_) (fun c_4 => ?_)
      · have h := lf_t h c_4
        refine lv_aload_n hx hb d_Vt_target_25 rfl (lv_at hl 0 rfl) ?_
        refine va_get (D := (dC, dI)) (ci := 11) (v := .ref M.o_Tb) (C := R_Vt) (T := F_Vt) (N := 16) hx hb hts (fun w h => u_Vq_Vt w (i_Vt w h)) hown hK hP 0 rfl rfl 2 (by decide) (hts _ (u_Vq_Vt _ k_Vt_31)) (fun _ h9 => h9) rfl d_Vt_target_26 ?_
        refine lv_iload_n hx hb d_Vt_target_29 rfl (lv_at hl 2 rfl) ?_
        obtain ⟨r_5, S_5, hc_5, h⟩ := lf_cE h
        have hFc := lx_free hD hS hA
        refine va_calli (va_runV (As := [.int y_2]) (rest := []) ⟨hx, hb, hml, hown, hts⟩ (l_Tb_hasCluster l dC dI X _ hc_5) (cwV 1 hts (gwV good_Vq (u_Vq_Vt _ k_Vt_90) (u_Vq_Tb _ k_Tb_73) (u_Vq_Tb _ k_Tb_74) (u_Vq_Tb _ k_Tb_0) (wcs (u_Vq_Tb _ k_Tb_75) (fun _ h => h))) rfl rfl rfl (by decide +kernel) ⟨Nat.le_of_ble_eq_true rfl, Nat.le_of_ble_eq_true rfl⟩) (pv_ofE (X.same _) (fun U z1 z2 => X.mono _ _ U hFc (hEw _ _ hS U z1 z2)) hP hK hD (va_recv hK hP (ci := 4) (q0 := 3) rfl rfl)) rfl rfl hl.1 rfl (lv_room (Nat.le_of_ble_eq_true rfl)) d_Vt_target_30 ⟨ly_c0 mF.1, ly_c0 mF.2⟩) hS (fun q _ h => hFc q h) hFc (fun r_ u t H locs ht hvm hw hB hz1 hk1 hS => ?_)
        rw [hw]
        obtain ⟨hP, -, hD⟩ := hB
        rw [ht] at hP
        have hD := lx_dj hD hFc
        refine lv_if_eq (tgt := 47) hx hb d_Vt_target_33 (by decide) (fun c_6 => ?_) (fun c_6 => ?_)
        · have h := lf_t h c_6
          refine lv_iconst (v := (-1)) hx hb d_Vt_target_47 (by decide) ?_
          rw [hQ]
          have e1 : ((-1)) = r := congrArg (fun z => z.1) (Option.some.inj h)
          have e2 : G = G' := congrArg (fun z => z.2.1) (Option.some.inj h)
          have e3 : S_5 = S' := congrArg (fun z => z.2.2) (Option.some.inj h)
          have hP := ly_newP3 e2.symm e3.symm hP
          have hD := ly_newD3 e2.symm e3.symm hD
          refine W.widen (k := G'.gc - G0.gc) (n := G'.gs - G0.gs) (ly_wc e2) (ly_ws e2) ?_
          exact W.iret (v := ((-1))) hx hb hr (fun t ht hW => ⟨⟨((-1)), Y, rfl, e1, by rw [ht]; exact hP, va_K.moved hW.alike hK, hD⟩, hS.F ht⟩) hS.2.2 d_Vt_target_48
        · have h := lf_f h c_6
          refine lv_aload_n hx hb d_Vt_target_36 rfl (lv_at hl 0 rfl) ?_
          refine va_get (D := (dC, dI)) (ci := 11) (v := .ref M.o_Tb) (C := R_Vt) (T := F_Vt) (N := 16) hx hb hts (fun w h => u_Vq_Vt w (i_Vt w h)) hown hK hP 0 rfl rfl 2 (by decide) (hts _ (u_Vq_Vt _ k_Vt_31)) (fun _ h9 => h9) rfl d_Vt_target_37 ?_
          refine lv_iload_n hx hb d_Vt_target_40 rfl (lv_at hl 2 rfl) ?_
          obtain ⟨r_7, S_7, hc_7, h⟩ := lf_cE h
          have hFc := lx_free hD hS hA
          refine va_calli (va_runV (As := [.int y_2]) (rest := []) ⟨hx, hb, hml, hown, hts⟩ (l_Tb_goalOf l dC dI X _ hc_7) (cwV 1 hts (gwV good_Vq (u_Vq_Vt _ k_Vt_91) (u_Vq_Tb _ k_Tb_46) (u_Vq_Tb _ k_Tb_47) (u_Vq_Tb _ k_Tb_0) (wcs (u_Vq_Tb _ k_Tb_48) (fun _ h => h))) rfl rfl rfl (by decide +kernel) ⟨Nat.le_of_ble_eq_true rfl, Nat.le_of_ble_eq_true rfl⟩) (pv_ofE (X.same _) (fun U z1 z2 => X.mono _ _ U hFc (hEw _ _ hS U z1 z2)) hP hK hD (va_recv hK hP (ci := 4) (q0 := 3) rfl rfl)) rfl rfl hl.1 rfl (lv_room (Nat.le_of_ble_eq_true rfl)) d_Vt_target_41 ⟨ly_c0 mF.1, ly_c0 mF.2⟩) hS (fun q _ h => hFc q h) hFc (fun r_ u t H locs ht hvm hw hB hz1 hk1 hS => ?_)
          rw [hw]
          obtain ⟨hP, -, hD⟩ := hB
          rw [ht] at hP
          have hD := lx_dj hD hFc
          refine lv_goto (tgt := 48) hx hb d_Vt_target_44 (by decide) ?_
          rw [hQ]
          have e1 : r_7 = r := congrArg (fun z => z.1) (Option.some.inj h)
          have e2 : G = G' := congrArg (fun z => z.2.1) (Option.some.inj h)
          have e3 : S_7 = S' := congrArg (fun z => z.2.2) (Option.some.inj h)
          have hP := ly_newP3 e2.symm e3.symm hP
          have hD := ly_newD3 e2.symm e3.symm hD
          refine W.widen (k := G'.gc - G0.gc) (n := G'.gs - G0.gs) (ly_wc e2) (ly_ws e2) ?_
          exact W.iret (v := r_7) hx hb hr (fun t ht hW => ⟨⟨r_7, Y, rfl, e1, by rw [ht]; exact hP, va_K.moved hW.alike hK, hD⟩, hS.F ht⟩) hS.2.2 d_Vt_target_48
      · have h := lf_f h c_4
        exact hB_23 Y G S_3 _ _ _ h m0 hP hD hS (lv_sub hl [] rfl)
  have m0 : CG.le G0 G0 := ⟨Nat.le_refl _, Nat.le_refl _⟩
  have mF := mo_Vt_target h
  refine W.widen (k := G0.gc - G0.gc) (n := G0.gs - G0.gs) (Nat.zero_le _) (Nat.zero_le _) ?_
  rw [f_Vt_target] at h
  refine lv_aload_n hx hb d_Vt_target_0 rfl (lv_at hl 0 rfl) ?_
  obtain ⟨r_1, G_1, S_1, hc_1, h⟩ := lf_nE h
  have mc := mo_Vt_look hc_1
  have ml_1 := mo_Vt_look hc_1
  have mF1 := mo_Vt_target_4 h
  have hFc := lx_free hD hS hA
  refine va_calli (va_runV (As := []) (rest := []) ⟨hx, hb, hml, hown, hts⟩ (l_Vt_look l dC dI X _ hc_1) (cwV 0 hts (gwV good_Vq (u_Vq_Vt _ k_Vt_68) (u_Vq_Vt _ k_Vt_69) (u_Vq_Vt _ k_Vt_214) (u_Vq_Vt _ k_Vt_0) (wcs (u_Vq_Vt _ k_Vt_70) (fun _ h => h))) rfl rfl rfl (by decide +kernel) ⟨Nat.le_of_ble_eq_true rfl, Nat.le_of_ble_eq_true rfl⟩) (pv_ofE (X.same _) (fun U z1 z2 => X.mono _ _ U hFc (hEw _ _ hS U z1 z2)) hP hK hD (va_recv hK hP (ci := 11) (q0 := 0) rfl rfl)) rfl rfl hl.1 rfl (lv_room (Nat.le_of_ble_eq_true rfl)) d_Vt_target_1 ⟨ly_c1 m0.1 mc.1 mF1.1, ly_c1 m0.2 mc.2 mF1.2⟩) hS (fun q _ h => hFc q h) hFc (fun r_ Y_1 t H locs ht hvm hw hB hz1 hk1 hS => ?_)
  rw [hw]
  obtain ⟨hP, -, hD⟩ := hB
  rw [ht] at hP
  have hD := lx_dj hD hFc
  refine W.widen (k := G_1.gc - G0.gc) (n := G_1.gs - G0.gs) (ly_c2 m0.1 mc.1) (ly_c2 m0.2 mc.2) ?_
  have m0 := CG.le_tr m0 mc
  exact hB_4 p0 p1 r_1 Y_1 G_1 S_1 _ _ _ h m0 hP hD hS (lv_sub hl [0, 1, 2] rfl)
