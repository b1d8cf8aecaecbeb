set_option maxHeartbeats 4000000 in
set_option maxRecDepth 100000 in
theorem l_Mo_copied (l : Launch) (dC : Nat → ClassId) (dI : Nat → Nat → Nat) {K : Nat} {M : MA} {E : (Nat → Prop) → State → Prop} (X : lx_X l dC dI K M E) (sz : Nat) {S S' : MS} {p0 : Int32} {r : Int32} (h : f_Mo_copied K S p0 = some (r, S')) : Met l y_Mo_copied (.code y_Mo_copied b_Mo_copied 5 (some .int) :: V_Mq) ({ frames := 1, cells := 0, slots := 0, locals := 22 }) (va_Pc [.ref M.o, .int p0] (fun U => U.heap.size = sz ∧ at_ (dC, dI) (fun _ => True) (wM M S) (tM M) U ∧ E (va_A (wM M S) sz) U)) (va_Qi (fun (r_ : Int32) (u : Unit) => r_ = r) (fun (u : Unit) t => at_ (dC, dI) (va_A (wM M S) sz) (wM M S') (tM M) t) (va_A (wM M S) sz)) 0 0 (va_A (wM M S) sz) := by
  refine Met.ofW (cc := b_Mo_copied) (maxL := 5) (ret := (some .int)) (by decide) rfl ?_
  intro p e s m args below meth c s₁ B hml hv
  obtain ⟨rfl, hsz, ⟨hP, hK, hD0⟩, hE⟩ := hv
  have hx := B.exec
  have hb := B.bytes
  have hr := B.returns
  have hts0 := atoms_spec (ws := .code y_Mo_copied b_Mo_copied 5 (some .int) :: V_Mq) B.pre
  have hts : ∀ w ∈ V_Mq, w.before ([.ref M.o, .int p0] : List Value).toArray s = true := fun w h => hts0 w (List.mem_cons_of_mem _ h)
  have hown : s.vm.findClass R_Mo = some m.cls := findClass_of_methodNamed B.named
  subst hsz
  have hD := hD0.self (sz := s.heap.size)
  generalize hAe : va_A (wM M S) s.heap.size = A at hD hE ⊢
  have hA : ∀ q : Nat, s.heap.size ≤ q → A q := fun q h => by rw [← hAe]; exact Or.inr h
  have hS : va_S A s.heap s.heap [] := va_S.rf
  have hP : va_P (dC, dI) classes (wM M S) s.heap := hP
  have hK : va_K (dC, dI) classes (tM M) s := hK
  have hEw : ∀ (H : Heap) (locs : List Loc), va_S A s.heap H locs → ∀ U : State, U.heap = H → s.WarmedH U.vm → E A U := fun H locs hS U hU hW => X.kept A s U H locs hE hS hU hW
  have hl := lv_entry ([.ref M.o, .int p0]) (n := 5) (Nat.le_of_ble_eq_true rfl)
  rw [lg_entry_eq]
  generalize (lg_sl ([.ref M.o, .int p0]) ++ List.replicate (5 - (lg_sl ([.ref M.o, .int p0])).length) Slot.unset).toArray = ls at hl ⊢
  have hl : lv_has ls 5 [(0, .ref M.o), (1, .int p0)] := hl
  refine qabs (fun Q hQ => ?_)
  have hB_40 : ∀ (k : Nat), ∀ (y_2 : Int32) (y_3 : Int32) (y_4 : Int32) (S : MS) (H : Heap) (locs : List Loc) (ls : Array Slot), f_Mo_copied_40 K k y_2 y_3 y_4 S = some (r, S') → va_P (dC, dI) classes (wM M S) H → va_D A (wM M S) → va_S A s.heap H locs → lv_has ls 5 [(0, .ref M.o), (2, .int y_2), (3, .int y_3), (4, .int y_4)] → W p l e ({ frames := 1, cells := 0, slots := 0, locals := 22 }) s m ([.ref M.o, .int p0] : List Value).toArray below meth c H locs 0 0 Q (F0 m 40 ls []) := by
    intro k
    induction k with
    | zero => intro y_2 y_3 y_4 S H locs ls h; exact lf_no h
    | succ k hr_40 =>
      intro y_2 y_3 y_4 S H locs ls h hP hD hS hl
      rw [f_Mo_copied_40] at h
      refine lv_iload hx hb d_Mo_copied_40 (lv_at hl 3 rfl) ?_
      refine lv_sipush (v := 1024) hx hb d_Mo_copied_42 (by decide) ?_
      refine lv_icmp_ge (tgt := 76) hx hb d_Mo_copied_45 (by decide) (fun c_7 => ?_) (fun c_7 => ?_)
      · have h := lf_t h c_7
        refine lv_aload_n hx hb d_Mo_copied_76 rfl (lv_at hl 0 rfl) ?_
        refine va_get (D := (dC, dI)) (ci := 12) (v := .ref M.a_used) (C := R_Mo) (T := F_Mo) (N := 66) hx hb hts (fun w h => u_Mq_Mo w (i_Mo w h)) hown hK hP 0 rfl rfl 52 (by decide) (hts _ (u_Mq_Mo _ k_Mo_59)) (fun _ h9 => h9) rfl d_Mo_copied_77 ?_
        refine lv_iload_n hx hb d_Mo_copied_80 rfl (lv_at hl 1 rfl) ?_
        refine lv_iconst (v := 1) hx hb d_Mo_copied_81 (by decide) ?_
        obtain ⟨g_8, h⟩ := lf_gE h
        refine va_zast hx hb hK hP hD hS 22 21 rfl rfl g_8 d_Mo_copied_82 (fun H locs hP hD hS => ?_)
        obtain ⟨S_9, eS_9, h⟩ := lf_lX h
        have hP := lx_newP eS_9 hP
        have hD := lx_newD eS_9 hD
        refine lv_iload_n hx hb d_Mo_copied_83 rfl (lv_at hl 1 rfl) ?_
        rw [hQ]
        have e1 : y_2 = r := congrArg Prod.fst (Option.some.inj h)
        have e2 : S_9 = S' := congrArg Prod.snd (Option.some.inj h)
        have hP := lx_newP e2.symm hP
        have hD := lx_newD e2.symm hD
        exact W.iret (v := y_2) hx hb hr (fun t ht hW => ⟨⟨y_2, (), rfl, e1, by rw [ht]; exact hP, va_K.moved hW.alike hK, hD⟩, hS.F ht⟩) hS.2.2 d_Mo_copied_84
      · have h := lf_f h c_7
        refine lv_aload_n hx hb d_Mo_copied_48 rfl (lv_at hl 0 rfl) ?_
        refine va_get (D := (dC, dI)) (ci := 12) (v := .ref M.a_fresh) (C := R_Mo) (T := F_Mo) (N := 66) hx hb hts (fun w h => u_Mq_Mo w (i_Mo w h)) hown hK hP 0 rfl rfl 2 (by decide) (hts _ (u_Mq_Mo _ k_Mo_9)) (fun _ h9 => h9) rfl d_Mo_copied_49 ?_
        refine lv_sipush (v := 1024) hx hb d_Mo_copied_52 (by decide) ?_
        refine lv_iload_n hx hb d_Mo_copied_55 rfl (lv_at hl 1 rfl) ?_
        refine lv_imul hx hb d_Mo_copied_56 ?_
        refine lv_iload hx hb d_Mo_copied_57 (lv_at hl 3 rfl) ?_
        refine lv_iadd hx hb d_Mo_copied_59 ?_
        refine lv_aload_n hx hb d_Mo_copied_60 rfl (lv_at hl 0 rfl) ?_
        refine va_get (D := (dC, dI)) (ci := 12) (v := .ref M.a_disk) (C := R_Mo) (T := F_Mo) (N := 66) hx hb hts (fun w h => u_Mq_Mo w (i_Mo w h)) hown hK hP 0 rfl rfl 1 (by decide) (hts _ (u_Mq_Mo _ k_Mo_8)) (fun _ h9 => h9) rfl d_Mo_copied_61 ?_
        refine lv_iload_n hx hb d_Mo_copied_64 rfl (lv_at hl 2 rfl) ?_
        refine lv_iload hx hb d_Mo_copied_65 (lv_at hl 3 rfl) ?_
        refine lv_iadd hx hb d_Mo_copied_67 ?_
        obtain ⟨g_10, h⟩ := lf_gE h
        refine va_bald hx hb hK hP 1 0 rfl rfl g_10 d_Mo_copied_68 ?_
        obtain ⟨g_11, h⟩ := lf_gE h
        refine va_bast hx hb hK hP hD hS 2 1 rfl rfl g_11 d_Mo_copied_69 (fun H locs hP hD hS => ?_)
        obtain ⟨S_12, eS_12, h⟩ := lf_lX h
        have hP := lx_newP eS_12 hP
        have hD := lx_newD eS_12 hD
        obtain ⟨x_13, ex_13, h⟩ := lf_lX h
        refine lv_iinc (v := x_13) (lv' := [(4, .int x_13), (0, .ref M.o), (2, .int y_2), (3, .int y_3)]) hx hb d_Mo_copied_70 hl (k := 3) rfl (by rw [ex_13]; rfl) (by decide) rfl (fun ls hl => ?_)
        refine lv_goto (tgt := 40) hx hb d_Mo_copied_73 (by decide) ?_
        exact hr_40 y_2 y_3 x_13 S_12 _ _ _ h hP hD hS (lv_sub hl [1, 2, 3, 0] rfl)
  rw [f_Mo_copied] at h
  refine lv_aload_n hx hb d_Mo_copied_0 rfl (lv_at hl 0 rfl) ?_
  refine lv_iload_n hx hb d_Mo_copied_1 rfl (lv_at hl 1 rfl) ?_
  obtain ⟨r_1, S_1, hc_1, h⟩ := lf_cE h
  have hFc := lx_free hD hS hA
  refine va_calli (va_runV (As := [.int p0]) (rest := []) ⟨hx, hb, hml, hown, hts⟩ (l_Mo_standing l dC dI X _ hc_1) (cwV 1 hts (gwV good_Mq (u_Mq_Mo _ k_Mo_424) (u_Mq_Mo _ k_Mo_425) (u_Mq_Mo _ k_Mo_541) (u_Mq_Mo _ k_Mo_0) (wcs (u_Mq_Mo _ k_Mo_426) (fun _ h => h))) rfl rfl rfl (by decide +kernel) ⟨Nat.le_of_ble_eq_true rfl, Nat.le_of_ble_eq_true rfl⟩) (pv_ofE (X.same _) (fun U z1 z2 => X.mono _ _ U hFc (hEw _ _ hS U z1 z2)) hP hK hD (va_recv hK hP (ci := 12) (q0 := 0) rfl rfl)) rfl rfl hl.1 rfl (lv_room (Nat.le_of_ble_eq_true rfl)) d_Mo_copied_2 ⟨by decide, by decide⟩) hS (fun q _ h => hFc q h) hFc (fun r_ u t H locs ht hvm hw hB hz1 hk1 hS => ?_)
  rw [hw]
  obtain ⟨hP, -, hD⟩ := hB
  rw [ht] at hP
  have hD := lx_dj hD hFc
  refine lv_istore_n (lv' := [(2, .int r_1), (0, .ref M.o), (1, .int p0)]) hx hb d_Mo_copied_5 rfl hl (by decide) rfl (fun ls hl => ?_)
  refine lv_aload_n hx hb d_Mo_copied_6 rfl (lv_at hl 1 rfl) ?_
  refine lv_aload_n hx hb d_Mo_copied_7 rfl (lv_at hl 1 rfl) ?_
  refine va_get (D := (dC, dI)) (ci := 12) (v := .ref M.a_chain) (C := R_Mo) (T := F_Mo) (N := 66) hx hb hts (fun w h => u_Mq_Mo w (i_Mo w h)) hown hK hP 0 rfl rfl 33 (by decide) (hts _ (u_Mq_Mo _ k_Mo_40)) (fun _ h9 => h9) rfl d_Mo_copied_8 ?_
  refine lv_iload_n hx hb d_Mo_copied_11 rfl (lv_at hl 2 rfl) ?_
  refine lv_aload_n hx hb d_Mo_copied_12 rfl (lv_at hl 1 rfl) ?_
  refine va_get (D := (dC, dI)) (ci := 12) (v := .int S_1.v_c) (C := R_Mo) (T := F_Mo) (N := 66) hx hb hts (fun w h => u_Mq_Mo w (i_Mo w h)) hown hK hP 0 rfl rfl 11 (by decide) (hts _ (u_Mq_Mo _ k_Mo_18)) (fun _ h9 => h9) rfl d_Mo_copied_13 ?_
  refine lv_iconst (v := 2) hx hb d_Mo_copied_16 (by decide) ?_
  refine lv_idiv hx hb d_Mo_copied_17 (by decide) ?_
  obtain ⟨g_2, h⟩ := lf_gE h
  refine lv_idiv hx hb d_Mo_copied_18 g_2 ?_
  obtain ⟨g_3, h⟩ := lf_gE h
  refine va_iald hx hb hK hP 15 14 rfl rfl g_3 d_Mo_copied_19 ?_
  obtain ⟨r_4, S_4, hc_4, h⟩ := lf_cE h
  have hFc := lx_free hD hS hA
  refine va_calli (va_runV (As := [.int (S_1.v_chain (p0 / (S_1.v_c / 2)).toNatClampNeg)]) (rest := []) ⟨hx, hb, hml, hown, hts⟩ (l_Mo_place l dC dI X _ hc_4) (cwV 1 hts (gwV good_Mq (u_Mq_Mo _ k_Mo_136) (u_Mq_Mo _ k_Mo_137) (u_Mq_Mo _ k_Mo_483) (u_Mq_Mo _ k_Mo_0) (wcs (u_Mq_Mo _ k_Mo_138) (fun _ h => h))) rfl rfl rfl (by decide +kernel) ⟨Nat.le_of_ble_eq_true rfl, Nat.le_of_ble_eq_true rfl⟩) (pv_ofE (X.same _) (fun U z1 z2 => X.mono _ _ U hFc (hEw _ _ hS U z1 z2)) hP hK hD (va_recv hK hP (ci := 12) (q0 := 0) rfl rfl)) rfl rfl hl.1 rfl (lv_room (Nat.le_of_ble_eq_true rfl)) d_Mo_copied_20 ⟨by decide, by decide⟩) hS (fun q _ h => hFc q h) hFc (fun r_ u t H locs ht hvm hw hB hz1 hk1 hS => ?_)
  rw [hw]
  obtain ⟨hP, -, hD⟩ := hB
  rw [ht] at hP
  have hD := lx_dj hD hFc
  refine lv_sipush (v := 1024) hx hb d_Mo_copied_23 (by decide) ?_
  refine lv_iload_n hx hb d_Mo_copied_26 rfl (lv_at hl 2 rfl) ?_
  refine lv_aload_n hx hb d_Mo_copied_27 rfl (lv_at hl 1 rfl) ?_
  refine va_get (D := (dC, dI)) (ci := 12) (v := .int S_4.v_c) (C := R_Mo) (T := F_Mo) (N := 66) hx hb hts (fun w h => u_Mq_Mo w (i_Mo w h)) hown hK hP 0 rfl rfl 11 (by decide) (hts _ (u_Mq_Mo _ k_Mo_18)) (fun _ h9 => h9) rfl d_Mo_copied_28 ?_
  refine lv_iconst (v := 2) hx hb d_Mo_copied_31 (by decide) ?_
  refine lv_idiv hx hb d_Mo_copied_32 (by decide) ?_
  obtain ⟨g_5, h⟩ := lf_gE h
  refine lv_irem hx hb d_Mo_copied_33 g_5 ?_
  refine lv_imul hx hb d_Mo_copied_34 ?_
  refine lv_iadd hx hb d_Mo_copied_35 ?_
  refine lv_topi (fun x_6 ex_6 => ?_)
  have h := lf_lE h ex_6
  refine lv_istore_n (lv' := [(3, .int x_6), (2, .int r_1), (0, .ref M.o), (1, .int p0)]) hx hb d_Mo_copied_36 rfl hl (by decide) rfl (fun ls hl => ?_)
  refine lv_iconst (v := 0) hx hb d_Mo_copied_37 (by decide) ?_
  refine lv_istore (lv' := [(4, .int 0), (3, .int x_6), (2, .int r_1), (0, .ref M.o), (1, .int p0)]) hx hb d_Mo_copied_38 hl (by decide) rfl (fun ls hl => ?_)
  exact hB_40 K r_1 x_6 0 S_4 _ _ _ h hP hD hS (lv_sub hl [3, 2, 1, 0] rfl)
set_option maxHeartbeats 4000000 in
set_option maxRecDepth 100000 in
theorem l_Mo_inode_record (l : Launch) (dC : Nat → ClassId) (dI : Nat → Nat → Nat) {K : Nat} {M : MA} {E : (Nat → Prop) → State → Prop} (X : lx_X l dC dI K M E) (sz : Nat) {S S' : MS} {p0 : Int32} {p1 : Int32} {p2 : Int32} {p3 : Int64} {p4 : Int64} {p5 : Int64} {p6 : Int64} {p8 : Int32} (h : f_Mo_inode_record K S p0 p1 p2 p3 p4 p5 p6 p8 = some S') : Met l y_Mo_inode (.code y_Mo_inode b_Mo_inode 18 none :: V_Mq) ({ frames := 2, cells := 0, slots := 0, locals := 42 }) (va_Pc [.ref M.o, .int p0, .int p1, .int p2, .long p3, .long p4, .long p5, .long p6, .ref M.a_record, .int p8] (fun U => U.heap.size = sz ∧ at_ (dC, dI) (fun _ => True) (wM M S) (tM M) U ∧ E (va_A (wM M S) sz) U)) (va_Qv (fun (u : Unit) => True) (fun (u : Unit) t => at_ (dC, dI) (va_A (wM M S) sz) (wM M S') (tM M) t) (va_A (wM M S) sz)) 0 0 (va_A (wM M S) sz) := by
  refine Met.ofW (cc := b_Mo_inode) (maxL := 18) (ret := none) (by decide) rfl ?_
  intro p e s m args below meth c s₁ B hml hv
  obtain ⟨rfl, hsz, ⟨hP, hK, hD0⟩, hE⟩ := hv
  have hx := B.exec
  have hb := B.bytes
  have hr := B.returns
  have hts0 := atoms_spec (ws := .code y_Mo_inode b_Mo_inode 18 none :: V_Mq) B.pre
  have hts : ∀ w ∈ V_Mq, w.before ([.ref M.o, .int p0, .int p1, .int p2, .long p3, .long p4, .long p5, .long p6, .ref M.a_record, .int p8] : List Value).toArray s = true := fun w h => hts0 w (List.mem_cons_of_mem _ h)
  have hown : s.vm.findClass R_Mo = some m.cls := findClass_of_methodNamed B.named
  subst hsz
  have hD := hD0.self (sz := s.heap.size)
  generalize hAe : va_A (wM M S) s.heap.size = A at hD hE ⊢
  have hA : ∀ q : Nat, s.heap.size ≤ q → A q := fun q h => by rw [← hAe]; exact Or.inr h
  have hS : va_S A s.heap s.heap [] := va_S.rf
  have hP : va_P (dC, dI) classes (wM M S) s.heap := hP
  have hK : va_K (dC, dI) classes (tM M) s := hK
  have hEw : ∀ (H : Heap) (locs : List Loc), va_S A s.heap H locs → ∀ U : State, U.heap = H → s.WarmedH U.vm → E A U := fun H locs hS U hU hW => X.kept A s U H locs hE hS hU hW
  have hl := lv_entry ([.ref M.o, .int p0, .int p1, .int p2, .long p3, .long p4, .long p5, .long p6, .ref M.a_record, .int p8]) (n := 18) (Nat.le_of_ble_eq_true rfl)
  rw [lg_entry_eq]
  generalize (lg_sl ([.ref M.o, .int p0, .int p1, .int p2, .long p3, .long p4, .long p5, .long p6, .ref M.a_record, .int p8]) ++ List.replicate (18 - (lg_sl ([.ref M.o, .int p0, .int p1, .int p2, .long p3, .long p4, .long p5, .long p6, .ref M.a_record, .int p8])).length) Slot.unset).toArray = ls at hl ⊢
  have hl : lv_has ls 18 [(0, .ref M.o), (1, .int p0), (2, .int p1), (3, .int p2), (4, .long p3), (6, .long p4), (8, .long p5), (10, .long p6), (12, .ref M.a_record), (13, .int p8)] := hl
  refine qabs (fun Q hQ => ?_)
  have hB_304 : ∀ (rec_251 : Int32 → Int32 → Int32 → Int32 → MS → Option (MS)) (hr_251 : ∀ (y_13 : Int32) (y_15 : Int32) (y_16 : Int32) (y_17 : Int32) (S : MS) (H : Heap) (locs : List Loc) (ls : Array Slot), rec_251 y_13 y_15 y_16 y_17 S = some S' → va_P (dC, dI) classes (wM M S) H → va_D A (wM M S) → va_S A s.heap H locs → lv_has ls 18 [(0, .ref M.o), (12, .ref M.a_record), (13, .int y_13), (15, .int y_15), (16, .int y_16), (17, .int y_17)] → W p l e ({ frames := 2, cells := 0, slots := 0, locals := 42 }) s m ([.ref M.o, .int p0, .int p1, .int p2, .long p3, .long p4, .long p5, .long p6, .ref M.a_record, .int p8] : List Value).toArray below meth c H locs 0 0 Q (F0 m 251 ls [])), ∀ (y_13 : Int32) (y_15 : Int32) (y_16 : Int32) (y_17 : Int32) (S : MS) (H : Heap) (locs : List Loc) (ls : Array Slot), f_Mo_inode_record_304 K rec_251 y_13 y_15 y_16 y_17 S = some S' → va_P (dC, dI) classes (wM M S) H → va_D A (wM M S) → va_S A s.heap H locs → lv_has ls 18 [(0, .ref M.o), (12, .ref M.a_record), (13, .int y_13), (15, .int y_15), (16, .int y_16), (17, .int y_17)] → W p l e ({ frames := 2, cells := 0, slots := 0, locals := 42 }) s m ([.ref M.o, .int p0, .int p1, .int p2, .long p3, .long p4, .long p5, .long p6, .ref M.a_record, .int p8] : List Value).toArray below meth c H locs 0 0 Q (F0 m 304 ls []) := by
    intro rec_251 hr_251 y_13 y_15 y_16 y_17 S H locs ls h hP hD hS hl
    rw [f_Mo_inode_record_304] at h
    refine lv_aload_n hx hb d_Mo_inode_304 rfl (lv_at hl 0 rfl) ?_
    refine lv_sipush (v := 1024) hx hb d_Mo_inode_305 (by decide) ?_
    refine lv_iload hx hb d_Mo_inode_308 (lv_at hl 4 rfl) ?_
    refine lv_imul hx hb d_Mo_inode_310 ?_
    refine lv_iload hx hb d_Mo_inode_311 (lv_at hl 5 rfl) ?_
    refine lv_sipush (v := 268) hx hb d_Mo_inode_313 (by decide) ?_
    refine lv_isub hx hb d_Mo_inode_316 ?_
    refine lv_sipush (v := 256) hx hb d_Mo_inode_317 (by decide) ?_
    refine lv_irem hx hb d_Mo_inode_320 (by decide) ?_
    refine lv_iconst (v := 4) hx hb d_Mo_inode_321 (by decide) ?_
    refine lv_imul hx hb d_Mo_inode_322 ?_
    refine lv_iadd hx hb d_Mo_inode_323 ?_
    refine lv_iconst (v := 4) hx hb d_Mo_inode_324 (by decide) ?_
    refine lv_aload hx hb d_Mo_inode_325 (lv_at hl 1 rfl) ?_
    refine lv_iload hx hb d_Mo_inode_327 (lv_at hl 5 rfl) ?_
    obtain ⟨g_30, h⟩ := lf_gE h
    refine va_iald hx hb hK hP 26 25 rfl rfl g_30 d_Mo_inode_329 ?_
    refine lv_i2l hx hb d_Mo_inode_330 rfl ?_
    obtain ⟨S_31, hc_31, h⟩ := lf_bE h
    have hFc := lx_free hD hS hA
    refine va_callv (va_runV (As := [.int ((1024 * y_16) + (((y_17 - 268) - (y_17 - 268) / 256 * 256) * 4)), .int 4, .long ((S.v_record y_17.toNatClampNeg).toInt64)]) (rest := []) ⟨hx, hb, hml, hown, hts⟩ (l_Mo_lay l dC dI X _ hc_31) (cwV 3 hts (gwV good_Mq (u_Mq_Mo _ k_Mo_418) (u_Mq_Mo _ k_Mo_419) (u_Mq_Mo _ k_Mo_538) (u_Mq_Mo _ k_Mo_0) (wcs (u_Mq_Mo _ k_Mo_420) (fun _ h => h))) rfl rfl rfl (by decide +kernel) ⟨Nat.le_of_ble_eq_true rfl, Nat.le_of_ble_eq_true rfl⟩) (pv_ofE (X.same _) (fun U z1 z2 => X.mono _ _ U hFc (hEw _ _ hS U z1 z2)) hP hK hD (va_recv hK hP (ci := 12) (q0 := 0) rfl rfl)) rfl rfl hl.1 rfl (lv_room (Nat.le_of_ble_eq_true rfl)) d_Mo_inode_331 ⟨by decide, by decide⟩) hS (fun q _ h => hFc q h) hFc (fun u t H locs ht hvm hw hB hz1 hk1 hS => ?_)
    obtain ⟨hP, -, hD⟩ := hB
    rw [ht] at hP
    have hD := lx_dj hD hFc
    obtain ⟨x_32, ex_32, h⟩ := lf_lX h
    refine lv_iinc (v := x_32) (lv' := [(17, .int x_32), (0, .ref M.o), (12, .ref M.a_record), (13, .int y_13), (15, .int y_15), (16, .int y_16)]) hx hb d_Mo_inode_334 hl (k := 5) rfl (by rw [ex_32]; rfl) (by decide) rfl (fun ls hl => ?_)
    refine lv_goto (tgt := 251) hx hb d_Mo_inode_337 (by decide) ?_
    exact hr_251 y_13 y_15 y_16 x_32 S_31 _ _ _ h hP hD hS (lv_sub hl [1, 2, 3, 4, 5, 0] rfl)
  have hB_251 : ∀ (k : Nat), ∀ (y_13 : Int32) (y_15 : Int32) (y_16 : Int32) (y_17 : Int32) (S : MS) (H : Heap) (locs : List Loc) (ls : Array Slot), f_Mo_inode_record_251 K k y_13 y_15 y_16 y_17 S = some S' → va_P (dC, dI) classes (wM M S) H → va_D A (wM M S) → va_S A s.heap H locs → lv_has ls 18 [(0, .ref M.o), (12, .ref M.a_record), (13, .int y_13), (15, .int y_15), (16, .int y_16), (17, .int y_17)] → W p l e ({ frames := 2, cells := 0, slots := 0, locals := 42 }) s m ([.ref M.o, .int p0, .int p1, .int p2, .long p3, .long p4, .long p5, .long p6, .ref M.a_record, .int p8] : List Value).toArray below meth c H locs 0 0 Q (F0 m 251 ls []) := by
    intro k
    induction k with
    | zero => intro y_13 y_15 y_16 y_17 S H locs ls h; exact lf_no h
    | succ k hr_251 =>
      intro y_13 y_15 y_16 y_17 S H locs ls h hP hD hS hl
      rw [f_Mo_inode_record_251] at h
      refine lv_iload hx hb d_Mo_inode_251 (lv_at hl 5 rfl) ?_
      refine lv_iload hx hb d_Mo_inode_253 (lv_at hl 2 rfl) ?_
      refine lv_icmp_ge (tgt := 340) hx hb d_Mo_inode_255 (by decide) (fun c_26 => ?_) (fun c_26 => ?_)
      · have h := lf_t h c_26
        rw [hQ]
        have e2 : S = S' := Option.some.inj h
        have hP := lx_newP e2.symm hP
        have hD := lx_newD e2.symm hD
        exact W.vret hx hb hr (fun t ht hW => ⟨⟨(), rfl, trivial, by rw [ht]; exact hP, va_K.moved hW.alike hK, hD⟩, hS.F ht⟩) hS.2.2 d_Mo_inode_340
      · have h := lf_f h c_26
        refine lv_iload hx hb d_Mo_inode_258 (lv_at hl 5 rfl) ?_
        refine lv_sipush (v := 268) hx hb d_Mo_inode_260 (by decide) ?_
        refine lv_isub hx hb d_Mo_inode_263 ?_
        refine lv_sipush (v := 256) hx hb d_Mo_inode_264 (by decide) ?_
        refine lv_irem hx hb d_Mo_inode_267 (by decide) ?_
        refine lv_if_ne (tgt := 304) hx hb d_Mo_inode_268 (by decide) (fun c_27 => ?_) (fun c_27 => ?_)
        · have h := lf_f h c_27
          exact hB_304 _ hr_251 y_13 y_15 y_16 y_17 S _ _ _ h hP hD hS (lv_sub hl [0, 1, 2, 3, 4, 5] rfl)
        · have h := lf_t h c_27
          refine lv_aload_n hx hb d_Mo_inode_271 rfl (lv_at hl 0 rfl) ?_
          obtain ⟨r_28, S_28, hc_28, h⟩ := lf_cE h
          have hFc := lx_free hD hS hA
          refine va_calli (va_runV (As := []) (rest := []) ⟨hx, hb, hml, hown, hts⟩ (l_Mo_build l dC dI X _ hc_28) (cwV 0 hts (gwV good_Mq (u_Mq_Mo _ k_Mo_415) (u_Mq_Mo _ k_Mo_416) (u_Mq_Mo _ k_Mo_539) (u_Mq_Mo _ k_Mo_0) (wcs (u_Mq_Mo _ k_Mo_417) (fun _ h => h))) rfl rfl rfl (by decide +kernel) ⟨Nat.le_of_ble_eq_true rfl, Nat.le_of_ble_eq_true rfl⟩) (pv_ofE (X.same _) (fun U z1 z2 => X.mono _ _ U hFc (hEw _ _ hS U z1 z2)) hP hK hD (va_recv hK hP (ci := 12) (q0 := 0) rfl rfl)) rfl rfl hl.1 rfl (lv_room (Nat.le_of_ble_eq_true rfl)) d_Mo_inode_272 ⟨by decide, by decide⟩) hS (fun q _ h => hFc q h) hFc (fun r_ u t H locs ht hvm hw hB hz1 hk1 hS => ?_)
          rw [hw]
          obtain ⟨hP, -, hD⟩ := hB
          rw [ht] at hP
          have hD := lx_dj hD hFc
          refine lv_istore (lv' := [(16, .int r_28), (0, .ref M.o), (12, .ref M.a_record), (13, .int y_13), (15, .int y_15), (17, .int y_17)]) hx hb d_Mo_inode_275 hl (by decide) rfl (fun ls hl => ?_)
          refine lv_aload_n hx hb d_Mo_inode_277 rfl (lv_at hl 1 rfl) ?_
          refine lv_sipush (v := 1024) hx hb d_Mo_inode_278 (by decide) ?_
          refine lv_iload hx hb d_Mo_inode_281 (lv_at hl 4 rfl) ?_
          refine lv_imul hx hb d_Mo_inode_283 ?_
          refine lv_iload hx hb d_Mo_inode_284 (lv_at hl 5 rfl) ?_
          refine lv_sipush (v := 268) hx hb d_Mo_inode_286 (by decide) ?_
          refine lv_isub hx hb d_Mo_inode_289 ?_
          refine lv_sipush (v := 256) hx hb d_Mo_inode_290 (by decide) ?_
          refine lv_idiv hx hb d_Mo_inode_293 (by decide) ?_
          refine lv_iconst (v := 4) hx hb d_Mo_inode_294 (by decide) ?_
          refine lv_imul hx hb d_Mo_inode_295 ?_
          refine lv_iadd hx hb d_Mo_inode_296 ?_
          refine lv_iconst (v := 4) hx hb d_Mo_inode_297 (by decide) ?_
          refine lv_iload hx hb d_Mo_inode_298 (lv_at hl 0 rfl) ?_
          refine lv_i2l hx hb d_Mo_inode_300 rfl ?_
          obtain ⟨S_29, hc_29, h⟩ := lf_bE h
          have hFc := lx_free hD hS hA
          refine va_callv (va_runV (As := [.int ((1024 * y_15) + (((y_17 - 268) / 256) * 4)), .int 4, .long r_28.toInt64]) (rest := []) ⟨hx, hb, hml, hown, hts⟩ (l_Mo_lay l dC dI X _ hc_29) (cwV 3 hts (gwV good_Mq (u_Mq_Mo _ k_Mo_418) (u_Mq_Mo _ k_Mo_419) (u_Mq_Mo _ k_Mo_538) (u_Mq_Mo _ k_Mo_0) (wcs (u_Mq_Mo _ k_Mo_420) (fun _ h => h))) rfl rfl rfl (by decide +kernel) ⟨Nat.le_of_ble_eq_true rfl, Nat.le_of_ble_eq_true rfl⟩) (pv_ofE (X.same _) (fun U z1 z2 => X.mono _ _ U hFc (hEw _ _ hS U z1 z2)) hP hK hD (va_recv hK hP (ci := 12) (q0 := 0) rfl rfl)) rfl rfl hl.1 rfl (lv_room (Nat.le_of_ble_eq_true rfl)) d_Mo_inode_301 ⟨by decide, by decide⟩) hS (fun q _ h => hFc q h) hFc (fun u t H locs ht hvm hw hB hz1 hk1 hS => ?_)
          obtain ⟨hP, -, hD⟩ := hB
          rw [ht] at hP
          have hD := lx_dj hD hFc
          exact hB_304 _ hr_251 y_13 y_15 r_28 y_17 S_29 _ _ _ h hP hD hS (lv_sub hl [1, 2, 3, 4, 0, 5] rfl)
  have hB_216 : ∀ (y_13 : Int32) (y_14 : Int32) (S : MS) (H : Heap) (locs : List Loc) (ls : Array Slot), f_Mo_inode_record_216 K y_13 y_14 S = some S' → va_P (dC, dI) classes (wM M S) H → va_D A (wM M S) → va_S A s.heap H locs → lv_has ls 18 [(0, .ref M.o), (12, .ref M.a_record), (13, .int y_13), (14, .int y_14)] → W p l e ({ frames := 2, cells := 0, slots := 0, locals := 42 }) s m ([.ref M.o, .int p0, .int p1, .int p2, .long p3, .long p4, .long p5, .long p6, .ref M.a_record, .int p8] : List Value).toArray below meth c H locs 0 0 Q (F0 m 216 ls []) := by
    intro y_13 y_14 S H locs ls h hP hD hS hl
    rw [f_Mo_inode_record_216] at h
    refine lv_iload hx hb d_Mo_inode_216 (lv_at hl 2 rfl) ?_
    refine lv_sipush (v := 268) hx hb d_Mo_inode_218 (by decide) ?_
    refine lv_icmp_le (tgt := 340) hx hb d_Mo_inode_221 (by decide) (fun c_18 => ?_) (fun c_18 => ?_)
    · have h := lf_t h c_18
      rw [hQ]
      have e2 : S = S' := Option.some.inj h
      have hP := lx_newP e2.symm hP
      have hD := lx_newD e2.symm hD
      exact W.vret hx hb hr (fun t ht hW => ⟨⟨(), rfl, trivial, by rw [ht]; exact hP, va_K.moved hW.alike hK, hD⟩, hS.F ht⟩) hS.2.2 d_Mo_inode_340
    · have h := lf_f h c_18
      refine lv_aload_n hx hb d_Mo_inode_224 rfl (lv_at hl 0 rfl) ?_
      obtain ⟨r_19, S_19, hc_19, h⟩ := lf_cE h
      have hFc := lx_free hD hS hA
      refine va_calli (va_runV (As := []) (rest := []) ⟨hx, hb, hml, hown, hts⟩ (l_Mo_build l dC dI X _ hc_19) (cwV 0 hts (gwV good_Mq (u_Mq_Mo _ k_Mo_415) (u_Mq_Mo _ k_Mo_416) (u_Mq_Mo _ k_Mo_539) (u_Mq_Mo _ k_Mo_0) (wcs (u_Mq_Mo _ k_Mo_417) (fun _ h => h))) rfl rfl rfl (by decide +kernel) ⟨Nat.le_of_ble_eq_true rfl, Nat.le_of_ble_eq_true rfl⟩) (pv_ofE (X.same _) (fun U z1 z2 => X.mono _ _ U hFc (hEw _ _ hS U z1 z2)) hP hK hD (va_recv hK hP (ci := 12) (q0 := 0) rfl rfl)) rfl rfl hl.1 rfl (lv_room (Nat.le_of_ble_eq_true rfl)) d_Mo_inode_225 ⟨by decide, by decide⟩) hS (fun q _ h => hFc q h) hFc (fun r_ u t H locs ht hvm hw hB hz1 hk1 hS => ?_)
      rw [hw]
      obtain ⟨hP, -, hD⟩ := hB
      rw [ht] at hP
      have hD := lx_dj hD hFc
      refine lv_istore (lv' := [(15, .int r_19), (0, .ref M.o), (12, .ref M.a_record), (13, .int y_13), (14, .int y_14)]) hx hb d_Mo_inode_228 hl (by decide) rfl (fun ls hl => ?_)
      refine lv_aload_n hx hb d_Mo_inode_230 rfl (lv_at hl 1 rfl) ?_
      refine lv_iload hx hb d_Mo_inode_231 (lv_at hl 4 rfl) ?_
      refine lv_bipush (v := 92) hx hb d_Mo_inode_233 (by decide) ?_
      refine lv_iadd hx hb d_Mo_inode_235 ?_
      refine lv_iconst (v := 4) hx hb d_Mo_inode_236 (by decide) ?_
      refine lv_iload hx hb d_Mo_inode_237 (lv_at hl 0 rfl) ?_
      refine lv_i2l hx hb d_Mo_inode_239 rfl ?_
      obtain ⟨S_20, hc_20, h⟩ := lf_bE h
      have hFc := lx_free hD hS hA
      refine va_callv (va_runV (As := [.int (y_14 + 92), .int 4, .long r_19.toInt64]) (rest := []) ⟨hx, hb, hml, hown, hts⟩ (l_Mo_lay l dC dI X _ hc_20) (cwV 3 hts (gwV good_Mq (u_Mq_Mo _ k_Mo_418) (u_Mq_Mo _ k_Mo_419) (u_Mq_Mo _ k_Mo_538) (u_Mq_Mo _ k_Mo_0) (wcs (u_Mq_Mo _ k_Mo_420) (fun _ h => h))) rfl rfl rfl (by decide +kernel) ⟨Nat.le_of_ble_eq_true rfl, Nat.le_of_ble_eq_true rfl⟩) (pv_ofE (X.same _) (fun U z1 z2 => X.mono _ _ U hFc (hEw _ _ hS U z1 z2)) hP hK hD (va_recv hK hP (ci := 12) (q0 := 0) rfl rfl)) rfl rfl hl.1 rfl (lv_room (Nat.le_of_ble_eq_true rfl)) d_Mo_inode_240 ⟨by decide, by decide⟩) hS (fun q _ h => hFc q h) hFc (fun u t H locs ht hvm hw hB hz1 hk1 hS => ?_)
      obtain ⟨hP, -, hD⟩ := hB
      rw [ht] at hP
      have hD := lx_dj hD hFc
      refine lv_iconst (v := 0) hx hb d_Mo_inode_243 (by decide) ?_
      refine lv_istore (lv' := [(16, .int 0), (15, .int r_19), (0, .ref M.o), (12, .ref M.a_record), (13, .int y_13), (14, .int y_14)]) hx hb d_Mo_inode_244 hl (by decide) rfl (fun ls hl => ?_)
      refine lv_sipush (v := 268) hx hb d_Mo_inode_246 (by decide) ?_
      refine lv_istore (lv' := [(17, .int 268), (16, .int 0), (15, .int r_19), (0, .ref M.o), (12, .ref M.a_record), (13, .int y_13), (14, .int y_14)]) hx hb d_Mo_inode_249 hl (by decide) rfl (fun ls hl => ?_)
      exact hB_251 K y_13 r_19 0 268 S_20 _ _ _ h hP hD hS (lv_sub hl [3, 4, 5, 2, 1, 0] rfl)
  have hB_170 : ∀ (k : Nat), ∀ (y_13 : Int32) (y_14 : Int32) (y_15 : Int32) (y_16 : Int32) (S : MS) (H : Heap) (locs : List Loc) (ls : Array Slot), f_Mo_inode_record_170 K k y_13 y_14 y_15 y_16 S = some S' → va_P (dC, dI) classes (wM M S) H → va_D A (wM M S) → va_S A s.heap H locs → lv_has ls 18 [(0, .ref M.o), (12, .ref M.a_record), (13, .int y_13), (14, .int y_14), (15, .int y_15), (16, .int y_16)] → W p l e ({ frames := 2, cells := 0, slots := 0, locals := 42 }) s m ([.ref M.o, .int p0, .int p1, .int p2, .long p3, .long p4, .long p5, .long p6, .ref M.a_record, .int p8] : List Value).toArray below meth c H locs 0 0 Q (F0 m 170 ls []) := by
    intro k
    induction k with
    | zero => intro y_13 y_14 y_15 y_16 S H locs ls h; exact lf_no h
    | succ k hr_170 =>
      intro y_13 y_14 y_15 y_16 S H locs ls h hP hD hS hl
      rw [f_Mo_inode_record_170] at h
      refine lv_iload hx hb d_Mo_inode_170 (lv_at hl 5 rfl) ?_
      refine lv_iload hx hb d_Mo_inode_172 (lv_at hl 2 rfl) ?_
      refine lv_icmp_ge (tgt := 216) hx hb d_Mo_inode_174 (by decide) (fun c_21 => ?_) (fun c_21 => ?_)
      · have h := lf_t h c_21
        exact hB_216 y_13 y_14 S _ _ _ h hP hD hS (lv_sub hl [0, 1, 2, 3] rfl)
      · have h := lf_f h c_21
        refine lv_iload hx hb d_Mo_inode_177 (lv_at hl 5 rfl) ?_
        refine lv_sipush (v := 268) hx hb d_Mo_inode_179 (by decide) ?_
        refine lv_icmp_ge (tgt := 216) hx hb d_Mo_inode_182 (by decide) (fun c_22 => ?_) (fun c_22 => ?_)
        · have h := lf_t h c_22
          exact hB_216 y_13 y_14 S _ _ _ h hP hD hS (lv_sub hl [0, 1, 2, 3] rfl)
        · have h := lf_f h c_22
          refine lv_aload_n hx hb d_Mo_inode_185 rfl (lv_at hl 0 rfl) ?_
          refine lv_sipush (v := 1024) hx hb d_Mo_inode_186 (by decide) ?_
          refine lv_iload hx hb d_Mo_inode_189 (lv_at hl 4 rfl) ?_
          refine lv_imul hx hb d_Mo_inode_191 ?_
          refine lv_iconst (v := 4) hx hb d_Mo_inode_192 (by decide) ?_
          refine lv_iload hx hb d_Mo_inode_193 (lv_at hl 5 rfl) ?_
          refine lv_bipush (v := 12) hx hb d_Mo_inode_195 (by decide) ?_
          refine lv_isub hx hb d_Mo_inode_197 ?_
          refine lv_imul hx hb d_Mo_inode_198 ?_
          refine lv_iadd hx hb d_Mo_inode_199 ?_
          refine lv_iconst (v := 4) hx hb d_Mo_inode_200 (by decide) ?_
          refine lv_aload hx hb d_Mo_inode_201 (lv_at hl 1 rfl) ?_
          refine lv_iload hx hb d_Mo_inode_203 (lv_at hl 5 rfl) ?_
          obtain ⟨g_23, h⟩ := lf_gE h
          refine va_iald hx hb hK hP 26 25 rfl rfl g_23 d_Mo_inode_205 ?_
          refine lv_i2l hx hb d_Mo_inode_206 rfl ?_
          obtain ⟨S_24, hc_24, h⟩ := lf_bE h
          have hFc := lx_free hD hS hA
          refine va_callv (va_runV (As := [.int ((1024 * y_15) + (4 * (y_16 - 12))), .int 4, .long ((S.v_record y_16.toNatClampNeg).toInt64)]) (rest := []) ⟨hx, hb, hml, hown, hts⟩ (l_Mo_lay l dC dI X _ hc_24) (cwV 3 hts (gwV good_Mq (u_Mq_Mo _ k_Mo_418) (u_Mq_Mo _ k_Mo_419) (u_Mq_Mo _ k_Mo_538) (u_Mq_Mo _ k_Mo_0) (wcs (u_Mq_Mo _ k_Mo_420) (fun _ h => h))) rfl rfl rfl (by decide +kernel) ⟨Nat.le_of_ble_eq_true rfl, Nat.le_of_ble_eq_true rfl⟩) (pv_ofE (X.same _) (fun U z1 z2 => X.mono _ _ U hFc (hEw _ _ hS U z1 z2)) hP hK hD (va_recv hK hP (ci := 12) (q0 := 0) rfl rfl)) rfl rfl hl.1 rfl (lv_room (Nat.le_of_ble_eq_true rfl)) d_Mo_inode_207 ⟨by decide, by decide⟩) hS (fun q _ h => hFc q h) hFc (fun u t H locs ht hvm hw hB hz1 hk1 hS => ?_)
          obtain ⟨hP, -, hD⟩ := hB
          rw [ht] at hP
          have hD := lx_dj hD hFc
          obtain ⟨x_25, ex_25, h⟩ := lf_lX h
          refine lv_iinc (v := x_25) (lv' := [(16, .int x_25), (0, .ref M.o), (12, .ref M.a_record), (13, .int y_13), (14, .int y_14), (15, .int y_15)]) hx hb d_Mo_inode_210 hl (k := 5) rfl (by rw [ex_25]; rfl) (by decide) rfl (fun ls hl => ?_)
          refine lv_goto (tgt := 170) hx hb d_Mo_inode_213 (by decide) ?_
          exact hr_170 y_13 y_14 y_15 x_25 S_24 _ _ _ h hP hD hS (lv_sub hl [1, 2, 3, 4, 5, 0] rfl)
  have hB_140 : ∀ (y_13 : Int32) (y_14 : Int32) (S : MS) (H : Heap) (locs : List Loc) (ls : Array Slot), f_Mo_inode_record_140 K y_13 y_14 S = some S' → va_P (dC, dI) classes (wM M S) H → va_D A (wM M S) → va_S A s.heap H locs → lv_has ls 18 [(0, .ref M.o), (12, .ref M.a_record), (13, .int y_13), (14, .int y_14)] → W p l e ({ frames := 2, cells := 0, slots := 0, locals := 42 }) s m ([.ref M.o, .int p0, .int p1, .int p2, .long p3, .long p4, .long p5, .long p6, .ref M.a_record, .int p8] : List Value).toArray below meth c H locs 0 0 Q (F0 m 140 ls []) := by
    intro y_13 y_14 S H locs ls h hP hD hS hl
    rw [f_Mo_inode_record_140] at h
    refine lv_iload hx hb d_Mo_inode_140 (lv_at hl 2 rfl) ?_
    refine lv_bipush (v := 12) hx hb d_Mo_inode_142 (by decide) ?_
    refine lv_icmp_le (tgt := 216) hx hb d_Mo_inode_144 (by decide) (fun c_15 => ?_) (fun c_15 => ?_)
    · have h := lf_t h c_15
      exact hB_216 y_13 y_14 S _ _ _ h hP hD hS (lv_sub hl [0, 1, 2, 3] rfl)
    · have h := lf_f h c_15
      refine lv_aload_n hx hb d_Mo_inode_147 rfl (lv_at hl 0 rfl) ?_
      obtain ⟨r_16, S_16, hc_16, h⟩ := lf_cE h
      have hFc := lx_free hD hS hA
      refine va_calli (va_runV (As := []) (rest := []) ⟨hx, hb, hml, hown, hts⟩ (l_Mo_build l dC dI X _ hc_16) (cwV 0 hts (gwV good_Mq (u_Mq_Mo _ k_Mo_415) (u_Mq_Mo _ k_Mo_416) (u_Mq_Mo _ k_Mo_539) (u_Mq_Mo _ k_Mo_0) (wcs (u_Mq_Mo _ k_Mo_417) (fun _ h => h))) rfl rfl rfl (by decide +kernel) ⟨Nat.le_of_ble_eq_true rfl, Nat.le_of_ble_eq_true rfl⟩) (pv_ofE (X.same _) (fun U z1 z2 => X.mono _ _ U hFc (hEw _ _ hS U z1 z2)) hP hK hD (va_recv hK hP (ci := 12) (q0 := 0) rfl rfl)) rfl rfl hl.1 rfl (lv_room (Nat.le_of_ble_eq_true rfl)) d_Mo_inode_148 ⟨by decide, by decide⟩) hS (fun q _ h => hFc q h) hFc (fun r_ u t H locs ht hvm hw hB hz1 hk1 hS => ?_)
      rw [hw]
      obtain ⟨hP, -, hD⟩ := hB
      rw [ht] at hP
      have hD := lx_dj hD hFc
      refine lv_istore (lv' := [(15, .int r_16), (0, .ref M.o), (12, .ref M.a_record), (13, .int y_13), (14, .int y_14)]) hx hb d_Mo_inode_151 hl (by decide) rfl (fun ls hl => ?_)
      refine lv_aload_n hx hb d_Mo_inode_153 rfl (lv_at hl 1 rfl) ?_
      refine lv_iload hx hb d_Mo_inode_154 (lv_at hl 4 rfl) ?_
      refine lv_bipush (v := 88) hx hb d_Mo_inode_156 (by decide) ?_
      refine lv_iadd hx hb d_Mo_inode_158 ?_
      refine lv_iconst (v := 4) hx hb d_Mo_inode_159 (by decide) ?_
      refine lv_iload hx hb d_Mo_inode_160 (lv_at hl 0 rfl) ?_
      refine lv_i2l hx hb d_Mo_inode_162 rfl ?_
      obtain ⟨S_17, hc_17, h⟩ := lf_bE h
      have hFc := lx_free hD hS hA
      refine va_callv (va_runV (As := [.int (y_14 + 88), .int 4, .long r_16.toInt64]) (rest := []) ⟨hx, hb, hml, hown, hts⟩ (l_Mo_lay l dC dI X _ hc_17) (cwV 3 hts (gwV good_Mq (u_Mq_Mo _ k_Mo_418) (u_Mq_Mo _ k_Mo_419) (u_Mq_Mo _ k_Mo_538) (u_Mq_Mo _ k_Mo_0) (wcs (u_Mq_Mo _ k_Mo_420) (fun _ h => h))) rfl rfl rfl (by decide +kernel) ⟨Nat.le_of_ble_eq_true rfl, Nat.le_of_ble_eq_true rfl⟩) (pv_ofE (X.same _) (fun U z1 z2 => X.mono _ _ U hFc (hEw _ _ hS U z1 z2)) hP hK hD (va_recv hK hP (ci := 12) (q0 := 0) rfl rfl)) rfl rfl hl.1 rfl (lv_room (Nat.le_of_ble_eq_true rfl)) d_Mo_inode_163 ⟨by decide, by decide⟩) hS (fun q _ h => hFc q h) hFc (fun u t H locs ht hvm hw hB hz1 hk1 hS => ?_)
      obtain ⟨hP, -, hD⟩ := hB
      rw [ht] at hP
      have hD := lx_dj hD hFc
      refine lv_bipush (v := 12) hx hb d_Mo_inode_166 (by decide) ?_
      refine lv_istore (lv' := [(16, .int 12), (15, .int r_16), (0, .ref M.o), (12, .ref M.a_record), (13, .int y_13), (14, .int y_14)]) hx hb d_Mo_inode_168 hl (by decide) rfl (fun ls hl => ?_)
      exact hB_170 K y_13 y_14 r_16 12 S_17 _ _ _ h hP hD hS (lv_sub hl [2, 3, 4, 5, 1, 0] rfl)
  have hB_99 : ∀ (k : Nat), ∀ (y_13 : Int32) (y_14 : Int32) (y_15 : Int32) (S : MS) (H : Heap) (locs : List Loc) (ls : Array Slot), f_Mo_inode_record_99 K k y_13 y_14 y_15 S = some S' → va_P (dC, dI) classes (wM M S) H → va_D A (wM M S) → va_S A s.heap H locs → lv_has ls 18 [(0, .ref M.o), (12, .ref M.a_record), (13, .int y_13), (14, .int y_14), (15, .int y_15)] → W p l e ({ frames := 2, cells := 0, slots := 0, locals := 42 }) s m ([.ref M.o, .int p0, .int p1, .int p2, .long p3, .long p4, .long p5, .long p6, .ref M.a_record, .int p8] : List Value).toArray below meth c H locs 0 0 Q (F0 m 99 ls []) := by
    intro k
    induction k with
    | zero => intro y_13 y_14 y_15 S H locs ls h; exact lf_no h
    | succ k hr_99 =>
      intro y_13 y_14 y_15 S H locs ls h hP hD hS hl
      rw [f_Mo_inode_record_99] at h
      refine lv_iload hx hb d_Mo_inode_99 (lv_at hl 4 rfl) ?_
      refine lv_iload hx hb d_Mo_inode_101 (lv_at hl 2 rfl) ?_
      refine lv_icmp_ge (tgt := 140) hx hb d_Mo_inode_103 (by decide) (fun c_10 => ?_) (fun c_10 => ?_)
      · have h := lf_t h c_10
        exact hB_140 y_13 y_14 S _ _ _ h hP hD hS (lv_sub hl [0, 1, 2, 3] rfl)
      · have h := lf_f h c_10
        refine lv_iload hx hb d_Mo_inode_106 (lv_at hl 4 rfl) ?_
        refine lv_bipush (v := 12) hx hb d_Mo_inode_108 (by decide) ?_
        refine lv_icmp_ge (tgt := 140) hx hb d_Mo_inode_110 (by decide) (fun c_11 => ?_) (fun c_11 => ?_)
        · have h := lf_t h c_11
          exact hB_140 y_13 y_14 S _ _ _ h hP hD hS (lv_sub hl [0, 1, 2, 3] rfl)
        · have h := lf_f h c_11
          refine lv_aload_n hx hb d_Mo_inode_113 rfl (lv_at hl 0 rfl) ?_
          refine lv_iload hx hb d_Mo_inode_114 (lv_at hl 3 rfl) ?_
          refine lv_bipush (v := 40) hx hb d_Mo_inode_116 (by decide) ?_
          refine lv_iadd hx hb d_Mo_inode_118 ?_
          refine lv_iconst (v := 4) hx hb d_Mo_inode_119 (by decide) ?_
          refine lv_iload hx hb d_Mo_inode_120 (lv_at hl 4 rfl) ?_
          refine lv_imul hx hb d_Mo_inode_122 ?_
          refine lv_iadd hx hb d_Mo_inode_123 ?_
          refine lv_iconst (v := 4) hx hb d_Mo_inode_124 (by decide) ?_
          refine lv_aload hx hb d_Mo_inode_125 (lv_at hl 1 rfl) ?_
          refine lv_iload hx hb d_Mo_inode_127 (lv_at hl 4 rfl) ?_
          obtain ⟨g_12, h⟩ := lf_gE h
          refine va_iald hx hb hK hP 26 25 rfl rfl g_12 d_Mo_inode_129 ?_
          refine lv_i2l hx hb d_Mo_inode_130 rfl ?_
          obtain ⟨S_13, hc_13, h⟩ := lf_bE h
          have hFc := lx_free hD hS hA
          refine va_callv (va_runV (As := [.int ((y_14 + 40) + (4 * y_15)), .int 4, .long ((S.v_record y_15.toNatClampNeg).toInt64)]) (rest := []) ⟨hx, hb, hml, hown, hts⟩ (l_Mo_lay l dC dI X _ hc_13) (cwV 3 hts (gwV good_Mq (u_Mq_Mo _ k_Mo_418) (u_Mq_Mo _ k_Mo_419) (u_Mq_Mo _ k_Mo_538) (u_Mq_Mo _ k_Mo_0) (wcs (u_Mq_Mo _ k_Mo_420) (fun _ h => h))) rfl rfl rfl (by decide +kernel) ⟨Nat.le_of_ble_eq_true rfl, Nat.le_of_ble_eq_true rfl⟩) (pv_ofE (X.same _) (fun U z1 z2 => X.mono _ _ U hFc (hEw _ _ hS U z1 z2)) hP hK hD (va_recv hK hP (ci := 12) (q0 := 0) rfl rfl)) rfl rfl hl.1 rfl (lv_room (Nat.le_of_ble_eq_true rfl)) d_Mo_inode_131 ⟨by decide, by decide⟩) hS (fun q _ h => hFc q h) hFc (fun u t H locs ht hvm hw hB hz1 hk1 hS => ?_)
          obtain ⟨hP, -, hD⟩ := hB
          rw [ht] at hP
          have hD := lx_dj hD hFc
          obtain ⟨x_14, ex_14, h⟩ := lf_lX h
          refine lv_iinc (v := x_14) (lv' := [(15, .int x_14), (0, .ref M.o), (12, .ref M.a_record), (13, .int y_13), (14, .int y_14)]) hx hb d_Mo_inode_134 hl (k := 4) rfl (by rw [ex_14]; rfl) (by decide) rfl (fun ls hl => ?_)
          refine lv_goto (tgt := 99) hx hb d_Mo_inode_137 (by decide) ?_
          exact hr_99 y_13 y_14 x_14 S_13 _ _ _ h hP hD hS (lv_sub hl [1, 2, 3, 4, 0] rfl)
  rw [f_Mo_inode_record] at h
  refine lv_aload_n hx hb d_Mo_inode_0 rfl (lv_at hl 0 rfl) ?_
  refine lv_iload_n hx hb d_Mo_inode_1 rfl (lv_at hl 1 rfl) ?_
  obtain ⟨r_1, S_1, hc_1, h⟩ := lf_cE h
  have hFc := lx_free hD hS hA
  refine va_calli (va_runV (As := [.int p0]) (rest := []) ⟨hx, hb, hml, hown, hts⟩ (l_Mo_inodeAt l dC dI X _ hc_1) (cwV 1 hts (gwV good_Mq (u_Mq_Mo _ k_Mo_431) (u_Mq_Mo _ k_Mo_432) (u_Mq_Mo _ k_Mo_540) (u_Mq_Mo _ k_Mo_0) (wcs (u_Mq_Mo _ k_Mo_433) (fun _ h => h))) rfl rfl rfl (by decide +kernel) ⟨Nat.le_of_ble_eq_true rfl, Nat.le_of_ble_eq_true rfl⟩) (pv_ofE (X.same _) (fun U z1 z2 => X.mono _ _ U hFc (hEw _ _ hS U z1 z2)) hP hK hD (va_recv hK hP (ci := 12) (q0 := 0) rfl rfl)) rfl rfl hl.1 rfl (lv_room (Nat.le_of_ble_eq_true rfl)) d_Mo_inode_2 ⟨by decide, by decide⟩) hS (fun q _ h => hFc q h) hFc (fun r_ u t H locs ht hvm hw hB hz1 hk1 hS => ?_)
  rw [hw]
  obtain ⟨hP, -, hD⟩ := hB
  rw [ht] at hP
  have hD := lx_dj hD hFc
  refine lv_istore (lv' := [(14, .int r_1), (0, .ref M.o), (1, .int p0), (2, .int p1), (3, .int p2), (4, .long p3), (6, .long p4), (8, .long p5), (10, .long p6), (12, .ref M.a_record), (13, .int p8)]) hx hb d_Mo_inode_5 hl (by decide) rfl (fun ls hl => ?_)
  refine lv_aload_n hx hb d_Mo_inode_7 rfl (lv_at hl 1 rfl) ?_
  refine lv_iload hx hb d_Mo_inode_8 (lv_at hl 0 rfl) ?_
  refine lv_iconst (v := 2) hx hb d_Mo_inode_10 (by decide) ?_
  refine lv_iload_n hx hb d_Mo_inode_11 rfl (lv_at hl 3 rfl) ?_
  refine lv_i2l hx hb d_Mo_inode_12 rfl ?_
  obtain ⟨S_2, hc_2, h⟩ := lf_bE h
  have hFc := lx_free hD hS hA
  refine va_callv (va_runV (As := [.int r_1, .int 2, .long p1.toInt64]) (rest := []) ⟨hx, hb, hml, hown, hts⟩ (l_Mo_lay l dC dI X _ hc_2) (cwV 3 hts (gwV good_Mq (u_Mq_Mo _ k_Mo_418) (u_Mq_Mo _ k_Mo_419) (u_Mq_Mo _ k_Mo_538) (u_Mq_Mo _ k_Mo_0) (wcs (u_Mq_Mo _ k_Mo_420) (fun _ h => h))) rfl rfl rfl (by decide +kernel) ⟨Nat.le_of_ble_eq_true rfl, Nat.le_of_ble_eq_true rfl⟩) (pv_ofE (X.same _) (fun U z1 z2 => X.mono _ _ U hFc (hEw _ _ hS U z1 z2)) hP hK hD (va_recv hK hP (ci := 12) (q0 := 0) rfl rfl)) rfl rfl hl.1 rfl (lv_room (Nat.le_of_ble_eq_true rfl)) d_Mo_inode_13 ⟨by decide, by decide⟩) hS (fun q _ h => hFc q h) hFc (fun u t H locs ht hvm hw hB hz1 hk1 hS => ?_)
  obtain ⟨hP, -, hD⟩ := hB
  rw [ht] at hP
  have hD := lx_dj hD hFc
  refine lv_aload_n hx hb d_Mo_inode_16 rfl (lv_at hl 1 rfl) ?_
  refine lv_iload hx hb d_Mo_inode_17 (lv_at hl 0 rfl) ?_
  refine lv_iconst (v := 4) hx hb d_Mo_inode_19 (by decide) ?_
  refine lv_iadd hx hb d_Mo_inode_20 ?_
  refine lv_iconst (v := 4) hx hb d_Mo_inode_21 (by decide) ?_
  refine lv_lload hx hb d_Mo_inode_22 (lv_at hl 8 rfl) ?_
  obtain ⟨S_3, hc_3, h⟩ := lf_bE h
  have hFc := lx_free hD hS hA
  refine va_callv (va_runV (As := [.int (r_1 + 4), .int 4, .long p6]) (rest := []) ⟨hx, hb, hml, hown, hts⟩ (l_Mo_lay l dC dI X _ hc_3) (cwV 3 hts (gwV good_Mq (u_Mq_Mo _ k_Mo_418) (u_Mq_Mo _ k_Mo_419) (u_Mq_Mo _ k_Mo_538) (u_Mq_Mo _ k_Mo_0) (wcs (u_Mq_Mo _ k_Mo_420) (fun _ h => h))) rfl rfl rfl (by decide +kernel) ⟨Nat.le_of_ble_eq_true rfl, Nat.le_of_ble_eq_true rfl⟩) (pv_ofE (X.same _) (fun U z1 z2 => X.mono _ _ U hFc (hEw _ _ hS U z1 z2)) hP hK hD (va_recv hK hP (ci := 12) (q0 := 0) rfl rfl)) rfl rfl hl.1 rfl (lv_room (Nat.le_of_ble_eq_true rfl)) d_Mo_inode_24 ⟨by decide, by decide⟩) hS (fun q _ h => hFc q h) hFc (fun u t H locs ht hvm hw hB hz1 hk1 hS => ?_)
  obtain ⟨hP, -, hD⟩ := hB
  rw [ht] at hP
  have hD := lx_dj hD hFc
  refine lv_aload_n hx hb d_Mo_inode_27 rfl (lv_at hl 1 rfl) ?_
  refine lv_iload hx hb d_Mo_inode_28 (lv_at hl 0 rfl) ?_
  refine lv_bipush (v := 8) hx hb d_Mo_inode_30 (by decide) ?_
  refine lv_iadd hx hb d_Mo_inode_32 ?_
  refine lv_iconst (v := 4) hx hb d_Mo_inode_33 (by decide) ?_
  refine lv_lload hx hb d_Mo_inode_34 (lv_at hl 5 rfl) ?_
  obtain ⟨S_4, hc_4, h⟩ := lf_bE h
  have hFc := lx_free hD hS hA
  refine va_callv (va_runV (As := [.int (r_1 + 8), .int 4, .long p3]) (rest := []) ⟨hx, hb, hml, hown, hts⟩ (l_Mo_lay l dC dI X _ hc_4) (cwV 3 hts (gwV good_Mq (u_Mq_Mo _ k_Mo_418) (u_Mq_Mo _ k_Mo_419) (u_Mq_Mo _ k_Mo_538) (u_Mq_Mo _ k_Mo_0) (wcs (u_Mq_Mo _ k_Mo_420) (fun _ h => h))) rfl rfl rfl (by decide +kernel) ⟨Nat.le_of_ble_eq_true rfl, Nat.le_of_ble_eq_true rfl⟩) (pv_ofE (X.same _) (fun U z1 z2 => X.mono _ _ U hFc (hEw _ _ hS U z1 z2)) hP hK hD (va_recv hK hP (ci := 12) (q0 := 0) rfl rfl)) rfl rfl hl.1 rfl (lv_room (Nat.le_of_ble_eq_true rfl)) d_Mo_inode_36 ⟨by decide, by decide⟩) hS (fun q _ h => hFc q h) hFc (fun u t H locs ht hvm hw hB hz1 hk1 hS => ?_)
  obtain ⟨hP, -, hD⟩ := hB
  rw [ht] at hP
  have hD := lx_dj hD hFc
  refine lv_aload_n hx hb d_Mo_inode_39 rfl (lv_at hl 1 rfl) ?_
  refine lv_iload hx hb d_Mo_inode_40 (lv_at hl 0 rfl) ?_
  refine lv_bipush (v := 12) hx hb d_Mo_inode_42 (by decide) ?_
  refine lv_iadd hx hb d_Mo_inode_44 ?_
  refine lv_iconst (v := 4) hx hb d_Mo_inode_45 (by decide) ?_
  refine lv_lload hx hb d_Mo_inode_46 (lv_at hl 6 rfl) ?_
  obtain ⟨S_5, hc_5, h⟩ := lf_bE h
  have hFc := lx_free hD hS hA
  refine va_callv (va_runV (As := [.int (r_1 + 12), .int 4, .long p4]) (rest := []) ⟨hx, hb, hml, hown, hts⟩ (l_Mo_lay l dC dI X _ hc_5) (cwV 3 hts (gwV good_Mq (u_Mq_Mo _ k_Mo_418) (u_Mq_Mo _ k_Mo_419) (u_Mq_Mo _ k_Mo_538) (u_Mq_Mo _ k_Mo_0) (wcs (u_Mq_Mo _ k_Mo_420) (fun _ h => h))) rfl rfl rfl (by decide +kernel) ⟨Nat.le_of_ble_eq_true rfl, Nat.le_of_ble_eq_true rfl⟩) (pv_ofE (X.same _) (fun U z1 z2 => X.mono _ _ U hFc (hEw _ _ hS U z1 z2)) hP hK hD (va_recv hK hP (ci := 12) (q0 := 0) rfl rfl)) rfl rfl hl.1 rfl (lv_room (Nat.le_of_ble_eq_true rfl)) d_Mo_inode_48 ⟨by decide, by decide⟩) hS (fun q _ h => hFc q h) hFc (fun u t H locs ht hvm hw hB hz1 hk1 hS => ?_)
  obtain ⟨hP, -, hD⟩ := hB
  rw [ht] at hP
  have hD := lx_dj hD hFc
  refine lv_aload_n hx hb d_Mo_inode_51 rfl (lv_at hl 1 rfl) ?_
  refine lv_iload hx hb d_Mo_inode_52 (lv_at hl 0 rfl) ?_
  refine lv_bipush (v := 16) hx hb d_Mo_inode_54 (by decide) ?_
  refine lv_iadd hx hb d_Mo_inode_56 ?_
  refine lv_iconst (v := 4) hx hb d_Mo_inode_57 (by decide) ?_
  refine lv_lload hx hb d_Mo_inode_58 (lv_at hl 7 rfl) ?_
  obtain ⟨S_6, hc_6, h⟩ := lf_bE h
  have hFc := lx_free hD hS hA
  refine va_callv (va_runV (As := [.int (r_1 + 16), .int 4, .long p5]) (rest := []) ⟨hx, hb, hml, hown, hts⟩ (l_Mo_lay l dC dI X _ hc_6) (cwV 3 hts (gwV good_Mq (u_Mq_Mo _ k_Mo_418) (u_Mq_Mo _ k_Mo_419) (u_Mq_Mo _ k_Mo_538) (u_Mq_Mo _ k_Mo_0) (wcs (u_Mq_Mo _ k_Mo_420) (fun _ h => h))) rfl rfl rfl (by decide +kernel) ⟨Nat.le_of_ble_eq_true rfl, Nat.le_of_ble_eq_true rfl⟩) (pv_ofE (X.same _) (fun U z1 z2 => X.mono _ _ U hFc (hEw _ _ hS U z1 z2)) hP hK hD (va_recv hK hP (ci := 12) (q0 := 0) rfl rfl)) rfl rfl hl.1 rfl (lv_room (Nat.le_of_ble_eq_true rfl)) d_Mo_inode_60 ⟨by decide, by decide⟩) hS (fun q _ h => hFc q h) hFc (fun u t H locs ht hvm hw hB hz1 hk1 hS => ?_)
  obtain ⟨hP, -, hD⟩ := hB
  rw [ht] at hP
  have hD := lx_dj hD hFc
  refine lv_aload_n hx hb d_Mo_inode_63 rfl (lv_at hl 1 rfl) ?_
  refine lv_iload hx hb d_Mo_inode_64 (lv_at hl 0 rfl) ?_
  refine lv_bipush (v := 26) hx hb d_Mo_inode_66 (by decide) ?_
  refine lv_iadd hx hb d_Mo_inode_68 ?_
  refine lv_iconst (v := 2) hx hb d_Mo_inode_69 (by decide) ?_
  refine lv_iload_n hx hb d_Mo_inode_70 rfl (lv_at hl 4 rfl) ?_
  refine lv_i2l hx hb d_Mo_inode_71 rfl ?_
  obtain ⟨S_7, hc_7, h⟩ := lf_bE h
  have hFc := lx_free hD hS hA
  refine va_callv (va_runV (As := [.int (r_1 + 26), .int 2, .long p2.toInt64]) (rest := []) ⟨hx, hb, hml, hown, hts⟩ (l_Mo_lay l dC dI X _ hc_7) (cwV 3 hts (gwV good_Mq (u_Mq_Mo _ k_Mo_418) (u_Mq_Mo _ k_Mo_419) (u_Mq_Mo _ k_Mo_538) (u_Mq_Mo _ k_Mo_0) (wcs (u_Mq_Mo _ k_Mo_420) (fun _ h => h))) rfl rfl rfl (by decide +kernel) ⟨Nat.le_of_ble_eq_true rfl, Nat.le_of_ble_eq_true rfl⟩) (pv_ofE (X.same _) (fun U z1 z2 => X.mono _ _ U hFc (hEw _ _ hS U z1 z2)) hP hK hD (va_recv hK hP (ci := 12) (q0 := 0) rfl rfl)) rfl rfl hl.1 rfl (lv_room (Nat.le_of_ble_eq_true rfl)) d_Mo_inode_72 ⟨by decide, by decide⟩) hS (fun q _ h => hFc q h) hFc (fun u t H locs ht hvm hw hB hz1 hk1 hS => ?_)
  obtain ⟨hP, -, hD⟩ := hB
  rw [ht] at hP
  have hD := lx_dj hD hFc
  refine lv_aload_n hx hb d_Mo_inode_75 rfl (lv_at hl 1 rfl) ?_
  refine lv_iload hx hb d_Mo_inode_76 (lv_at hl 0 rfl) ?_
  refine lv_bipush (v := 28) hx hb d_Mo_inode_78 (by decide) ?_
  refine lv_iadd hx hb d_Mo_inode_80 ?_
  refine lv_iconst (v := 4) hx hb d_Mo_inode_81 (by decide) ?_
  refine lv_iconst (v := 2) hx hb d_Mo_inode_82 (by decide) ?_
  refine lv_iload hx hb d_Mo_inode_83 (lv_at hl 10 rfl) ?_
  refine lv_iload hx hb d_Mo_inode_85 (lv_at hl 10 rfl) ?_
  obtain ⟨r_8, hc_8, h⟩ := lf_bE h
  have hFc := lx_free0 hS hA
  refine va_calli (va_runS (As := [.int p8]) (rest := [.int p8, .int 2, .int 4, .int (r_1 + 28), .ref M.o]) ⟨hx, hb, hml, hown, hts⟩ (l_Mo_indirect l dC dI  _ hc_8) (va_cwS 1 hts (gwS good_Mq (u_Mq_Mo _ k_Mo_394) (u_Mq_Mo _ k_Mo_395) (u_Mq_Mo _ k_Mo_0) (wcs (u_Mq_Mo _ k_Mo_396) (fun _ h => h))) rfl rfl rfl (by decide +kernel) ⟨Nat.le_of_ble_eq_true rfl, Nat.le_of_ble_eq_true rfl⟩) (ps_of (W := []) (tys := []) (hP.sub (ws' := []) [] rfl) (hK.sub [] rfl) (hD.sub (ws' := []) [] (by decide) rfl)) rfl rfl hl.1 rfl (lv_room (Nat.le_of_ble_eq_true rfl)) d_Mo_inode_87 ⟨by decide, by decide⟩) hS (fun q _ h => hFc q h) hFc (fun r_ u t H locs ht hvm hw hB hz1 hk1 hS => ?_)
  rw [hw]
  have hP := lx_stat (A := A) hP hk1
  refine lv_iadd hx hb d_Mo_inode_90 ?_
  refine lv_imul hx hb d_Mo_inode_91 ?_
  refine lv_i2l hx hb d_Mo_inode_92 rfl ?_
  obtain ⟨S_9, hc_9, h⟩ := lf_bE h
  have hFc := lx_free hD hS hA
  refine va_callv (va_runV (As := [.int (r_1 + 28), .int 4, .long ((2 * (p8 + r_8)).toInt64)]) (rest := []) ⟨hx, hb, hml, hown, hts⟩ (l_Mo_lay l dC dI X _ hc_9) (cwV 3 hts (gwV good_Mq (u_Mq_Mo _ k_Mo_418) (u_Mq_Mo _ k_Mo_419) (u_Mq_Mo _ k_Mo_538) (u_Mq_Mo _ k_Mo_0) (wcs (u_Mq_Mo _ k_Mo_420) (fun _ h => h))) rfl rfl rfl (by decide +kernel) ⟨Nat.le_of_ble_eq_true rfl, Nat.le_of_ble_eq_true rfl⟩) (pv_ofE (X.same _) (fun U z1 z2 => X.mono _ _ U hFc (hEw _ _ hS U z1 z2)) hP hK hD (va_recv hK hP (ci := 12) (q0 := 0) rfl rfl)) rfl rfl hl.1 rfl (lv_room (Nat.le_of_ble_eq_true rfl)) d_Mo_inode_93 ⟨by decide, by decide⟩) hS (fun q _ h => hFc q h) hFc (fun u t H locs ht hvm hw hB hz1 hk1 hS => ?_)
  obtain ⟨hP, -, hD⟩ := hB
  rw [ht] at hP
  have hD := lx_dj hD hFc
  refine lv_iconst (v := 0) hx hb d_Mo_inode_96 (by decide) ?_
  refine lv_istore (lv' := [(15, .int 0), (14, .int r_1), (0, .ref M.o), (1, .int p0), (2, .int p1), (3, .int p2), (4, .long p3), (6, .long p4), (8, .long p5), (10, .long p6), (12, .ref M.a_record), (13, .int p8)]) hx hb d_Mo_inode_97 hl (by decide) rfl (fun ls hl => ?_)
  exact hB_99 K p8 r_1 0 S_9 _ _ _ h hP hD hS (lv_sub hl [2, 10, 11, 1, 0] rfl)
set_option maxHeartbeats 4000000 in
set_option maxRecDepth 100000 in
theorem l_Mo_inode_list (l : Launch) (dC : Nat → ClassId) (dI : Nat → Nat → Nat) {K : Nat} {M : MA} {E : (Nat → Prop) → State → Prop} (X : lx_X l dC dI K M E) (sz : Nat) {S S' : MS} {p0 : Int32} {p1 : Int32} {p2 : Int32} {p3 : Int64} {p4 : Int64} {p5 : Int64} {p6 : Int64} {p8 : Int32} (h : f_Mo_inode_list K S p0 p1 p2 p3 p4 p5 p6 p8 = some S') : Met l y_Mo_inode (.code y_Mo_inode b_Mo_inode 18 none :: V_Mq) ({ frames := 2, cells := 0, slots := 0, locals := 42 }) (va_Pc [.ref M.o, .int p0, .int p1, .int p2, .long p3, .long p4, .long p5, .long p6, .ref M.a_list, .int p8] (fun U => U.heap.size = sz ∧ at_ (dC, dI) (fun _ => True) (wM M S) (tM M) U ∧ E (va_A (wM M S) sz) U)) (va_Qv (fun (u : Unit) => True) (fun (u : Unit) t => at_ (dC, dI) (va_A (wM M S) sz) (wM M S') (tM M) t) (va_A (wM M S) sz)) 0 0 (va_A (wM M S) sz) := by
  refine Met.ofW (cc := b_Mo_inode) (maxL := 18) (ret := none) (by decide) rfl ?_
  intro p e s m args below meth c s₁ B hml hv
  obtain ⟨rfl, hsz, ⟨hP, hK, hD0⟩, hE⟩ := hv
  have hx := B.exec
  have hb := B.bytes
  have hr := B.returns
  have hts0 := atoms_spec (ws := .code y_Mo_inode b_Mo_inode 18 none :: V_Mq) B.pre
  have hts : ∀ w ∈ V_Mq, w.before ([.ref M.o, .int p0, .int p1, .int p2, .long p3, .long p4, .long p5, .long p6, .ref M.a_list, .int p8] : List Value).toArray s = true := fun w h => hts0 w (List.mem_cons_of_mem _ h)
  have hown : s.vm.findClass R_Mo = some m.cls := findClass_of_methodNamed B.named
  subst hsz
  have hD := hD0.self (sz := s.heap.size)
  generalize hAe : va_A (wM M S) s.heap.size = A at hD hE ⊢
  have hA : ∀ q : Nat, s.heap.size ≤ q → A q := fun q h => by rw [← hAe]; exact Or.inr h
  have hS : va_S A s.heap s.heap [] := va_S.rf
  have hP : va_P (dC, dI) classes (wM M S) s.heap := hP
  have hK : va_K (dC, dI) classes (tM M) s := hK
  have hEw : ∀ (H : Heap) (locs : List Loc), va_S A s.heap H locs → ∀ U : State, U.heap = H → s.WarmedH U.vm → E A U := fun H locs hS U hU hW => X.kept A s U H locs hE hS hU hW
  have hl := lv_entry ([.ref M.o, .int p0, .int p1, .int p2, .long p3, .long p4, .long p5, .long p6, .ref M.a_list, .int p8]) (n := 18) (Nat.le_of_ble_eq_true rfl)
  rw [lg_entry_eq]
  generalize (lg_sl ([.ref M.o, .int p0, .int p1, .int p2, .long p3, .long p4, .long p5, .long p6, .ref M.a_list, .int p8]) ++ List.replicate (18 - (lg_sl ([.ref M.o, .int p0, .int p1, .int p2, .long p3, .long p4, .long p5, .long p6, .ref M.a_list, .int p8])).length) Slot.unset).toArray = ls at hl ⊢
  have hl : lv_has ls 18 [(0, .ref M.o), (1, .int p0), (2, .int p1), (3, .int p2), (4, .long p3), (6, .long p4), (8, .long p5), (10, .long p6), (12, .ref M.a_list), (13, .int p8)] := hl
  refine qabs (fun Q hQ => ?_)
  have hB_304 : ∀ (rec_251 : Int32 → Int32 → Int32 → Int32 → MS → Option (MS)) (hr_251 : ∀ (y_13 : Int32) (y_15 : Int32) (y_16 : Int32) (y_17 : Int32) (S : MS) (H : Heap) (locs : List Loc) (ls : Array Slot), rec_251 y_13 y_15 y_16 y_17 S = some S' → va_P (dC, dI) classes (wM M S) H → va_D A (wM M S) → va_S A s.heap H locs → lv_has ls 18 [(0, .ref M.o), (12, .ref M.a_list), (13, .int y_13), (15, .int y_15), (16, .int y_16), (17, .int y_17)] → W p l e ({ frames := 2, cells := 0, slots := 0, locals := 42 }) s m ([.ref M.o, .int p0, .int p1, .int p2, .long p3, .long p4, .long p5, .long p6, .ref M.a_list, .int p8] : List Value).toArray below meth c H locs 0 0 Q (F0 m 251 ls [])), ∀ (y_13 : Int32) (y_15 : Int32) (y_16 : Int32) (y_17 : Int32) (S : MS) (H : Heap) (locs : List Loc) (ls : Array Slot), f_Mo_inode_list_304 K rec_251 y_13 y_15 y_16 y_17 S = some S' → va_P (dC, dI) classes (wM M S) H → va_D A (wM M S) → va_S A s.heap H locs → lv_has ls 18 [(0, .ref M.o), (12, .ref M.a_list), (13, .int y_13), (15, .int y_15), (16, .int y_16), (17, .int y_17)] → W p l e ({ frames := 2, cells := 0, slots := 0, locals := 42 }) s m ([.ref M.o, .int p0, .int p1, .int p2, .long p3, .long p4, .long p5, .long p6, .ref M.a_list, .int p8] : List Value).toArray below meth c H locs 0 0 Q (F0 m 304 ls []) := by
    intro rec_251 hr_251 y_13 y_15 y_16 y_17 S H locs ls h hP hD hS hl
    rw [f_Mo_inode_list_304] at h
    refine lv_aload_n hx hb d_Mo_inode_304 rfl (lv_at hl 0 rfl) ?_
    refine lv_sipush (v := 1024) hx hb d_Mo_inode_305 (by decide) ?_
    refine lv_iload hx hb d_Mo_inode_308 (lv_at hl 4 rfl) ?_
    refine lv_imul hx hb d_Mo_inode_310 ?_
    refine lv_iload hx hb d_Mo_inode_311 (lv_at hl 5 rfl) ?_
    refine lv_sipush (v := 268) hx hb d_Mo_inode_313 (by decide) ?_
    refine lv_isub hx hb d_Mo_inode_316 ?_
    refine lv_sipush (v := 256) hx hb d_Mo_inode_317 (by decide) ?_
    refine lv_irem hx hb d_Mo_inode_320 (by decide) ?_
    refine lv_iconst (v := 4) hx hb d_Mo_inode_321 (by decide) ?_
    refine lv_imul hx hb d_Mo_inode_322 ?_
    refine lv_iadd hx hb d_Mo_inode_323 ?_
    refine lv_iconst (v := 4) hx hb d_Mo_inode_324 (by decide) ?_
    refine lv_aload hx hb d_Mo_inode_325 (lv_at hl 1 rfl) ?_
    refine lv_iload hx hb d_Mo_inode_327 (lv_at hl 5 rfl) ?_
    obtain ⟨g_30, h⟩ := lf_gE h
    refine va_iald hx hb hK hP 27 26 rfl rfl g_30 d_Mo_inode_329 ?_
    refine lv_i2l hx hb d_Mo_inode_330 rfl ?_
    obtain ⟨S_31, hc_31, h⟩ := lf_bE h
    have hFc := lx_free hD hS hA
    refine va_callv (va_runV (As := [.int ((1024 * y_16) + (((y_17 - 268) - (y_17 - 268) / 256 * 256) * 4)), .int 4, .long ((S.v_list y_17.toNatClampNeg).toInt64)]) (rest := []) ⟨hx, hb, hml, hown, hts⟩ (l_Mo_lay l dC dI X _ hc_31) (cwV 3 hts (gwV good_Mq (u_Mq_Mo _ k_Mo_418) (u_Mq_Mo _ k_Mo_419) (u_Mq_Mo _ k_Mo_538) (u_Mq_Mo _ k_Mo_0) (wcs (u_Mq_Mo _ k_Mo_420) (fun _ h => h))) rfl rfl rfl (by decide +kernel) ⟨Nat.le_of_ble_eq_true rfl, Nat.le_of_ble_eq_true rfl⟩) (pv_ofE (X.same _) (fun U z1 z2 => X.mono _ _ U hFc (hEw _ _ hS U z1 z2)) hP hK hD (va_recv hK hP (ci := 12) (q0 := 0) rfl rfl)) rfl rfl hl.1 rfl (lv_room (Nat.le_of_ble_eq_true rfl)) d_Mo_inode_331 ⟨by decide, by decide⟩) hS (fun q _ h => hFc q h) hFc (fun u t H locs ht hvm hw hB hz1 hk1 hS => ?_)
    obtain ⟨hP, -, hD⟩ := hB
    rw [ht] at hP
    have hD := lx_dj hD hFc
    obtain ⟨x_32, ex_32, h⟩ := lf_lX h
    refine lv_iinc (v := x_32) (lv' := [(17, .int x_32), (0, .ref M.o), (12, .ref M.a_list), (13, .int y_13), (15, .int y_15), (16, .int y_16)]) hx hb d_Mo_inode_334 hl (k := 5) rfl (by rw [ex_32]; rfl) (by decide) rfl (fun ls hl => ?_)
    refine lv_goto (tgt := 251) hx hb d_Mo_inode_337 (by decide) ?_
    exact hr_251 y_13 y_15 y_16 x_32 S_31 _ _ _ h hP hD hS (lv_sub hl [1, 2, 3, 4, 5, 0] rfl)
  have hB_251 : ∀ (k : Nat), ∀ (y_13 : Int32) (y_15 : Int32) (y_16 : Int32) (y_17 : Int32) (S : MS) (H : Heap) (locs : List Loc) (ls : Array Slot), f_Mo_inode_list_251 K k y_13 y_15 y_16 y_17 S = some S' → va_P (dC, dI) classes (wM M S) H → va_D A (wM M S) → va_S A s.heap H locs → lv_has ls 18 [(0, .ref M.o), (12, .ref M.a_list), (13, .int y_13), (15, .int y_15), (16, .int y_16), (17, .int y_17)] → W p l e ({ frames := 2, cells := 0, slots := 0, locals := 42 }) s m ([.ref M.o, .int p0, .int p1, .int p2, .long p3, .long p4, .long p5, .long p6, .ref M.a_list, .int p8] : List Value).toArray below meth c H locs 0 0 Q (F0 m 251 ls []) := by
    intro k
    induction k with
    | zero => intro y_13 y_15 y_16 y_17 S H locs ls h; exact lf_no h
    | succ k hr_251 =>
      intro y_13 y_15 y_16 y_17 S H locs ls h hP hD hS hl
      rw [f_Mo_inode_list_251] at h
      refine lv_iload hx hb d_Mo_inode_251 (lv_at hl 5 rfl) ?_
      refine lv_iload hx hb d_Mo_inode_253 (lv_at hl 2 rfl) ?_
      refine lv_icmp_ge (tgt := 340) hx hb d_Mo_inode_255 (by decide) (fun c_26 => ?_) (fun c_26 => ?_)
      · have h := lf_t h c_26
        rw [hQ]
        have e2 : S = S' := Option.some.inj h
        have hP := lx_newP e2.symm hP
        have hD := lx_newD e2.symm hD
        exact W.vret hx hb hr (fun t ht hW => ⟨⟨(), rfl, trivial, by rw [ht]; exact hP, va_K.moved hW.alike hK, hD⟩, hS.F ht⟩) hS.2.2 d_Mo_inode_340
      · have h := lf_f h c_26
        refine lv_iload hx hb d_Mo_inode_258 (lv_at hl 5 rfl) ?_
        refine lv_sipush (v := 268) hx hb d_Mo_inode_260 (by decide) ?_
        refine lv_isub hx hb d_Mo_inode_263 ?_
        refine lv_sipush (v := 256) hx hb d_Mo_inode_264 (by decide) ?_
        refine lv_irem hx hb d_Mo_inode_267 (by decide) ?_
        refine lv_if_ne (tgt := 304) hx hb d_Mo_inode_268 (by decide) (fun c_27 => ?_) (fun c_27 => ?_)
        · have h := lf_f h c_27
          exact hB_304 _ hr_251 y_13 y_15 y_16 y_17 S _ _ _ h hP hD hS (lv_sub hl [0, 1, 2, 3, 4, 5] rfl)
        · have h := lf_t h c_27
          refine lv_aload_n hx hb d_Mo_inode_271 rfl (lv_at hl 0 rfl) ?_
          obtain ⟨r_28, S_28, hc_28, h⟩ := lf_cE h
          have hFc := lx_free hD hS hA
          refine va_calli (va_runV (As := []) (rest := []) ⟨hx, hb, hml, hown, hts⟩ (l_Mo_build l dC dI X _ hc_28) (cwV 0 hts (gwV good_Mq (u_Mq_Mo _ k_Mo_415) (u_Mq_Mo _ k_Mo_416) (u_Mq_Mo _ k_Mo_539) (u_Mq_Mo _ k_Mo_0) (wcs (u_Mq_Mo _ k_Mo_417) (fun _ h => h))) rfl rfl rfl (by decide +kernel) ⟨Nat.le_of_ble_eq_true rfl, Nat.le_of_ble_eq_true rfl⟩) (pv_ofE (X.same _) (fun U z1 z2 => X.mono _ _ U hFc (hEw _ _ hS U z1 z2)) hP hK hD (va_recv hK hP (ci := 12) (q0 := 0) rfl rfl)) rfl rfl hl.1 rfl (lv_room (Nat.le_of_ble_eq_true rfl)) d_Mo_inode_272 ⟨by decide, by decide⟩) hS (fun q _ h => hFc q h) hFc (fun r_ u t H locs ht hvm hw hB hz1 hk1 hS => ?_)
          rw [hw]
          obtain ⟨hP, -, hD⟩ := hB
          rw [ht] at hP
          have hD := lx_dj hD hFc
          refine lv_istore (lv' := [(16, .int r_28), (0, .ref M.o), (12, .ref M.a_list), (13, .int y_13), (15, .int y_15), (17, .int y_17)]) hx hb d_Mo_inode_275 hl (by decide) rfl (fun ls hl => ?_)
          refine lv_aload_n hx hb d_Mo_inode_277 rfl (lv_at hl 1 rfl) ?_
          refine lv_sipush (v := 1024) hx hb d_Mo_inode_278 (by decide) ?_
          refine lv_iload hx hb d_Mo_inode_281 (lv_at hl 4 rfl) ?_
          refine lv_imul hx hb d_Mo_inode_283 ?_
          refine lv_iload hx hb d_Mo_inode_284 (lv_at hl 5 rfl) ?_
          refine lv_sipush (v := 268) hx hb d_Mo_inode_286 (by decide) ?_
          refine lv_isub hx hb d_Mo_inode_289 ?_
          refine lv_sipush (v := 256) hx hb d_Mo_inode_290 (by decide) ?_
          refine lv_idiv hx hb d_Mo_inode_293 (by decide) ?_
          refine lv_iconst (v := 4) hx hb d_Mo_inode_294 (by decide) ?_
          refine lv_imul hx hb d_Mo_inode_295 ?_
          refine lv_iadd hx hb d_Mo_inode_296 ?_
          refine lv_iconst (v := 4) hx hb d_Mo_inode_297 (by decide) ?_
          refine lv_iload hx hb d_Mo_inode_298 (lv_at hl 0 rfl) ?_
          refine lv_i2l hx hb d_Mo_inode_300 rfl ?_
          obtain ⟨S_29, hc_29, h⟩ := lf_bE h
          have hFc := lx_free hD hS hA
          refine va_callv (va_runV (As := [.int ((1024 * y_15) + (((y_17 - 268) / 256) * 4)), .int 4, .long r_28.toInt64]) (rest := []) ⟨hx, hb, hml, hown, hts⟩ (l_Mo_lay l dC dI X _ hc_29) (cwV 3 hts (gwV good_Mq (u_Mq_Mo _ k_Mo_418) (u_Mq_Mo _ k_Mo_419) (u_Mq_Mo _ k_Mo_538) (u_Mq_Mo _ k_Mo_0) (wcs (u_Mq_Mo _ k_Mo_420) (fun _ h => h))) rfl rfl rfl (by decide +kernel) ⟨Nat.le_of_ble_eq_true rfl, Nat.le_of_ble_eq_true rfl⟩) (pv_ofE (X.same _) (fun U z1 z2 => X.mono _ _ U hFc (hEw _ _ hS U z1 z2)) hP hK hD (va_recv hK hP (ci := 12) (q0 := 0) rfl rfl)) rfl rfl hl.1 rfl (lv_room (Nat.le_of_ble_eq_true rfl)) d_Mo_inode_301 ⟨by decide, by decide⟩) hS (fun q _ h => hFc q h) hFc (fun u t H locs ht hvm hw hB hz1 hk1 hS => ?_)
          obtain ⟨hP, -, hD⟩ := hB
          rw [ht] at hP
          have hD := lx_dj hD hFc
          exact hB_304 _ hr_251 y_13 y_15 r_28 y_17 S_29 _ _ _ h hP hD hS (lv_sub hl [1, 2, 3, 4, 0, 5] rfl)
  have hB_216 : ∀ (y_13 : Int32) (y_14 : Int32) (S : MS) (H : Heap) (locs : List Loc) (ls : Array Slot), f_Mo_inode_list_216 K y_13 y_14 S = some S' → va_P (dC, dI) classes (wM M S) H → va_D A (wM M S) → va_S A s.heap H locs → lv_has ls 18 [(0, .ref M.o), (12, .ref M.a_list), (13, .int y_13), (14, .int y_14)] → W p l e ({ frames := 2, cells := 0, slots := 0, locals := 42 }) s m ([.ref M.o, .int p0, .int p1, .int p2, .long p3, .long p4, .long p5, .long p6, .ref M.a_list, .int p8] : List Value).toArray below meth c H locs 0 0 Q (F0 m 216 ls []) := by
    intro y_13 y_14 S H locs ls h hP hD hS hl
    rw [f_Mo_inode_list_216] at h
    refine lv_iload hx hb d_Mo_inode_216 (lv_at hl 2 rfl) ?_
    refine lv_sipush (v := 268) hx hb d_Mo_inode_218 (by decide) ?_
    refine lv_icmp_le (tgt := 340) hx hb d_Mo_inode_221 (by decide) (fun c_18 => ?_) (fun c_18 => ?_)
    · have h := lf_t h c_18
      rw [hQ]
      have e2 : S = S' := Option.some.inj h
      have hP := lx_newP e2.symm hP
      have hD := lx_newD e2.symm hD
      exact W.vret hx hb hr (fun t ht hW => ⟨⟨(), rfl, trivial, by rw [ht]; exact hP, va_K.moved hW.alike hK, hD⟩, hS.F ht⟩) hS.2.2 d_Mo_inode_340
    · have h := lf_f h c_18
      refine lv_aload_n hx hb d_Mo_inode_224 rfl (lv_at hl 0 rfl) ?_
      obtain ⟨r_19, S_19, hc_19, h⟩ := lf_cE h
      have hFc := lx_free hD hS hA
      refine va_calli (va_runV (As := []) (rest := []) ⟨hx, hb, hml, hown, hts⟩ (l_Mo_build l dC dI X _ hc_19) (cwV 0 hts (gwV good_Mq (u_Mq_Mo _ k_Mo_415) (u_Mq_Mo _ k_Mo_416) (u_Mq_Mo _ k_Mo_539) (u_Mq_Mo _ k_Mo_0) (wcs (u_Mq_Mo _ k_Mo_417) (fun _ h => h))) rfl rfl rfl (by decide +kernel) ⟨Nat.le_of_ble_eq_true rfl, Nat.le_of_ble_eq_true rfl⟩) (pv_ofE (X.same _) (fun U z1 z2 => X.mono _ _ U hFc (hEw _ _ hS U z1 z2)) hP hK hD (va_recv hK hP (ci := 12) (q0 := 0) rfl rfl)) rfl rfl hl.1 rfl (lv_room (Nat.le_of_ble_eq_true rfl)) d_Mo_inode_225 ⟨by decide, by decide⟩) hS (fun q _ h => hFc q h) hFc (fun r_ u t H locs ht hvm hw hB hz1 hk1 hS => ?_)
      rw [hw]
      obtain ⟨hP, -, hD⟩ := hB
      rw [ht] at hP
      have hD := lx_dj hD hFc
      refine lv_istore (lv' := [(15, .int r_19), (0, .ref M.o), (12, .ref M.a_list), (13, .int y_13), (14, .int y_14)]) hx hb d_Mo_inode_228 hl (by decide) rfl (fun ls hl => ?_)
      refine lv_aload_n hx hb d_Mo_inode_230 rfl (lv_at hl 1 rfl) ?_
      refine lv_iload hx hb d_Mo_inode_231 (lv_at hl 4 rfl) ?_
      refine lv_bipush (v := 92) hx hb d_Mo_inode_233 (by decide) ?_
      refine lv_iadd hx hb d_Mo_inode_235 ?_
      refine lv_iconst (v := 4) hx hb d_Mo_inode_236 (by decide) ?_
      refine lv_iload hx hb d_Mo_inode_237 (lv_at hl 0 rfl) ?_
      refine lv_i2l hx hb d_Mo_inode_239 rfl ?_
      obtain ⟨S_20, hc_20, h⟩ := lf_bE h
      have hFc := lx_free hD hS hA
      refine va_callv (va_runV (As := [.int (y_14 + 92), .int 4, .long r_19.toInt64]) (rest := []) ⟨hx, hb, hml, hown, hts⟩ (l_Mo_lay l dC dI X _ hc_20) (cwV 3 hts (gwV good_Mq (u_Mq_Mo _ k_Mo_418) (u_Mq_Mo _ k_Mo_419) (u_Mq_Mo _ k_Mo_538) (u_Mq_Mo _ k_Mo_0) (wcs (u_Mq_Mo _ k_Mo_420) (fun _ h => h))) rfl rfl rfl (by decide +kernel) ⟨Nat.le_of_ble_eq_true rfl, Nat.le_of_ble_eq_true rfl⟩) (pv_ofE (X.same _) (fun U z1 z2 => X.mono _ _ U hFc (hEw _ _ hS U z1 z2)) hP hK hD (va_recv hK hP (ci := 12) (q0 := 0) rfl rfl)) rfl rfl hl.1 rfl (lv_room (Nat.le_of_ble_eq_true rfl)) d_Mo_inode_240 ⟨by decide, by decide⟩) hS (fun q _ h => hFc q h) hFc (fun u t H locs ht hvm hw hB hz1 hk1 hS => ?_)
      obtain ⟨hP, -, hD⟩ := hB
      rw [ht] at hP
      have hD := lx_dj hD hFc
      refine lv_iconst (v := 0) hx hb d_Mo_inode_243 (by decide) ?_
      refine lv_istore (lv' := [(16, .int 0), (15, .int r_19), (0, .ref M.o), (12, .ref M.a_list), (13, .int y_13), (14, .int y_14)]) hx hb d_Mo_inode_244 hl (by decide) rfl (fun ls hl => ?_)
      refine lv_sipush (v := 268) hx hb d_Mo_inode_246 (by decide) ?_
      refine lv_istore (lv' := [(17, .int 268), (16, .int 0), (15, .int r_19), (0, .ref M.o), (12, .ref M.a_list), (13, .int y_13), (14, .int y_14)]) hx hb d_Mo_inode_249 hl (by decide) rfl (fun ls hl => ?_)
      exact hB_251 K y_13 r_19 0 268 S_20 _ _ _ h hP hD hS (lv_sub hl [3, 4, 5, 2, 1, 0] rfl)
  have hB_170 : ∀ (k : Nat), ∀ (y_13 : Int32) (y_14 : Int32) (y_15 : Int32) (y_16 : Int32) (S : MS) (H : Heap) (locs : List Loc) (ls : Array Slot), f_Mo_inode_list_170 K k y_13 y_14 y_15 y_16 S = some S' → va_P (dC, dI) classes (wM M S) H → va_D A (wM M S) → va_S A s.heap H locs → lv_has ls 18 [(0, .ref M.o), (12, .ref M.a_list), (13, .int y_13), (14, .int y_14), (15, .int y_15), (16, .int y_16)] → W p l e ({ frames := 2, cells := 0, slots := 0, locals := 42 }) s m ([.ref M.o, .int p0, .int p1, .int p2, .long p3, .long p4, .long p5, .long p6, .ref M.a_list, .int p8] : List Value).toArray below meth c H locs 0 0 Q (F0 m 170 ls []) := by
    intro k
    induction k with
    | zero => intro y_13 y_14 y_15 y_16 S H locs ls h; exact lf_no h
    | succ k hr_170 =>
      intro y_13 y_14 y_15 y_16 S H locs ls h hP hD hS hl
      rw [f_Mo_inode_list_170] at h
      refine lv_iload hx hb d_Mo_inode_170 (lv_at hl 5 rfl) ?_
      refine lv_iload hx hb d_Mo_inode_172 (lv_at hl 2 rfl) ?_
      refine lv_icmp_ge (tgt := 216) hx hb d_Mo_inode_174 (by decide) (fun c_21 => ?_) (fun c_21 => ?_)
      · have h := lf_t h c_21
        exact hB_216 y_13 y_14 S _ _ _ h hP hD hS (lv_sub hl [0, 1, 2, 3] rfl)
      · have h := lf_f h c_21
        refine lv_iload hx hb d_Mo_inode_177 (lv_at hl 5 rfl) ?_
        refine lv_sipush (v := 268) hx hb d_Mo_inode_179 (by decide) ?_
        refine lv_icmp_ge (tgt := 216) hx hb d_Mo_inode_182 (by decide) (fun c_22 => ?_) (fun c_22 => ?_)
        · have h := lf_t h c_22
          exact hB_216 y_13 y_14 S _ _ _ h hP hD hS (lv_sub hl [0, 1, 2, 3] rfl)
        · have h := lf_f h c_22
          refine lv_aload_n hx hb d_Mo_inode_185 rfl (lv_at hl 0 rfl) ?_
          refine lv_sipush (v := 1024) hx hb d_Mo_inode_186 (by decide) ?_
          refine lv_iload hx hb d_Mo_inode_189 (lv_at hl 4 rfl) ?_
          refine lv_imul hx hb d_Mo_inode_191 ?_
          refine lv_iconst (v := 4) hx hb d_Mo_inode_192 (by decide) ?_
          refine lv_iload hx hb d_Mo_inode_193 (lv_at hl 5 rfl) ?_
          refine lv_bipush (v := 12) hx hb d_Mo_inode_195 (by decide) ?_
          refine lv_isub hx hb d_Mo_inode_197 ?_
          refine lv_imul hx hb d_Mo_inode_198 ?_
          refine lv_iadd hx hb d_Mo_inode_199 ?_
          refine lv_iconst (v := 4) hx hb d_Mo_inode_200 (by decide) ?_
          refine lv_aload hx hb d_Mo_inode_201 (lv_at hl 1 rfl) ?_
          refine lv_iload hx hb d_Mo_inode_203 (lv_at hl 5 rfl) ?_
          obtain ⟨g_23, h⟩ := lf_gE h
          refine va_iald hx hb hK hP 27 26 rfl rfl g_23 d_Mo_inode_205 ?_
          refine lv_i2l hx hb d_Mo_inode_206 rfl ?_
          obtain ⟨S_24, hc_24, h⟩ := lf_bE h
          have hFc := lx_free hD hS hA
          refine va_callv (va_runV (As := [.int ((1024 * y_15) + (4 * (y_16 - 12))), .int 4, .long ((S.v_list y_16.toNatClampNeg).toInt64)]) (rest := []) ⟨hx, hb, hml, hown, hts⟩ (l_Mo_lay l dC dI X _ hc_24) (cwV 3 hts (gwV good_Mq (u_Mq_Mo _ k_Mo_418) (u_Mq_Mo _ k_Mo_419) (u_Mq_Mo _ k_Mo_538) (u_Mq_Mo _ k_Mo_0) (wcs (u_Mq_Mo _ k_Mo_420) (fun _ h => h))) rfl rfl rfl (by decide +kernel) ⟨Nat.le_of_ble_eq_true rfl, Nat.le_of_ble_eq_true rfl⟩) (pv_ofE (X.same _) (fun U z1 z2 => X.mono _ _ U hFc (hEw _ _ hS U z1 z2)) hP hK hD (va_recv hK hP (ci := 12) (q0 := 0) rfl rfl)) rfl rfl hl.1 rfl (lv_room (Nat.le_of_ble_eq_true rfl)) d_Mo_inode_207 ⟨by decide, by decide⟩) hS (fun q _ h => hFc q h) hFc (fun u t H locs ht hvm hw hB hz1 hk1 hS => ?_)
          obtain ⟨hP, -, hD⟩ := hB
          rw [ht] at hP
          have hD := lx_dj hD hFc
          obtain ⟨x_25, ex_25, h⟩ := lf_lX h
          refine lv_iinc (v := x_25) (lv' := [(16, .int x_25), (0, .ref M.o), (12, .ref M.a_list), (13, .int y_13), (14, .int y_14), (15, .int y_15)]) hx hb d_Mo_inode_210 hl (k := 5) rfl (by rw [ex_25]; rfl) (by decide) rfl (fun ls hl => ?_)
          refine lv_goto (tgt := 170) hx hb d_Mo_inode_213 (by decide) ?_
          exact hr_170 y_13 y_14 y_15 x_25 S_24 _ _ _ h hP hD hS (lv_sub hl [1, 2, 3, 4, 5, 0] rfl)
  have hB_140 : ∀ (y_13 : Int32) (y_14 : Int32) (S : MS) (H : Heap) (locs : List Loc) (ls : Array Slot), f_Mo_inode_list_140 K y_13 y_14 S = some S' → va_P (dC, dI) classes (wM M S) H → va_D A (wM M S) → va_S A s.heap H locs → lv_has ls 18 [(0, .ref M.o), (12, .ref M.a_list), (13, .int y_13), (14, .int y_14)] → W p l e ({ frames := 2, cells := 0, slots := 0, locals := 42 }) s m ([.ref M.o, .int p0, .int p1, .int p2, .long p3, .long p4, .long p5, .long p6, .ref M.a_list, .int p8] : List Value).toArray below meth c H locs 0 0 Q (F0 m 140 ls []) := by
    intro y_13 y_14 S H locs ls h hP hD hS hl
    rw [f_Mo_inode_list_140] at h
    refine lv_iload hx hb d_Mo_inode_140 (lv_at hl 2 rfl) ?_
    refine lv_bipush (v := 12) hx hb d_Mo_inode_142 (by decide) ?_
    refine lv_icmp_le (tgt := 216) hx hb d_Mo_inode_144 (by decide) (fun c_15 => ?_) (fun c_15 => ?_)
    · have h := lf_t h c_15
      exact hB_216 y_13 y_14 S _ _ _ h hP hD hS (lv_sub hl [0, 1, 2, 3] rfl)
    · have h := lf_f h c_15
      refine lv_aload_n hx hb d_Mo_inode_147 rfl (lv_at hl 0 rfl) ?_
      obtain ⟨r_16, S_16, hc_16, h⟩ := lf_cE h
      have hFc := lx_free hD hS hA
      refine va_calli (va_runV (As := []) (rest := []) ⟨hx, hb, hml, hown, hts⟩ (l_Mo_build l dC dI X _ hc_16) (cwV 0 hts (gwV good_Mq (u_Mq_Mo _ k_Mo_415) (u_Mq_Mo _ k_Mo_416) (u_Mq_Mo _ k_Mo_539) (u_Mq_Mo _ k_Mo_0) (wcs (u_Mq_Mo _ k_Mo_417) (fun _ h => h))) rfl rfl rfl (by decide +kernel) ⟨Nat.le_of_ble_eq_true rfl, Nat.le_of_ble_eq_true rfl⟩) (pv_ofE (X.same _) (fun U z1 z2 => X.mono _ _ U hFc (hEw _ _ hS U z1 z2)) hP hK hD (va_recv hK hP (ci := 12) (q0 := 0) rfl rfl)) rfl rfl hl.1 rfl (lv_room (Nat.le_of_ble_eq_true rfl)) d_Mo_inode_148 ⟨by decide, by decide⟩) hS (fun q _ h => hFc q h) hFc (fun r_ u t H locs ht hvm hw hB hz1 hk1 hS => ?_)
      rw [hw]
      obtain ⟨hP, -, hD⟩ := hB
      rw [ht] at hP
      have hD := lx_dj hD hFc
      refine lv_istore (lv' := [(15, .int r_16), (0, .ref M.o), (12, .ref M.a_list), (13, .int y_13), (14, .int y_14)]) hx hb d_Mo_inode_151 hl (by decide) rfl (fun ls hl => ?_)
      refine lv_aload_n hx hb d_Mo_inode_153 rfl (lv_at hl 1 rfl) ?_
      refine lv_iload hx hb d_Mo_inode_154 (lv_at hl 4 rfl) ?_
      refine lv_bipush (v := 88) hx hb d_Mo_inode_156 (by decide) ?_
      refine lv_iadd hx hb d_Mo_inode_158 ?_
      refine lv_iconst (v := 4) hx hb d_Mo_inode_159 (by decide) ?_
      refine lv_iload hx hb d_Mo_inode_160 (lv_at hl 0 rfl) ?_
      refine lv_i2l hx hb d_Mo_inode_162 rfl ?_
      obtain ⟨S_17, hc_17, h⟩ := lf_bE h
      have hFc := lx_free hD hS hA
      refine va_callv (va_runV (As := [.int (y_14 + 88), .int 4, .long r_16.toInt64]) (rest := []) ⟨hx, hb, hml, hown, hts⟩ (l_Mo_lay l dC dI X _ hc_17) (cwV 3 hts (gwV good_Mq (u_Mq_Mo _ k_Mo_418) (u_Mq_Mo _ k_Mo_419) (u_Mq_Mo _ k_Mo_538) (u_Mq_Mo _ k_Mo_0) (wcs (u_Mq_Mo _ k_Mo_420) (fun _ h => h))) rfl rfl rfl (by decide +kernel) ⟨Nat.le_of_ble_eq_true rfl, Nat.le_of_ble_eq_true rfl⟩) (pv_ofE (X.same _) (fun U z1 z2 => X.mono _ _ U hFc (hEw _ _ hS U z1 z2)) hP hK hD (va_recv hK hP (ci := 12) (q0 := 0) rfl rfl)) rfl rfl hl.1 rfl (lv_room (Nat.le_of_ble_eq_true rfl)) d_Mo_inode_163 ⟨by decide, by decide⟩) hS (fun q _ h => hFc q h) hFc (fun u t H locs ht hvm hw hB hz1 hk1 hS => ?_)
      obtain ⟨hP, -, hD⟩ := hB
      rw [ht] at hP
      have hD := lx_dj hD hFc
      refine lv_bipush (v := 12) hx hb d_Mo_inode_166 (by decide) ?_
      refine lv_istore (lv' := [(16, .int 12), (15, .int r_16), (0, .ref M.o), (12, .ref M.a_list), (13, .int y_13), (14, .int y_14)]) hx hb d_Mo_inode_168 hl (by decide) rfl (fun ls hl => ?_)
      exact hB_170 K y_13 y_14 r_16 12 S_17 _ _ _ h hP hD hS (lv_sub hl [2, 3, 4, 5, 1, 0] rfl)
  have hB_99 : ∀ (k : Nat), ∀ (y_13 : Int32) (y_14 : Int32) (y_15 : Int32) (S : MS) (H : Heap) (locs : List Loc) (ls : Array Slot), f_Mo_inode_list_99 K k y_13 y_14 y_15 S = some S' → va_P (dC, dI) classes (wM M S) H → va_D A (wM M S) → va_S A s.heap H locs → lv_has ls 18 [(0, .ref M.o), (12, .ref M.a_list), (13, .int y_13), (14, .int y_14), (15, .int y_15)] → W p l e ({ frames := 2, cells := 0, slots := 0, locals := 42 }) s m ([.ref M.o, .int p0, .int p1, .int p2, .long p3, .long p4, .long p5, .long p6, .ref M.a_list, .int p8] : List Value).toArray below meth c H locs 0 0 Q (F0 m 99 ls []) := by
    intro k
    induction k with
    | zero => intro y_13 y_14 y_15 S H locs ls h; exact lf_no h
    | succ k hr_99 =>
      intro y_13 y_14 y_15 S H locs ls h hP hD hS hl
      rw [f_Mo_inode_list_99] at h
      refine lv_iload hx hb d_Mo_inode_99 (lv_at hl 4 rfl) ?_
      refine lv_iload hx hb d_Mo_inode_101 (lv_at hl 2 rfl) ?_
      refine lv_icmp_ge (tgt := 140) hx hb d_Mo_inode_103 (by decide) (fun c_10 => ?_) (fun c_10 => ?_)
      · have h := lf_t h c_10
        exact hB_140 y_13 y_14 S _ _ _ h hP hD hS (lv_sub hl [0, 1, 2, 3] rfl)
      · have h := lf_f h c_10
        refine lv_iload hx hb d_Mo_inode_106 (lv_at hl 4 rfl) ?_
        refine lv_bipush (v := 12) hx hb d_Mo_inode_108 (by decide) ?_
        refine lv_icmp_ge (tgt := 140) hx hb d_Mo_inode_110 (by decide) (fun c_11 => ?_) (fun c_11 => ?_)
        · have h := lf_t h c_11
          exact hB_140 y_13 y_14 S _ _ _ h hP hD hS (lv_sub hl [0, 1, 2, 3] rfl)
        · have h := lf_f h c_11
          refine lv_aload_n hx hb d_Mo_inode_113 rfl (lv_at hl 0 rfl) ?_
          refine lv_iload hx hb d_Mo_inode_114 (lv_at hl 3 rfl) ?_
          refine lv_bipush (v := 40) hx hb d_Mo_inode_116 (by decide) ?_
          refine lv_iadd hx hb d_Mo_inode_118 ?_
          refine lv_iconst (v := 4) hx hb d_Mo_inode_119 (by decide) ?_
          refine lv_iload hx hb d_Mo_inode_120 (lv_at hl 4 rfl) ?_
          refine lv_imul hx hb d_Mo_inode_122 ?_
          refine lv_iadd hx hb d_Mo_inode_123 ?_
          refine lv_iconst (v := 4) hx hb d_Mo_inode_124 (by decide) ?_
          refine lv_aload hx hb d_Mo_inode_125 (lv_at hl 1 rfl) ?_
          refine lv_iload hx hb d_Mo_inode_127 (lv_at hl 4 rfl) ?_
          obtain ⟨g_12, h⟩ := lf_gE h
          refine va_iald hx hb hK hP 27 26 rfl rfl g_12 d_Mo_inode_129 ?_
          refine lv_i2l hx hb d_Mo_inode_130 rfl ?_
          obtain ⟨S_13, hc_13, h⟩ := lf_bE h
          have hFc := lx_free hD hS hA
          refine va_callv (va_runV (As := [.int ((y_14 + 40) + (4 * y_15)), .int 4, .long ((S.v_list y_15.toNatClampNeg).toInt64)]) (rest := []) ⟨hx, hb, hml, hown, hts⟩ (l_Mo_lay l dC dI X _ hc_13) (cwV 3 hts (gwV good_Mq (u_Mq_Mo _ k_Mo_418) (u_Mq_Mo _ k_Mo_419) (u_Mq_Mo _ k_Mo_538) (u_Mq_Mo _ k_Mo_0) (wcs (u_Mq_Mo _ k_Mo_420) (fun _ h => h))) rfl rfl rfl (by decide +kernel) ⟨Nat.le_of_ble_eq_true rfl, Nat.le_of_ble_eq_true rfl⟩) (pv_ofE (X.same _) (fun U z1 z2 => X.mono _ _ U hFc (hEw _ _ hS U z1 z2)) hP hK hD (va_recv hK hP (ci := 12) (q0 := 0) rfl rfl)) rfl rfl hl.1 rfl (lv_room (Nat.le_of_ble_eq_true rfl)) d_Mo_inode_131 ⟨by decide, by decide⟩) hS (fun q _ h => hFc q h) hFc (fun u t H locs ht hvm hw hB hz1 hk1 hS => ?_)
          obtain ⟨hP, -, hD⟩ := hB
          rw [ht] at hP
          have hD := lx_dj hD hFc
          obtain ⟨x_14, ex_14, h⟩ := lf_lX h
          refine lv_iinc (v := x_14) (lv' := [(15, .int x_14), (0, .ref M.o), (12, .ref M.a_list), (13, .int y_13), (14, .int y_14)]) hx hb d_Mo_inode_134 hl (k := 4) rfl (by rw [ex_14]; rfl) (by decide) rfl (fun ls hl => ?_)
          refine lv_goto (tgt := 99) hx hb d_Mo_inode_137 (by decide) ?_
          exact hr_99 y_13 y_14 x_14 S_13 _ _ _ h hP hD hS (lv_sub hl [1, 2, 3, 4, 0] rfl)
  rw [f_Mo_inode_list] at h
  refine lv_aload_n hx hb d_Mo_inode_0 rfl (lv_at hl 0 rfl) ?_
  refine lv_iload_n hx hb d_Mo_inode_1 rfl (lv_at hl 1 rfl) ?_
  obtain ⟨r_1, S_1, hc_1, h⟩ := lf_cE h
  have hFc := lx_free hD hS hA
  refine va_calli (va_runV (As := [.int p0]) (rest := []) ⟨hx, hb, hml, hown, hts⟩ (l_Mo_inodeAt l dC dI X _ hc_1) (cwV 1 hts (gwV good_Mq (u_Mq_Mo _ k_Mo_431) (u_Mq_Mo _ k_Mo_432) (u_Mq_Mo _ k_Mo_540) (u_Mq_Mo _ k_Mo_0) (wcs (u_Mq_Mo _ k_Mo_433) (fun _ h => h))) rfl rfl rfl (by decide +kernel) ⟨Nat.le_of_ble_eq_true rfl, Nat.le_of_ble_eq_true rfl⟩) (pv_ofE (X.same _) (fun U z1 z2 => X.mono _ _ U hFc (hEw _ _ hS U z1 z2)) hP hK hD (va_recv hK hP (ci := 12) (q0 := 0) rfl rfl)) rfl rfl hl.1 rfl (lv_room (Nat.le_of_ble_eq_true rfl)) d_Mo_inode_2 ⟨by decide, by decide⟩) hS (fun q _ h => hFc q h) hFc (fun r_ u t H locs ht hvm hw hB hz1 hk1 hS => ?_)
  rw [hw]
  obtain ⟨hP, -, hD⟩ := hB
  rw [ht] at hP
  have hD := lx_dj hD hFc
  refine lv_istore (lv' := [(14, .int r_1), (0, .ref M.o), (1, .int p0), (2, .int p1), (3, .int p2), (4, .long p3), (6, .long p4), (8, .long p5), (10, .long p6), (12, .ref M.a_list), (13, .int p8)]) hx hb d_Mo_inode_5 hl (by decide) rfl (fun ls hl => ?_)
  refine lv_aload_n hx hb d_Mo_inode_7 rfl (lv_at hl 1 rfl) ?_
  refine lv_iload hx hb d_Mo_inode_8 (lv_at hl 0 rfl) ?_
  refine lv_iconst (v := 2) hx hb d_Mo_inode_10 (by decide) ?_
  refine lv_iload_n hx hb d_Mo_inode_11 rfl (lv_at hl 3 rfl) ?_
  refine lv_i2l hx hb d_Mo_inode_12 rfl ?_
  obtain ⟨S_2, hc_2, h⟩ := lf_bE h
  have hFc := lx_free hD hS hA
  refine va_callv (va_runV (As := [.int r_1, .int 2, .long p1.toInt64]) (rest := []) ⟨hx, hb, hml, hown, hts⟩ (l_Mo_lay l dC dI X _ hc_2) (cwV 3 hts (gwV good_Mq (u_Mq_Mo _ k_Mo_418) (u_Mq_Mo _ k_Mo_419) (u_Mq_Mo _ k_Mo_538) (u_Mq_Mo _ k_Mo_0) (wcs (u_Mq_Mo _ k_Mo_420) (fun _ h => h))) rfl rfl rfl (by decide +kernel) ⟨Nat.le_of_ble_eq_true rfl, Nat.le_of_ble_eq_true rfl⟩) (pv_ofE (X.same _) (fun U z1 z2 => X.mono _ _ U hFc (hEw _ _ hS U z1 z2)) hP hK hD (va_recv hK hP (ci := 12) (q0 := 0) rfl rfl)) rfl rfl hl.1 rfl (lv_room (Nat.le_of_ble_eq_true rfl)) d_Mo_inode_13 ⟨by decide, by decide⟩) hS (fun q _ h => hFc q h) hFc (fun u t H locs ht hvm hw hB hz1 hk1 hS => ?_)
  obtain ⟨hP, -, hD⟩ := hB
  rw [ht] at hP
  have hD := lx_dj hD hFc
  refine lv_aload_n hx hb d_Mo_inode_16 rfl (lv_at hl 1 rfl) ?_
  refine lv_iload hx hb d_Mo_inode_17 (lv_at hl 0 rfl) ?_
  refine lv_iconst (v := 4) hx hb d_Mo_inode_19 (by decide) ?_
  refine lv_iadd hx hb d_Mo_inode_20 ?_
  refine lv_iconst (v := 4) hx hb d_Mo_inode_21 (by decide) ?_
  refine lv_lload hx hb d_Mo_inode_22 (lv_at hl 8 rfl) ?_
  obtain ⟨S_3, hc_3, h⟩ := lf_bE h
  have hFc := lx_free hD hS hA
  refine va_callv (va_runV (As := [.int (r_1 + 4), .int 4, .long p6]) (rest := []) ⟨hx, hb, hml, hown, hts⟩ (l_Mo_lay l dC dI X _ hc_3) (cwV 3 hts (gwV good_Mq (u_Mq_Mo _ k_Mo_418) (u_Mq_Mo _ k_Mo_419) (u_Mq_Mo _ k_Mo_538) (u_Mq_Mo _ k_Mo_0) (wcs (u_Mq_Mo _ k_Mo_420) (fun _ h => h))) rfl rfl rfl (by decide +kernel) ⟨Nat.le_of_ble_eq_true rfl, Nat.le_of_ble_eq_true rfl⟩) (pv_ofE (X.same _) (fun U z1 z2 => X.mono _ _ U hFc (hEw _ _ hS U z1 z2)) hP hK hD (va_recv hK hP (ci := 12) (q0 := 0) rfl rfl)) rfl rfl hl.1 rfl (lv_room (Nat.le_of_ble_eq_true rfl)) d_Mo_inode_24 ⟨by decide, by decide⟩) hS (fun q _ h => hFc q h) hFc (fun u t H locs ht hvm hw hB hz1 hk1 hS => ?_)
  obtain ⟨hP, -, hD⟩ := hB
  rw [ht] at hP
  have hD := lx_dj hD hFc
  refine lv_aload_n hx hb d_Mo_inode_27 rfl (lv_at hl 1 rfl) ?_
  refine lv_iload hx hb d_Mo_inode_28 (lv_at hl 0 rfl) ?_
  refine lv_bipush (v := 8) hx hb d_Mo_inode_30 (by decide) ?_
  refine lv_iadd hx hb d_Mo_inode_32 ?_
  refine lv_iconst (v := 4) hx hb d_Mo_inode_33 (by decide) ?_
  refine lv_lload hx hb d_Mo_inode_34 (lv_at hl 5 rfl) ?_
  obtain ⟨S_4, hc_4, h⟩ := lf_bE h
  have hFc := lx_free hD hS hA
  refine va_callv (va_runV (As := [.int (r_1 + 8), .int 4, .long p3]) (rest := []) ⟨hx, hb, hml, hown, hts⟩ (l_Mo_lay l dC dI X _ hc_4) (cwV 3 hts (gwV good_Mq (u_Mq_Mo _ k_Mo_418) (u_Mq_Mo _ k_Mo_419) (u_Mq_Mo _ k_Mo_538) (u_Mq_Mo _ k_Mo_0) (wcs (u_Mq_Mo _ k_Mo_420) (fun _ h => h))) rfl rfl rfl (by decide +kernel) ⟨Nat.le_of_ble_eq_true rfl, Nat.le_of_ble_eq_true rfl⟩) (pv_ofE (X.same _) (fun U z1 z2 => X.mono _ _ U hFc (hEw _ _ hS U z1 z2)) hP hK hD (va_recv hK hP (ci := 12) (q0 := 0) rfl rfl)) rfl rfl hl.1 rfl (lv_room (Nat.le_of_ble_eq_true rfl)) d_Mo_inode_36 ⟨by decide, by decide⟩) hS (fun q _ h => hFc q h) hFc (fun u t H locs ht hvm hw hB hz1 hk1 hS => ?_)
  obtain ⟨hP, -, hD⟩ := hB
  rw [ht] at hP
  have hD := lx_dj hD hFc
  refine lv_aload_n hx hb d_Mo_inode_39 rfl (lv_at hl 1 rfl) ?_
  refine lv_iload hx hb d_Mo_inode_40 (lv_at hl 0 rfl) ?_
  refine lv_bipush (v := 12) hx hb d_Mo_inode_42 (by decide) ?_
  refine lv_iadd hx hb d_Mo_inode_44 ?_
  refine lv_iconst (v := 4) hx hb d_Mo_inode_45 (by decide) ?_
  refine lv_lload hx hb d_Mo_inode_46 (lv_at hl 6 rfl) ?_
  obtain ⟨S_5, hc_5, h⟩ := lf_bE h
  have hFc := lx_free hD hS hA
  refine va_callv (va_runV (As := [.int (r_1 + 12), .int 4, .long p4]) (rest := []) ⟨hx, hb, hml, hown, hts⟩ (l_Mo_lay l dC dI X _ hc_5) (cwV 3 hts (gwV good_Mq (u_Mq_Mo _ k_Mo_418) (u_Mq_Mo _ k_Mo_419) (u_Mq_Mo _ k_Mo_538) (u_Mq_Mo _ k_Mo_0) (wcs (u_Mq_Mo _ k_Mo_420) (fun _ h => h))) rfl rfl rfl (by decide +kernel) ⟨Nat.le_of_ble_eq_true rfl, Nat.le_of_ble_eq_true rfl⟩) (pv_ofE (X.same _) (fun U z1 z2 => X.mono _ _ U hFc (hEw _ _ hS U z1 z2)) hP hK hD (va_recv hK hP (ci := 12) (q0 := 0) rfl rfl)) rfl rfl hl.1 rfl (lv_room (Nat.le_of_ble_eq_true rfl)) d_Mo_inode_48 ⟨by decide, by decide⟩) hS (fun q _ h => hFc q h) hFc (fun u t H locs ht hvm hw hB hz1 hk1 hS => ?_)
  obtain ⟨hP, -, hD⟩ := hB
  rw [ht] at hP
  have hD := lx_dj hD hFc
  refine lv_aload_n hx hb d_Mo_inode_51 rfl (lv_at hl 1 rfl) ?_
  refine lv_iload hx hb d_Mo_inode_52 (lv_at hl 0 rfl) ?_
  refine lv_bipush (v := 16) hx hb d_Mo_inode_54 (by decide) ?_
  refine lv_iadd hx hb d_Mo_inode_56 ?_
  refine lv_iconst (v := 4) hx hb d_Mo_inode_57 (by decide) ?_
  refine lv_lload hx hb d_Mo_inode_58 (lv_at hl 7 rfl) ?_
  obtain ⟨S_6, hc_6, h⟩ := lf_bE h
  have hFc := lx_free hD hS hA
  refine va_callv (va_runV (As := [.int (r_1 + 16), .int 4, .long p5]) (rest := []) ⟨hx, hb, hml, hown, hts⟩ (l_Mo_lay l dC dI X _ hc_6) (cwV 3 hts (gwV good_Mq (u_Mq_Mo _ k_Mo_418) (u_Mq_Mo _ k_Mo_419) (u_Mq_Mo _ k_Mo_538) (u_Mq_Mo _ k_Mo_0) (wcs (u_Mq_Mo _ k_Mo_420) (fun _ h => h))) rfl rfl rfl (by decide +kernel) ⟨Nat.le_of_ble_eq_true rfl, Nat.le_of_ble_eq_true rfl⟩) (pv_ofE (X.same _) (fun U z1 z2 => X.mono _ _ U hFc (hEw _ _ hS U z1 z2)) hP hK hD (va_recv hK hP (ci := 12) (q0 := 0) rfl rfl)) rfl rfl hl.1 rfl (lv_room (Nat.le_of_ble_eq_true rfl)) d_Mo_inode_60 ⟨by decide, by decide⟩) hS (fun q _ h => hFc q h) hFc (fun u t H locs ht hvm hw hB hz1 hk1 hS => ?_)
  obtain ⟨hP, -, hD⟩ := hB
  rw [ht] at hP
  have hD := lx_dj hD hFc
  refine lv_aload_n hx hb d_Mo_inode_63 rfl (lv_at hl 1 rfl) ?_
  refine lv_iload hx hb d_Mo_inode_64 (lv_at hl 0 rfl) ?_
  refine lv_bipush (v := 26) hx hb d_Mo_inode_66 (by decide) ?_
  refine lv_iadd hx hb d_Mo_inode_68 ?_
  refine lv_iconst (v := 2) hx hb d_Mo_inode_69 (by decide) ?_
  refine lv_iload_n hx hb d_Mo_inode_70 rfl (lv_at hl 4 rfl) ?_
  refine lv_i2l hx hb d_Mo_inode_71 rfl ?_
  obtain ⟨S_7, hc_7, h⟩ := lf_bE h
  have hFc := lx_free hD hS hA
  refine va_callv (va_runV (As := [.int (r_1 + 26), .int 2, .long p2.toInt64]) (rest := []) ⟨hx, hb, hml, hown, hts⟩ (l_Mo_lay l dC dI X _ hc_7) (cwV 3 hts (gwV good_Mq (u_Mq_Mo _ k_Mo_418) (u_Mq_Mo _ k_Mo_419) (u_Mq_Mo _ k_Mo_538) (u_Mq_Mo _ k_Mo_0) (wcs (u_Mq_Mo _ k_Mo_420) (fun _ h => h))) rfl rfl rfl (by decide +kernel) ⟨Nat.le_of_ble_eq_true rfl, Nat.le_of_ble_eq_true rfl⟩) (pv_ofE (X.same _) (fun U z1 z2 => X.mono _ _ U hFc (hEw _ _ hS U z1 z2)) hP hK hD (va_recv hK hP (ci := 12) (q0 := 0) rfl rfl)) rfl rfl hl.1 rfl (lv_room (Nat.le_of_ble_eq_true rfl)) d_Mo_inode_72 ⟨by decide, by decide⟩) hS (fun q _ h => hFc q h) hFc (fun u t H locs ht hvm hw hB hz1 hk1 hS => ?_)
  obtain ⟨hP, -, hD⟩ := hB
  rw [ht] at hP
  have hD := lx_dj hD hFc
  refine lv_aload_n hx hb d_Mo_inode_75 rfl (lv_at hl 1 rfl) ?_
  refine lv_iload hx hb d_Mo_inode_76 (lv_at hl 0 rfl) ?_
  refine lv_bipush (v := 28) hx hb d_Mo_inode_78 (by decide) ?_
  refine lv_iadd hx hb d_Mo_inode_80 ?_
  refine lv_iconst (v := 4) hx hb d_Mo_inode_81 (by decide) ?_
  refine lv_iconst (v := 2) hx hb d_Mo_inode_82 (by decide) ?_
  refine lv_iload hx hb d_Mo_inode_83 (lv_at hl 10 rfl) ?_
  refine lv_iload hx hb d_Mo_inode_85 (lv_at hl 10 rfl) ?_
  obtain ⟨r_8, hc_8, h⟩ := lf_bE h
  have hFc := lx_free0 hS hA
  refine va_calli (va_runS (As := [.int p8]) (rest := [.int p8, .int 2, .int 4, .int (r_1 + 28), .ref M.o]) ⟨hx, hb, hml, hown, hts⟩ (l_Mo_indirect l dC dI  _ hc_8) (va_cwS 1 hts (gwS good_Mq (u_Mq_Mo _ k_Mo_394) (u_Mq_Mo _ k_Mo_395) (u_Mq_Mo _ k_Mo_0) (wcs (u_Mq_Mo _ k_Mo_396) (fun _ h => h))) rfl rfl rfl (by decide +kernel) ⟨Nat.le_of_ble_eq_true rfl, Nat.le_of_ble_eq_true rfl⟩) (ps_of (W := []) (tys := []) (hP.sub (ws' := []) [] rfl) (hK.sub [] rfl) (hD.sub (ws' := []) [] (by decide) rfl)) rfl rfl hl.1 rfl (lv_room (Nat.le_of_ble_eq_true rfl)) d_Mo_inode_87 ⟨by decide, by decide⟩) hS (fun q _ h => hFc q h) hFc (fun r_ u t H locs ht hvm hw hB hz1 hk1 hS => ?_)
  rw [hw]
  have hP := lx_stat (A := A) hP hk1
  refine lv_iadd hx hb d_Mo_inode_90 ?_
  refine lv_imul hx hb d_Mo_inode_91 ?_
  refine lv_i2l hx hb d_Mo_inode_92 rfl ?_
  obtain ⟨S_9, hc_9, h⟩ := lf_bE h
  have hFc := lx_free hD hS hA
  refine va_callv (va_runV (As := [.int (r_1 + 28), .int 4, .long ((2 * (p8 + r_8)).toInt64)]) (rest := []) ⟨hx, hb, hml, hown, hts⟩ (l_Mo_lay l dC dI X _ hc_9) (cwV 3 hts (gwV good_Mq (u_Mq_Mo _ k_Mo_418) (u_Mq_Mo _ k_Mo_419) (u_Mq_Mo _ k_Mo_538) (u_Mq_Mo _ k_Mo_0) (wcs (u_Mq_Mo _ k_Mo_420) (fun _ h => h))) rfl rfl rfl (by decide +kernel) ⟨Nat.le_of_ble_eq_true rfl, Nat.le_of_ble_eq_true rfl⟩) (pv_ofE (X.same _) (fun U z1 z2 => X.mono _ _ U hFc (hEw _ _ hS U z1 z2)) hP hK hD (va_recv hK hP (ci := 12) (q0 := 0) rfl rfl)) rfl rfl hl.1 rfl (lv_room (Nat.le_of_ble_eq_true rfl)) d_Mo_inode_93 ⟨by decide, by decide⟩) hS (fun q _ h => hFc q h) hFc (fun u t H locs ht hvm hw hB hz1 hk1 hS => ?_)
  obtain ⟨hP, -, hD⟩ := hB
  rw [ht] at hP
  have hD := lx_dj hD hFc
  refine lv_iconst (v := 0) hx hb d_Mo_inode_96 (by decide) ?_
  refine lv_istore (lv' := [(15, .int 0), (14, .int r_1), (0, .ref M.o), (1, .int p0), (2, .int p1), (3, .int p2), (4, .long p3), (6, .long p4), (8, .long p5), (10, .long p6), (12, .ref M.a_list), (13, .int p8)]) hx hb d_Mo_inode_97 hl (by decide) rfl (fun ls hl => ?_)
  exact hB_99 K p8 r_1 0 S_9 _ _ _ h hP hD hS (lv_sub hl [2, 10, 11, 1, 0] rfl)
set_option maxHeartbeats 4000000 in
set_option maxRecDepth 100000 in
theorem l_Mo_numberOf (l : Launch) (dC : Nat → ClassId) (dI : Nat → Nat → Nat) {K : Nat} {M : MA} {E : (Nat → Prop) → State → Prop} (X : lx_X l dC dI K M E) (sz : Nat) {S S' : MS} {p0 : Int32} {r : Int32} (h : f_Mo_numberOf K S p0 = some (r, S')) : Met l y_Mo_numberOf (.code y_Mo_numberOf b_Mo_numberOf 2 (some .int) :: V_Mq) ({ frames := 0, cells := 0, slots := 0, locals := 0 }) (va_Pc [.ref M.o, .int p0] (fun U => U.heap.size = sz ∧ at_ (dC, dI) (fun _ => True) (wM M S) (tM M) U ∧ E (va_A (wM M S) sz) U)) (va_Qi (fun (r_ : Int32) (u : Unit) => r_ = r) (fun (u : Unit) t => at_ (dC, dI) (va_A (wM M S) sz) (wM M S') (tM M) t) (va_A (wM M S) sz)) 0 0 (va_A (wM M S) sz) := by
  refine Met.ofW (cc := b_Mo_numberOf) (maxL := 2) (ret := (some .int)) (by decide) rfl ?_
  intro p e s m args below meth c s₁ B hml hv
  obtain ⟨rfl, hsz, ⟨hP, hK, hD0⟩, hE⟩ := hv
  have hx := B.exec
  have hb := B.bytes
  have hr := B.returns
  have hts0 := atoms_spec (ws := .code y_Mo_numberOf b_Mo_numberOf 2 (some .int) :: V_Mq) B.pre
  have hts : ∀ w ∈ V_Mq, w.before ([.ref M.o, .int p0] : List Value).toArray s = true := fun w h => hts0 w (List.mem_cons_of_mem _ h)
  have hown : s.vm.findClass R_Mo = some m.cls := findClass_of_methodNamed B.named
  subst hsz
  have hD := hD0.self (sz := s.heap.size)
  generalize hAe : va_A (wM M S) s.heap.size = A at hD hE ⊢
  have hA : ∀ q : Nat, s.heap.size ≤ q → A q := fun q h => by rw [← hAe]; exact Or.inr h
  have hS : va_S A s.heap s.heap [] := va_S.rf
  have hP : va_P (dC, dI) classes (wM M S) s.heap := hP
  have hK : va_K (dC, dI) classes (tM M) s := hK
  have hEw : ∀ (H : Heap) (locs : List Loc), va_S A s.heap H locs → ∀ U : State, U.heap = H → s.WarmedH U.vm → E A U := fun H locs hS U hU hW => X.kept A s U H locs hE hS hU hW
  have hl := lv_entry ([.ref M.o, .int p0]) (n := 2) (Nat.le_of_ble_eq_true rfl)
  rw [lg_entry_eq]
  generalize (lg_sl ([.ref M.o, .int p0]) ++ List.replicate (2 - (lg_sl ([.ref M.o, .int p0])).length) Slot.unset).toArray = ls at hl ⊢
  have hl : lv_has ls 2 [(0, .ref M.o), (1, .int p0)] := hl
  refine qabs (fun Q hQ => ?_)
  rw [f_Mo_numberOf] at h
  refine lv_iload_n hx hb d_Mo_numberOf_0 rfl (lv_at hl 1 rfl) ?_
  refine lv_if_ne (tgt := 8) hx hb d_Mo_numberOf_1 (by decide) (fun c_1 => ?_) (fun c_1 => ?_)
  · have h := lf_f h c_1
    refine lv_bipush (v := 11) hx hb d_Mo_numberOf_8 (by decide) ?_
    refine lv_iload_n hx hb d_Mo_numberOf_10 rfl (lv_at hl 1 rfl) ?_
    refine lv_iadd hx hb d_Mo_numberOf_11 ?_
    rw [hQ]
    have e1 : (11 + p0) = r := congrArg Prod.fst (Option.some.inj h)
    have e2 : S = S' := congrArg Prod.snd (Option.some.inj h)
    have hP := lx_newP e2.symm hP
    have hD := lx_newD e2.symm hD
    exact W.iret (v := (11 + p0)) hx hb hr (fun t ht hW => ⟨⟨(11 + p0), (), rfl, e1, by rw [ht]; exact hP, va_K.moved hW.alike hK, hD⟩, hS.F ht⟩) hS.2.2 d_Mo_numberOf_12
  · have h := lf_t h c_1
    refine lv_iconst (v := 2) hx hb d_Mo_numberOf_4 (by decide) ?_
    refine lv_goto (tgt := 12) hx hb d_Mo_numberOf_5 (by decide) ?_
    rw [hQ]
    have e1 : (2 : Int32) = r := congrArg Prod.fst (Option.some.inj h)
    have e2 : S = S' := congrArg Prod.snd (Option.some.inj h)
    have hP := lx_newP e2.symm hP
    have hD := lx_newD e2.symm hD
    exact W.iret (v := 2) hx hb hr (fun t ht hW => ⟨⟨2, (), rfl, e1, by rw [ht]; exact hP, va_K.moved hW.alike hK, hD⟩, hS.F ht⟩) hS.2.2 d_Mo_numberOf_12
set_option maxHeartbeats 4000000 in
set_option maxRecDepth 100000 in
theorem l_Mo_mode (l : Launch) (dC : Nat → ClassId) (dI : Nat → Nat → Nat) {K : Nat} {M : MA} {E : (Nat → Prop) → State → Prop} (X : lx_X l dC dI K M E) (sz : Nat) {S S' : MS} {p0 : Int32} {r : Int32} (h : f_Mo_mode K S p0 = some (r, S')) : Met l y_Mo_mode (.code y_Mo_mode b_Mo_mode 2 (some .int) :: V_Mq) ({ frames := 2, cells := 0, slots := 0, locals := 42 }) (va_Pc [.ref M.o, .int p0] (fun U => U.heap.size = sz ∧ at_ (dC, dI) (fun _ => True) (wM M S) (tM M) U ∧ E (va_A (wM M S) sz) U)) (va_Qi (fun (r_ : Int32) (u : Unit) => r_ = r) (fun (u : Unit) t => at_ (dC, dI) (va_A (wM M S) sz) (wM M S') (tM M) t) (va_A (wM M S) sz)) 0 0 (va_A (wM M S) sz) := by
  refine Met.ofW (cc := b_Mo_mode) (maxL := 2) (ret := (some .int)) (by decide) rfl ?_
  intro p e s m args below meth c s₁ B hml hv
  obtain ⟨rfl, hsz, ⟨hP, hK, hD0⟩, hE⟩ := hv
  have hx := B.exec
  have hb := B.bytes
  have hr := B.returns
  have hts0 := atoms_spec (ws := .code y_Mo_mode b_Mo_mode 2 (some .int) :: V_Mq) B.pre
  have hts : ∀ w ∈ V_Mq, w.before ([.ref M.o, .int p0] : List Value).toArray s = true := fun w h => hts0 w (List.mem_cons_of_mem _ h)
  have hown : s.vm.findClass R_Mo = some m.cls := findClass_of_methodNamed B.named
  subst hsz
  have hD := hD0.self (sz := s.heap.size)
  generalize hAe : va_A (wM M S) s.heap.size = A at hD hE ⊢
  have hA : ∀ q : Nat, s.heap.size ≤ q → A q := fun q h => by rw [← hAe]; exact Or.inr h
  have hS : va_S A s.heap s.heap [] := va_S.rf
  have hP : va_P (dC, dI) classes (wM M S) s.heap := hP
  have hK : va_K (dC, dI) classes (tM M) s := hK
  have hEw : ∀ (H : Heap) (locs : List Loc), va_S A s.heap H locs → ∀ U : State, U.heap = H → s.WarmedH U.vm → E A U := fun H locs hS U hU hW => X.kept A s U H locs hE hS hU hW
  have hl := lv_entry ([.ref M.o, .int p0]) (n := 2) (Nat.le_of_ble_eq_true rfl)
  rw [lg_entry_eq]
  generalize (lg_sl ([.ref M.o, .int p0]) ++ List.replicate (2 - (lg_sl ([.ref M.o, .int p0])).length) Slot.unset).toArray = ls at hl ⊢
  have hl : lv_has ls 2 [(0, .ref M.o), (1, .int p0)] := hl
  refine qabs (fun Q hQ => ?_)
  have hB_47 : ∀ (z_0 : Int32) (z_1 : Int32) (S : MS) (H : Heap) (locs : List Loc) (ls : Array Slot), f_Mo_mode_47 K z_0 z_1 S = some (r, S') → va_P (dC, dI) classes (wM M S) H → va_D A (wM M S) → va_S A s.heap H locs → lv_has ls 2 [] → W p l e ({ frames := 2, cells := 0, slots := 0, locals := 42 }) s m ([.ref M.o, .int p0] : List Value).toArray below meth c H locs 0 0 Q (F0 m 47 ls [.int z_1, .int z_0]) := by
    intro z_0 z_1 S H locs ls h hP hD hS hl
    rw [f_Mo_mode_47] at h
    refine lv_isub hx hb d_Mo_mode_47 ?_
    rw [hQ]
    have e1 : (z_0 - z_1) = r := congrArg Prod.fst (Option.some.inj h)
    have e2 : S = S' := congrArg Prod.snd (Option.some.inj h)
    have hP := lx_newP e2.symm hP
    have hD := lx_newD e2.symm hD
    exact W.iret (v := (z_0 - z_1)) hx hb hr (fun t ht hW => ⟨⟨(z_0 - z_1), (), rfl, e1, by rw [ht]; exact hP, va_K.moved hW.alike hK, hD⟩, hS.F ht⟩) hS.2.2 d_Mo_mode_48
  have hB_46 : ∀ (z_0 : Int32) (S : MS) (H : Heap) (locs : List Loc) (ls : Array Slot), f_Mo_mode_46 K z_0 S = some (r, S') → va_P (dC, dI) classes (wM M S) H → va_D A (wM M S) → va_S A s.heap H locs → lv_has ls 2 [] → W p l e ({ frames := 2, cells := 0, slots := 0, locals := 42 }) s m ([.ref M.o, .int p0] : List Value).toArray below meth c H locs 0 0 Q (F0 m 46 ls [.int z_0]) := by
    intro z_0 S H locs ls h hP hD hS hl
    rw [f_Mo_mode_46] at h
    refine lv_iconst (v := 0) hx hb d_Mo_mode_46 (by decide) ?_
    exact hB_47 z_0 0 S _ _ _ h hP hD hS (lv_sub hl [] rfl)
  have hB_17 : ∀ (y_1 : Int32) (z_0 : Int32) (S : MS) (H : Heap) (locs : List Loc) (ls : Array Slot), f_Mo_mode_17 K y_1 z_0 S = some (r, S') → va_P (dC, dI) classes (wM M S) H → va_D A (wM M S) → va_S A s.heap H locs → lv_has ls 2 [(0, .ref M.o), (1, .int y_1)] → W p l e ({ frames := 2, cells := 0, slots := 0, locals := 42 }) s m ([.ref M.o, .int p0] : List Value).toArray below meth c H locs 0 0 Q (F0 m 17 ls [.int z_0]) := by
    intro y_1 z_0 S H locs ls h hP hD hS hl
    rw [f_Mo_mode_17] at h
    refine lv_iload_n hx hb d_Mo_mode_17 rfl (lv_at hl 1 rfl) ?_
    refine lv_if_le (tgt := 46) hx hb d_Mo_mode_18 (by decide) (fun c_3 => ?_) (fun c_3 => ?_)
    · have h := lf_t h c_3
      exact hB_46 z_0 S _ _ _ h hP hD hS (lv_sub hl [] rfl)
    · have h := lf_f h c_3
      refine lv_aload_n hx hb d_Mo_mode_21 rfl (lv_at hl 0 rfl) ?_
      refine lv_aload_n hx hb d_Mo_mode_22 rfl (lv_at hl 0 rfl) ?_
      refine va_get (D := (dC, dI)) (ci := 12) (v := .ref M.a_at) (C := R_Mo) (T := F_Mo) (N := 66) hx hb hts (fun w h => u_Mq_Mo w (i_Mo w h)) hown hK hP 0 rfl rfl 24 (by decide) (hts _ (u_Mq_Mo _ k_Mo_31)) (fun _ h9 => h9) rfl d_Mo_mode_23 ?_
      refine lv_iload_n hx hb d_Mo_mode_26 rfl (lv_at hl 1 rfl) ?_
      obtain ⟨g_4, h⟩ := lf_gE h
      refine va_iald hx hb hK hP 6 5 rfl rfl g_4 d_Mo_mode_27 ?_
      refine lv_bipush (v := 11) hx hb d_Mo_mode_28 (by decide) ?_
      refine lv_iadd hx hb d_Mo_mode_30 ?_
      obtain ⟨r_5, S_5, hc_5, h⟩ := lf_cE h
      have hFc := lx_free hD hS hA
      refine va_calli (va_runV (As := [.int ((S.v_at y_1.toNatClampNeg) + 11)]) (rest := [.int z_0]) ⟨hx, hb, hml, hown, hts⟩ (l_Mo_one l dC dI X _ hc_5) (cwV 1 hts (gwV good_Mq (u_Mq_Mo _ k_Mo_94) (u_Mq_Mo _ k_Mo_95) (u_Mq_Mo _ k_Mo_475) (u_Mq_Mo _ k_Mo_0) (wcs (u_Mq_Mo _ k_Mo_96) (fun _ h => h))) rfl rfl rfl (by decide +kernel) ⟨Nat.le_of_ble_eq_true rfl, Nat.le_of_ble_eq_true rfl⟩) (pv_ofE (X.same _) (fun U z1 z2 => X.mono _ _ U hFc (hEw _ _ hS U z1 z2)) hP hK hD (va_recv hK hP (ci := 12) (q0 := 0) rfl rfl)) rfl rfl hl.1 rfl (lv_room (Nat.le_of_ble_eq_true rfl)) d_Mo_mode_31 ⟨by decide, by decide⟩) hS (fun q _ h => hFc q h) hFc (fun r_ u t H locs ht hvm hw hB hz1 hk1 hS => ?_)
      rw [hw]
      obtain ⟨hP, -, hD⟩ := hB
      rw [ht] at hP
      have hD := lx_dj hD hFc
      refine lv_iconst (v := 1) hx hb d_Mo_mode_34 (by decide) ?_
      refine lv_iand hx hb d_Mo_mode_35 ?_
      refine lv_iconst (v := 1) hx hb d_Mo_mode_36 (by decide) ?_
      refine lv_icmp_ne (tgt := 46) hx hb d_Mo_mode_37 (by decide) (fun c_6 => ?_) (fun c_6 => ?_)
      · have h := lf_f h c_6
        exact hB_46 z_0 S_5 _ _ _ h hP hD hS (lv_sub hl [] rfl)
      · have h := lf_t h c_6
        refine lv_sipush (v := 128) hx hb d_Mo_mode_40 (by decide) ?_
        refine lv_goto (tgt := 47) hx hb d_Mo_mode_43 (by decide) ?_
        exact hB_47 z_0 128 S_5 _ _ _ h hP hD hS (lv_sub hl [] rfl)
  rw [f_Mo_mode] at h
  refine lv_aload_n hx hb d_Mo_mode_0 rfl (lv_at hl 0 rfl) ?_
  refine lv_iload_n hx hb d_Mo_mode_1 rfl (lv_at hl 1 rfl) ?_
  obtain ⟨r_1, S_1, hc_1, h⟩ := lf_cE h
  have hFc := lx_free hD hS hA
  refine va_calli (va_runV (As := [.int p0]) (rest := []) ⟨hx, hb, hml, hown, hts⟩ (l_Mo_isFolder l dC dI X _ hc_1) (cwV 1 hts (gwV good_Mq (u_Mq_Mo _ k_Mo_118) (u_Mq_Mo _ k_Mo_119) (u_Mq_Mo _ k_Mo_489) (u_Mq_Mo _ k_Mo_0) (wcs (u_Mq_Mo _ k_Mo_120) (fun _ h => h))) rfl rfl rfl (by decide +kernel) ⟨Nat.le_of_ble_eq_true rfl, Nat.le_of_ble_eq_true rfl⟩) (pv_ofE (X.same _) (fun U z1 z2 => X.mono _ _ U hFc (hEw _ _ hS U z1 z2)) hP hK hD (va_recv hK hP (ci := 12) (q0 := 0) rfl rfl)) rfl rfl hl.1 rfl (lv_room (Nat.le_of_ble_eq_true rfl)) d_Mo_mode_2 ⟨by decide, by decide⟩) hS (fun q _ h => hFc q h) hFc (fun r_ u t H locs ht hvm hw hB hz1 hk1 hS => ?_)
  rw [hw]
  obtain ⟨hP, -, hD⟩ := hB
  rw [ht] at hP
  have hD := lx_dj hD hFc
  refine lv_if_eq (tgt := 14) hx hb d_Mo_mode_5 (by decide) (fun c_2 => ?_) (fun c_2 => ?_)
  · have h := lf_t h c_2
    refine lv_ldcw (v := 33188) hx hb hown (hts _ (u_Mq_Mo _ k_Mo_449)) d_Mo_mode_14 ?_
    exact hB_17 p0 33188 S_1 _ _ _ h hP hD hS (lv_sub hl [0, 1] rfl)
  · have h := lf_f h c_2
    refine lv_sipush (v := 16877) hx hb d_Mo_mode_8 (by decide) ?_
    refine lv_goto (tgt := 17) hx hb d_Mo_mode_11 (by decide) ?_
    exact hB_17 p0 16877 S_1 _ _ _ h hP hD hS (lv_sub hl [0, 1] rfl)
set_option maxHeartbeats 4000000 in
set_option maxRecDepth 100000 in
theorem l_Mo_makeRecord (l : Launch) (dC : Nat → ClassId) (dI : Nat → Nat → Nat) {K : Nat} {M : MA} {E : (Nat → Prop) → State → Prop} (X : lx_X l dC dI K M E) (sz : Nat) {S S' : MS} (h : f_Mo_makeRecord K S = some S') : Met l y_Mo_makeRecord (.code y_Mo_makeRecord b_Mo_makeRecord 4 none :: V_Mq) ({ frames := 7, cells := 0, slots := 0, locals := 221 }) (va_Pc [.ref M.o] (fun U => U.heap.size = sz ∧ at_ (dC, dI) (fun _ => True) (wM M S) (tM M) U ∧ E (va_A (wM M S) sz) U)) (va_Qv (fun (u : Unit) => True) (fun (u : Unit) t => at_ (dC, dI) (va_A (wM M S) sz) (wM M S') (tM M) t) (va_A (wM M S) sz)) 0 0 (va_A (wM M S) sz) := by
  refine Met.ofW (cc := b_Mo_makeRecord) (maxL := 4) (ret := none) (by decide) rfl ?_
  intro p e s m args below meth c s₁ B hml hv
  obtain ⟨rfl, hsz, ⟨hP, hK, hD0⟩, hE⟩ := hv
  have hx := B.exec
  have hb := B.bytes
  have hr := B.returns
  have hts0 := atoms_spec (ws := .code y_Mo_makeRecord b_Mo_makeRecord 4 none :: V_Mq) B.pre
  have hts : ∀ w ∈ V_Mq, w.before ([.ref M.o] : List Value).toArray s = true := fun w h => hts0 w (List.mem_cons_of_mem _ h)
  have hown : s.vm.findClass R_Mo = some m.cls := findClass_of_methodNamed B.named
  subst hsz
  have hD := hD0.self (sz := s.heap.size)
  generalize hAe : va_A (wM M S) s.heap.size = A at hD hE ⊢
  have hA : ∀ q : Nat, s.heap.size ≤ q → A q := fun q h => by rw [← hAe]; exact Or.inr h
  have hS : va_S A s.heap s.heap [] := va_S.rf
  have hP : va_P (dC, dI) classes (wM M S) s.heap := hP
  have hK : va_K (dC, dI) classes (tM M) s := hK
  have hEw : ∀ (H : Heap) (locs : List Loc), va_S A s.heap H locs → ∀ U : State, U.heap = H → s.WarmedH U.vm → E A U := fun H locs hS U hU hW => X.kept A s U H locs hE hS hU hW
  have hl := lv_entry ([.ref M.o]) (n := 4) (Nat.le_of_ble_eq_true rfl)
  rw [lg_entry_eq]
  generalize (lg_sl ([.ref M.o]) ++ List.replicate (4 - (lg_sl ([.ref M.o])).length) Slot.unset).toArray = ls at hl ⊢
  have hl : lv_has ls 4 [(0, .ref M.o)] := hl
  refine qabs (fun Q hQ => ?_)
  have hB_87 : ∀ (rec_2 : Int32 → MS → Option (MS)) (hr_2 : ∀ (y_1 : Int32) (S : MS) (H : Heap) (locs : List Loc) (ls : Array Slot), rec_2 y_1 S = some S' → va_P (dC, dI) classes (wM M S) H → va_D A (wM M S) → va_S A s.heap H locs → lv_has ls 4 [(0, .ref M.o), (1, .int y_1)] → W p l e ({ frames := 7, cells := 0, slots := 0, locals := 221 }) s m ([.ref M.o] : List Value).toArray below meth c H locs 0 0 Q (F0 m 2 ls [])) (rec_19 : Int32 → Int32 → MS → Option (MS)) (hr_19 : ∀ (y_1 : Int32) (y_2 : Int32) (S : MS) (H : Heap) (locs : List Loc) (ls : Array Slot), rec_19 y_1 y_2 S = some S' → va_P (dC, dI) classes (wM M S) H → va_D A (wM M S) → va_S A s.heap H locs → lv_has ls 4 [(0, .ref M.o), (1, .int y_1), (2, .int y_2)] → W p l e ({ frames := 7, cells := 0, slots := 0, locals := 221 }) s m ([.ref M.o] : List Value).toArray below meth c H locs 0 0 Q (F0 m 19 ls [])), ∀ (y_1 : Int32) (y_2 : Int32) (z_1 : Int32) (z_2 : Int32) (S : MS) (H : Heap) (locs : List Loc) (ls : Array Slot), f_Mo_makeRecord_87 K rec_2 rec_19 y_1 y_2 z_1 z_2 S = some S' → va_P (dC, dI) classes (wM M S) H → va_D A (wM M S) → va_S A s.heap H locs → lv_has ls 4 [(0, .ref M.o), (1, .int y_1), (2, .int y_2)] → W p l e ({ frames := 7, cells := 0, slots := 0, locals := 221 }) s m ([.ref M.o] : List Value).toArray below meth c H locs 0 0 Q (F0 m 87 ls [.int z_2, .int z_1, .ref M.a_fresh]) := by
    intro rec_2 hr_2 rec_19 hr_19 y_1 y_2 z_1 z_2 S H locs ls h hP hD hS hl
    rw [f_Mo_makeRecord_87] at h
    obtain ⟨g_29, h⟩ := lf_gE h
    refine va_bast hx hb hK hP hD hS 2 1 rfl rfl g_29 d_Mo_makeRecord_87 (fun H locs hP hD hS => ?_)
    obtain ⟨S_30, eS_30, h⟩ := lf_lX h
    have hP := lx_newP eS_30 hP
    have hD := lx_newD eS_30 hD
    obtain ⟨x_31, ex_31, h⟩ := lf_lX h
    refine lv_iinc (v := x_31) (lv' := [(2, .int x_31), (0, .ref M.o), (1, .int y_1)]) hx hb d_Mo_makeRecord_88 hl (k := 2) rfl (by rw [ex_31]; rfl) (by decide) rfl (fun ls hl => ?_)
    refine lv_goto (tgt := 19) hx hb d_Mo_makeRecord_91 (by decide) ?_
    exact hr_19 y_1 x_31 S_30 _ _ _ h hP hD hS (lv_sub hl [1, 2, 0] rfl)
  have hB_19 : ∀ (rec_2 : Int32 → MS → Option (MS)) (hr_2 : ∀ (y_1 : Int32) (S : MS) (H : Heap) (locs : List Loc) (ls : Array Slot), rec_2 y_1 S = some S' → va_P (dC, dI) classes (wM M S) H → va_D A (wM M S) → va_S A s.heap H locs → lv_has ls 4 [(0, .ref M.o), (1, .int y_1)] → W p l e ({ frames := 7, cells := 0, slots := 0, locals := 221 }) s m ([.ref M.o] : List Value).toArray below meth c H locs 0 0 Q (F0 m 2 ls [])) (k : Nat), ∀ (y_1 : Int32) (y_2 : Int32) (S : MS) (H : Heap) (locs : List Loc) (ls : Array Slot), f_Mo_makeRecord_19 K rec_2 k y_1 y_2 S = some S' → va_P (dC, dI) classes (wM M S) H → va_D A (wM M S) → va_S A s.heap H locs → lv_has ls 4 [(0, .ref M.o), (1, .int y_1), (2, .int y_2)] → W p l e ({ frames := 7, cells := 0, slots := 0, locals := 221 }) s m ([.ref M.o] : List Value).toArray below meth c H locs 0 0 Q (F0 m 19 ls []) := by
    intro rec_2 hr_2 k
    induction k with
    | zero => intro y_1 y_2 S H locs ls h; exact lf_no h
    | succ k hr_19 =>
      intro y_1 y_2 S H locs ls h hP hD hS hl
      rw [f_Mo_makeRecord_19] at h
      refine lv_iload_n hx hb d_Mo_makeRecord_19 rfl (lv_at hl 2 rfl) ?_
      refine lv_sipush (v := 1024) hx hb d_Mo_makeRecord_20 (by decide) ?_
      refine lv_icmp_ge (tgt := 94) hx hb d_Mo_makeRecord_23 (by decide) (fun c_11 => ?_) (fun c_11 => ?_)
      · have h := lf_t h c_11
        obtain ⟨x_12, ex_12, h⟩ := lf_lX h
        refine lv_iinc (v := x_12) (lv' := [(1, .int x_12), (0, .ref M.o), (2, .int y_2)]) hx hb d_Mo_makeRecord_94 hl (k := 1) rfl (by rw [ex_12]; rfl) (by decide) rfl (fun ls hl => ?_)
        refine lv_goto (tgt := 2) hx hb d_Mo_makeRecord_97 (by decide) ?_
        exact hr_2 x_12 S _ _ _ h hP hD hS (lv_sub hl [1, 0] rfl)
      · have h := lf_f h c_11
        refine lv_aload_n hx hb d_Mo_makeRecord_26 rfl (lv_at hl 0 rfl) ?_
        refine va_get (D := (dC, dI)) (ci := 12) (v := .ref M.a_fresh) (C := R_Mo) (T := F_Mo) (N := 66) hx hb hts (fun w h => u_Mq_Mo w (i_Mo w h)) hown hK hP 0 rfl rfl 2 (by decide) (hts _ (u_Mq_Mo _ k_Mo_9)) (fun _ h9 => h9) rfl d_Mo_makeRecord_27 ?_
        refine lv_sipush (v := 1024) hx hb d_Mo_makeRecord_30 (by decide) ?_
        refine lv_aload_n hx hb d_Mo_makeRecord_33 rfl (lv_at hl 0 rfl) ?_
        refine va_get (D := (dC, dI)) (ci := 12) (v := .ref M.a_record) (C := R_Mo) (T := F_Mo) (N := 66) hx hb hts (fun w h => u_Mq_Mo w (i_Mo w h)) hown hK hP 0 rfl rfl 61 (by decide) (hts _ (u_Mq_Mo _ k_Mo_68)) (fun _ h9 => h9) rfl d_Mo_makeRecord_34 ?_
        refine lv_iload_n hx hb d_Mo_makeRecord_37 rfl (lv_at hl 1 rfl) ?_
        obtain ⟨g_13, h⟩ := lf_gE h
        refine va_iald hx hb hK hP 26 25 rfl rfl g_13 d_Mo_makeRecord_38 ?_
        refine lv_imul hx hb d_Mo_makeRecord_39 ?_
        refine lv_iload_n hx hb d_Mo_makeRecord_40 rfl (lv_at hl 2 rfl) ?_
        refine lv_iadd hx hb d_Mo_makeRecord_41 ?_
        refine lv_iload_n hx hb d_Mo_makeRecord_42 rfl (lv_at hl 1 rfl) ?_
        refine lv_iconst (v := 2) hx hb d_Mo_makeRecord_43 (by decide) ?_
        refine lv_icmp_ge (tgt := 66) hx hb d_Mo_makeRecord_44 (by decide) (fun c_14 => ?_) (fun c_14 => ?_)
        · have h := lf_t h c_14
          refine lv_iload_n hx hb d_Mo_makeRecord_66 rfl (lv_at hl 2 rfl) ?_
          refine lv_sipush (v := 512) hx hb d_Mo_makeRecord_67 (by decide) ?_
          refine lv_icmp_ge (tgt := 86) hx hb d_Mo_makeRecord_70 (by decide) (fun c_15 => ?_) (fun c_15 => ?_)
          · have h := lf_t h c_15
            refine lv_iconst (v := 0) hx hb d_Mo_makeRecord_86 (by decide) ?_
            exact hB_87 _ hr_2 _ hr_19 y_1 y_2 ((1024 * (S.v_record y_1.toNatClampNeg)) + y_2) 0 S _ _ _ h hP hD hS (lv_sub hl [0, 1, 2] rfl)
          · have h := lf_f h c_15
            refine lv_aload_n hx hb d_Mo_makeRecord_73 rfl (lv_at hl 0 rfl) ?_
            refine va_get (D := (dC, dI)) (ci := 12) (v := .ref M.a_disk) (C := R_Mo) (T := F_Mo) (N := 66) hx hb hts (fun w h => u_Mq_Mo w (i_Mo w h)) hown hK hP 0 rfl rfl 1 (by decide) (hts _ (u_Mq_Mo _ k_Mo_8)) (fun _ h9 => h9) rfl d_Mo_makeRecord_74 ?_
            refine lv_sipush (v := 3584) hx hb d_Mo_makeRecord_77 (by decide) ?_
            refine lv_iload_n hx hb d_Mo_makeRecord_80 rfl (lv_at hl 2 rfl) ?_
            refine lv_iadd hx hb d_Mo_makeRecord_81 ?_
            obtain ⟨g_16, h⟩ := lf_gE h
            refine va_bald hx hb hK hP 1 0 rfl rfl g_16 d_Mo_makeRecord_82 ?_
            refine lv_goto (tgt := 87) hx hb d_Mo_makeRecord_83 (by decide) ?_
            exact hB_87 _ hr_2 _ hr_19 y_1 y_2 ((1024 * (S.v_record y_1.toNatClampNeg)) + y_2) (S.v_disk (3584 + y_2).toNatClampNeg) S _ _ _ h hP hD hS (lv_sub hl [0, 1, 2] rfl)
        · have h := lf_f h c_14
          refine lv_aload_n hx hb d_Mo_makeRecord_47 rfl (lv_at hl 0 rfl) ?_
          refine va_get (D := (dC, dI)) (ci := 12) (v := .ref M.a_disk) (C := R_Mo) (T := F_Mo) (N := 66) hx hb hts (fun w h => u_Mq_Mo w (i_Mo w h)) hown hK hP 0 rfl rfl 1 (by decide) (hts _ (u_Mq_Mo _ k_Mo_8)) (fun _ h9 => h9) rfl d_Mo_makeRecord_48 ?_
          refine lv_sipush (v := 1024) hx hb d_Mo_makeRecord_51 (by decide) ?_
          refine lv_sipush (v := 1024) hx hb d_Mo_makeRecord_54 (by decide) ?_
          refine lv_iload_n hx hb d_Mo_makeRecord_57 rfl (lv_at hl 1 rfl) ?_
          refine lv_imul hx hb d_Mo_makeRecord_58 ?_
          refine lv_iadd hx hb d_Mo_makeRecord_59 ?_
          refine lv_iload_n hx hb d_Mo_makeRecord_60 rfl (lv_at hl 2 rfl) ?_
          refine lv_iadd hx hb d_Mo_makeRecord_61 ?_
          obtain ⟨g_17, h⟩ := lf_gE h
          refine va_bald hx hb hK hP 1 0 rfl rfl g_17 d_Mo_makeRecord_62 ?_
          refine lv_goto (tgt := 87) hx hb d_Mo_makeRecord_63 (by decide) ?_
          exact hB_87 _ hr_2 _ hr_19 y_1 y_2 ((1024 * (S.v_record y_1.toNatClampNeg)) + y_2) (S.v_disk ((1024 + (1024 * y_1)) + y_2).toNatClampNeg) S _ _ _ h hP hD hS (lv_sub hl [0, 1, 2] rfl)
  have hB_133 : ∀ (rec_104 : Int32 → Int32 → MS → Option (MS)) (hr_104 : ∀ (y_1 : Int32) (y_2 : Int32) (S : MS) (H : Heap) (locs : List Loc) (ls : Array Slot), rec_104 y_1 y_2 S = some S' → va_P (dC, dI) classes (wM M S) H → va_D A (wM M S) → va_S A s.heap H locs → lv_has ls 4 [(0, .ref M.o), (1, .int y_1), (2, .int y_2)] → W p l e ({ frames := 7, cells := 0, slots := 0, locals := 221 }) s m ([.ref M.o] : List Value).toArray below meth c H locs 0 0 Q (F0 m 104 ls [])) (k : Nat), ∀ (y_1 : Int32) (y_2 : Int32) (y_3 : Int32) (S : MS) (H : Heap) (locs : List Loc) (ls : Array Slot), f_Mo_makeRecord_133 K rec_104 k y_1 y_2 y_3 S = some S' → va_P (dC, dI) classes (wM M S) H → va_D A (wM M S) → va_S A s.heap H locs → lv_has ls 4 [(0, .ref M.o), (1, .int y_1), (2, .int y_2), (3, .int y_3)] → W p l e ({ frames := 7, cells := 0, slots := 0, locals := 221 }) s m ([.ref M.o] : List Value).toArray below meth c H locs 0 0 Q (F0 m 133 ls []) := by
    intro rec_104 hr_104 k
    induction k with
    | zero => intro y_1 y_2 y_3 S H locs ls h; exact lf_no h
    | succ k hr_133 =>
      intro y_1 y_2 y_3 S H locs ls h hP hD hS hl
      rw [f_Mo_makeRecord_133] at h
      refine lv_iload_n hx hb d_Mo_makeRecord_133 rfl (lv_at hl 3 rfl) ?_
      refine lv_sipush (v := 1024) hx hb d_Mo_makeRecord_134 (by decide) ?_
      refine lv_icmp_ge (tgt := 170) hx hb d_Mo_makeRecord_137 (by decide) (fun c_23 => ?_) (fun c_23 => ?_)
      · have h := lf_t h c_23
        obtain ⟨x_24, ex_24, h⟩ := lf_lX h
        refine lv_iinc (v := x_24) (lv' := [(2, .int x_24), (0, .ref M.o), (1, .int y_1), (3, .int y_3)]) hx hb d_Mo_makeRecord_170 hl (k := 2) rfl (by rw [ex_24]; rfl) (by decide) rfl (fun ls hl => ?_)
        refine lv_goto (tgt := 104) hx hb d_Mo_makeRecord_173 (by decide) ?_
        exact hr_104 y_1 x_24 S _ _ _ h hP hD hS (lv_sub hl [1, 2, 0] rfl)
      · have h := lf_f h c_23
        refine lv_aload_n hx hb d_Mo_makeRecord_140 rfl (lv_at hl 0 rfl) ?_
        refine va_get (D := (dC, dI)) (ci := 12) (v := .ref M.a_fresh) (C := R_Mo) (T := F_Mo) (N := 66) hx hb hts (fun w h => u_Mq_Mo w (i_Mo w h)) hown hK hP 0 rfl rfl 2 (by decide) (hts _ (u_Mq_Mo _ k_Mo_9)) (fun _ h9 => h9) rfl d_Mo_makeRecord_141 ?_
        refine lv_sipush (v := 1024) hx hb d_Mo_makeRecord_144 (by decide) ?_
        refine lv_iload_n hx hb d_Mo_makeRecord_147 rfl (lv_at hl 2 rfl) ?_
        refine lv_imul hx hb d_Mo_makeRecord_148 ?_
        refine lv_iload_n hx hb d_Mo_makeRecord_149 rfl (lv_at hl 3 rfl) ?_
        refine lv_iadd hx hb d_Mo_makeRecord_150 ?_
        refine lv_aload_n hx hb d_Mo_makeRecord_151 rfl (lv_at hl 0 rfl) ?_
        refine va_get (D := (dC, dI)) (ci := 12) (v := .ref M.a_disk) (C := R_Mo) (T := F_Mo) (N := 66) hx hb hts (fun w h => u_Mq_Mo w (i_Mo w h)) hown hK hP 0 rfl rfl 1 (by decide) (hts _ (u_Mq_Mo _ k_Mo_8)) (fun _ h9 => h9) rfl d_Mo_makeRecord_152 ?_
        refine lv_sipush (v := 1024) hx hb d_Mo_makeRecord_155 (by decide) ?_
        refine lv_iload_n hx hb d_Mo_makeRecord_158 rfl (lv_at hl 2 rfl) ?_
        refine lv_imul hx hb d_Mo_makeRecord_159 ?_
        refine lv_iload_n hx hb d_Mo_makeRecord_160 rfl (lv_at hl 3 rfl) ?_
        refine lv_iadd hx hb d_Mo_makeRecord_161 ?_
        obtain ⟨g_25, h⟩ := lf_gE h
        refine va_bald hx hb hK hP 1 0 rfl rfl g_25 d_Mo_makeRecord_162 ?_
        obtain ⟨g_26, h⟩ := lf_gE h
        refine va_bast hx hb hK hP hD hS 2 1 rfl rfl g_26 d_Mo_makeRecord_163 (fun H locs hP hD hS => ?_)
        obtain ⟨S_27, eS_27, h⟩ := lf_lX h
        have hP := lx_newP eS_27 hP
        have hD := lx_newD eS_27 hD
        obtain ⟨x_28, ex_28, h⟩ := lf_lX h
        refine lv_iinc (v := x_28) (lv' := [(3, .int x_28), (0, .ref M.o), (1, .int y_1), (2, .int y_2)]) hx hb d_Mo_makeRecord_164 hl (k := 3) rfl (by rw [ex_28]; rfl) (by decide) rfl (fun ls hl => ?_)
        refine lv_goto (tgt := 133) hx hb d_Mo_makeRecord_167 (by decide) ?_
        exact hr_133 y_1 y_2 x_28 S_27 _ _ _ h hP hD hS (lv_sub hl [1, 2, 3, 0] rfl)
  have hB_211 : ∀ (rec_178 : Int32 → Int32 → MS → Option (MS)) (hr_178 : ∀ (y_1 : Int32) (y_2 : Int32) (S : MS) (H : Heap) (locs : List Loc) (ls : Array Slot), rec_178 y_1 y_2 S = some S' → va_P (dC, dI) classes (wM M S) H → va_D A (wM M S) → va_S A s.heap H locs → lv_has ls 4 [(0, .ref M.o), (1, .int y_1), (2, .int y_2)] → W p l e ({ frames := 7, cells := 0, slots := 0, locals := 221 }) s m ([.ref M.o] : List Value).toArray below meth c H locs 0 0 Q (F0 m 178 ls [])), ∀ (y_1 : Int32) (y_2 : Int32) (z_1 : Int32) (z_2 : Int32) (S : MS) (H : Heap) (locs : List Loc) (ls : Array Slot), f_Mo_makeRecord_211 K rec_178 y_1 y_2 z_1 z_2 S = some S' → va_P (dC, dI) classes (wM M S) H → va_D A (wM M S) → va_S A s.heap H locs → lv_has ls 4 [(0, .ref M.o), (1, .int y_1), (2, .int y_2)] → W p l e ({ frames := 7, cells := 0, slots := 0, locals := 221 }) s m ([.ref M.o] : List Value).toArray below meth c H locs 0 0 Q (F0 m 211 ls [.int z_2, .int z_1, .ref M.a_fresh]) := by
    intro rec_178 hr_178 y_1 y_2 z_1 z_2 S H locs ls h hP hD hS hl
    rw [f_Mo_makeRecord_211] at h
    obtain ⟨g_38, h⟩ := lf_gE h
    refine va_bast hx hb hK hP hD hS 2 1 rfl rfl g_38 d_Mo_makeRecord_211 (fun H locs hP hD hS => ?_)
    obtain ⟨S_39, eS_39, h⟩ := lf_lX h
    have hP := lx_newP eS_39 hP
    have hD := lx_newD eS_39 hD
    obtain ⟨x_40, ex_40, h⟩ := lf_lX h
    refine lv_iinc (v := x_40) (lv' := [(2, .int x_40), (0, .ref M.o), (1, .int y_1)]) hx hb d_Mo_makeRecord_212 hl (k := 2) rfl (by rw [ex_40]; rfl) (by decide) rfl (fun ls hl => ?_)
    refine lv_goto (tgt := 178) hx hb d_Mo_makeRecord_215 (by decide) ?_
    exact hr_178 y_1 x_40 S_39 _ _ _ h hP hD hS (lv_sub hl [1, 2, 0] rfl)
  have hB_311 : ∀ (rec_246 : Int32 → Int32 → MS → Option (MS)) (hr_246 : ∀ (y_1 : Int32) (y_2 : Int32) (S : MS) (H : Heap) (locs : List Loc) (ls : Array Slot), rec_246 y_1 y_2 S = some S' → va_P (dC, dI) classes (wM M S) H → va_D A (wM M S) → va_S A s.heap H locs → lv_has ls 4 [(0, .ref M.o), (1, .int y_1), (2, .int y_2)] → W p l e ({ frames := 7, cells := 0, slots := 0, locals := 221 }) s m ([.ref M.o] : List Value).toArray below meth c H locs 0 0 Q (F0 m 246 ls [])), ∀ (y_1 : Int32) (y_2 : Int32) (S : MS) (H : Heap) (locs : List Loc) (ls : Array Slot), f_Mo_makeRecord_311 K rec_246 y_1 y_2 S = some S' → va_P (dC, dI) classes (wM M S) H → va_D A (wM M S) → va_S A s.heap H locs → lv_has ls 4 [(0, .ref M.o), (1, .int y_1), (2, .int y_2)] → W p l e ({ frames := 7, cells := 0, slots := 0, locals := 221 }) s m ([.ref M.o] : List Value).toArray below meth c H locs 0 0 Q (F0 m 311 ls []) := by
    intro rec_246 hr_246 y_1 y_2 S H locs ls h hP hD hS hl
    rw [f_Mo_makeRecord_311] at h
    obtain ⟨x_47, ex_47, h⟩ := lf_lX h
    refine lv_iinc (v := x_47) (lv' := [(2, .int x_47), (0, .ref M.o), (1, .int y_1)]) hx hb d_Mo_makeRecord_311 hl (k := 2) rfl (by rw [ex_47]; rfl) (by decide) rfl (fun ls hl => ?_)
    refine lv_goto (tgt := 246) hx hb d_Mo_makeRecord_314 (by decide) ?_
    exact hr_246 y_1 x_47 S _ _ _ h hP hD hS (lv_sub hl [1, 2, 0] rfl)
  have hB_276 : ∀ (rec_246 : Int32 → Int32 → MS → Option (MS)) (hr_246 : ∀ (y_1 : Int32) (y_2 : Int32) (S : MS) (H : Heap) (locs : List Loc) (ls : Array Slot), rec_246 y_1 y_2 S = some S' → va_P (dC, dI) classes (wM M S) H → va_D A (wM M S) → va_S A s.heap H locs → lv_has ls 4 [(0, .ref M.o), (1, .int y_1), (2, .int y_2)] → W p l e ({ frames := 7, cells := 0, slots := 0, locals := 221 }) s m ([.ref M.o] : List Value).toArray below meth c H locs 0 0 Q (F0 m 246 ls [])) (k : Nat), ∀ (y_1 : Int32) (y_2 : Int32) (y_3 : Int32) (S : MS) (H : Heap) (locs : List Loc) (ls : Array Slot), f_Mo_makeRecord_276 K rec_246 k y_1 y_2 y_3 S = some S' → va_P (dC, dI) classes (wM M S) H → va_D A (wM M S) → va_S A s.heap H locs → lv_has ls 4 [(0, .ref M.o), (1, .int y_1), (2, .int y_2), (3, .int y_3)] → W p l e ({ frames := 7, cells := 0, slots := 0, locals := 221 }) s m ([.ref M.o] : List Value).toArray below meth c H locs 0 0 Q (F0 m 276 ls []) := by
    intro rec_246 hr_246 k
    induction k with
    | zero => intro y_1 y_2 y_3 S H locs ls h; exact lf_no h
    | succ k hr_276 =>
      intro y_1 y_2 y_3 S H locs ls h hP hD hS hl
      rw [f_Mo_makeRecord_276] at h
      refine lv_iload_n hx hb d_Mo_makeRecord_276 rfl (lv_at hl 3 rfl) ?_
      refine lv_aload_n hx hb d_Mo_makeRecord_277 rfl (lv_at hl 0 rfl) ?_
      refine va_get (D := (dC, dI)) (ci := 12) (v := .int S.v_links) (C := R_Mo) (T := F_Mo) (N := 66) hx hb hts (fun w h => u_Mq_Mo w (i_Mo w h)) hown hK hP 0 rfl rfl 35 (by decide) (hts _ (u_Mq_Mo _ k_Mo_42)) (fun _ h9 => h9) rfl d_Mo_makeRecord_278 ?_
      refine lv_aload_n hx hb d_Mo_makeRecord_281 rfl (lv_at hl 0 rfl) ?_
      refine va_get (D := (dC, dI)) (ci := 12) (v := .int S.v_c) (C := R_Mo) (T := F_Mo) (N := 66) hx hb hts (fun w h => u_Mq_Mo w (i_Mo w h)) hown hK hP 0 rfl rfl 11 (by decide) (hts _ (u_Mq_Mo _ k_Mo_18)) (fun _ h9 => h9) rfl d_Mo_makeRecord_282 ?_
      refine lv_iconst (v := 2) hx hb d_Mo_makeRecord_285 (by decide) ?_
      refine lv_idiv hx hb d_Mo_makeRecord_286 (by decide) ?_
      refine lv_imul hx hb d_Mo_makeRecord_287 ?_
      refine lv_icmp_ge (tgt := 311) hx hb d_Mo_makeRecord_288 (by decide) (fun c_41 => ?_) (fun c_41 => ?_)
      · have h := lf_t h c_41
        exact hB_311 _ hr_246 y_1 y_2 S _ _ _ h hP hD hS (lv_sub hl [0, 1, 2] rfl)
      · have h := lf_f h c_41
        refine lv_aload_n hx hb d_Mo_makeRecord_291 rfl (lv_at hl 0 rfl) ?_
        refine va_get (D := (dC, dI)) (ci := 12) (v := .ref M.a_record) (C := R_Mo) (T := F_Mo) (N := 66) hx hb hts (fun w h => u_Mq_Mo w (i_Mo w h)) hown hK hP 0 rfl rfl 61 (by decide) (hts _ (u_Mq_Mo _ k_Mo_68)) (fun _ h9 => h9) rfl d_Mo_makeRecord_292 ?_
        refine lv_iload_n hx hb d_Mo_makeRecord_295 rfl (lv_at hl 1 rfl) ?_
        refine lv_aload_n hx hb d_Mo_makeRecord_296 rfl (lv_at hl 0 rfl) ?_
        refine lv_iload_n hx hb d_Mo_makeRecord_297 rfl (lv_at hl 3 rfl) ?_
        obtain ⟨r_42, S_42, hc_42, h⟩ := lf_cE h
        have hFc := lx_free hD hS hA
        refine va_calli (va_runV (As := [.int y_3]) (rest := [.int y_1, .ref M.a_record]) ⟨hx, hb, hml, hown, hts⟩ (l_Mo_copied l dC dI X _ hc_42) (cwV 1 hts (gwV good_Mq (u_Mq_Mo _ k_Mo_421) (u_Mq_Mo _ k_Mo_422) (u_Mq_Mo _ k_Mo_542) (u_Mq_Mo _ k_Mo_0) (wcs (u_Mq_Mo _ k_Mo_423) (fun _ h => h))) rfl rfl rfl (by decide +kernel) ⟨Nat.le_of_ble_eq_true rfl, Nat.le_of_ble_eq_true rfl⟩) (pv_ofE (X.same _) (fun U z1 z2 => X.mono _ _ U hFc (hEw _ _ hS U z1 z2)) hP hK hD (va_recv hK hP (ci := 12) (q0 := 0) rfl rfl)) rfl rfl hl.1 rfl (lv_room (Nat.le_of_ble_eq_true rfl)) d_Mo_makeRecord_298 ⟨by decide, by decide⟩) hS (fun q _ h => hFc q h) hFc (fun r_ u t H locs ht hvm hw hB hz1 hk1 hS => ?_)
        rw [hw]
        obtain ⟨hP, -, hD⟩ := hB
        rw [ht] at hP
        have hD := lx_dj hD hFc
        obtain ⟨g_43, h⟩ := lf_gE h
        refine va_iast hx hb hK hP hD hS 26 25 rfl rfl g_43 d_Mo_makeRecord_301 (fun H locs hP hD hS => ?_)
        obtain ⟨S_44, eS_44, h⟩ := lf_lX h
        have hP := lx_newP eS_44 hP
        have hD := lx_newD eS_44 hD
        obtain ⟨x_45, ex_45, h⟩ := lf_lX h
        refine lv_iinc (v := x_45) (lv' := [(1, .int x_45), (0, .ref M.o), (2, .int y_2), (3, .int y_3)]) hx hb d_Mo_makeRecord_302 hl (k := 1) rfl (by rw [ex_45]; rfl) (by decide) rfl (fun ls hl => ?_)
        obtain ⟨x_46, ex_46, h⟩ := lf_lX h
        refine lv_iinc (v := x_46) (lv' := [(3, .int x_46), (1, .int x_45), (0, .ref M.o), (2, .int y_2)]) hx hb d_Mo_makeRecord_305 hl (k := 3) rfl (by rw [ex_46]; rfl) (by decide) rfl (fun ls hl => ?_)
        refine lv_goto (tgt := 276) hx hb d_Mo_makeRecord_308 (by decide) ?_
        exact hr_276 x_45 y_2 x_46 S_44 _ _ _ h hP hD hS (lv_sub hl [2, 1, 3, 0] rfl)
  have hB_246 : ∀ (k : Nat), ∀ (y_1 : Int32) (y_2 : Int32) (S : MS) (H : Heap) (locs : List Loc) (ls : Array Slot), f_Mo_makeRecord_246 K k y_1 y_2 S = some S' → va_P (dC, dI) classes (wM M S) H → va_D A (wM M S) → va_S A s.heap H locs → lv_has ls 4 [(0, .ref M.o), (1, .int y_1), (2, .int y_2)] → W p l e ({ frames := 7, cells := 0, slots := 0, locals := 221 }) s m ([.ref M.o] : List Value).toArray below meth c H locs 0 0 Q (F0 m 246 ls []) := by
    intro k
    induction k with
    | zero => intro y_1 y_2 S H locs ls h; exact lf_no h
    | succ k hr_246 =>
      intro y_1 y_2 S H locs ls h hP hD hS hl
      rw [f_Mo_makeRecord_246] at h
      refine lv_iload_n hx hb d_Mo_makeRecord_246 rfl (lv_at hl 2 rfl) ?_
      refine lv_aload_n hx hb d_Mo_makeRecord_247 rfl (lv_at hl 0 rfl) ?_
      refine va_get (D := (dC, dI)) (ci := 12) (v := .int S.v_items) (C := R_Mo) (T := F_Mo) (N := 66) hx hb hts (fun w h => u_Mq_Mo w (i_Mo w h)) hown hK hP 0 rfl rfl 21 (by decide) (hts _ (u_Mq_Mo _ k_Mo_28)) (fun _ h9 => h9) rfl d_Mo_makeRecord_248 ?_
      refine lv_icmp_ge (tgt := 317) hx hb d_Mo_makeRecord_251 (by decide) (fun c_32 => ?_) (fun c_32 => ?_)
      · have h := lf_t h c_32
        refine lv_aload_n hx hb d_Mo_makeRecord_317 rfl (lv_at hl 0 rfl) ?_
        refine lv_bipush (v := 11) hx hb d_Mo_makeRecord_318 (by decide) ?_
        refine lv_ldcw (v := 33024) hx hb hown (hts _ (u_Mq_Mo _ k_Mo_427)) d_Mo_makeRecord_320 ?_
        refine lv_iconst (v := 1) hx hb d_Mo_makeRecord_323 (by decide) ?_
        refine lv_lconst (v := 0) hx hb d_Mo_makeRecord_324 (by decide) ?_
        refine lv_lconst (v := 0) hx hb d_Mo_makeRecord_325 (by decide) ?_
        refine lv_lconst (v := 0) hx hb d_Mo_makeRecord_326 (by decide) ?_
        refine lv_ldc2 (v := 1024) hx hb hown (hts _ (u_Mq_Mo _ k_Mo_268)) d_Mo_makeRecord_327 ?_
        refine lv_iload_n hx hb d_Mo_makeRecord_330 rfl (lv_at hl 1 rfl) ?_
        refine lv_i2l hx hb d_Mo_makeRecord_331 rfl ?_
        refine lv_lmul hx hb d_Mo_makeRecord_332 ?_
        refine lv_aload_n hx hb d_Mo_makeRecord_333 rfl (lv_at hl 0 rfl) ?_
        refine va_get (D := (dC, dI)) (ci := 12) (v := .ref M.a_record) (C := R_Mo) (T := F_Mo) (N := 66) hx hb hts (fun w h => u_Mq_Mo w (i_Mo w h)) hown hK hP 0 rfl rfl 61 (by decide) (hts _ (u_Mq_Mo _ k_Mo_68)) (fun _ h9 => h9) rfl d_Mo_makeRecord_334 ?_
        refine lv_iload_n hx hb d_Mo_makeRecord_337 rfl (lv_at hl 1 rfl) ?_
        obtain ⟨S_33, hc_33, h⟩ := lf_bE h
        have hFc := lx_free hD hS hA
        refine va_callv (va_runV (As := [.int 11, .int 33024, .int 1, .long 0, .long 0, .long 0, .long (1024 * y_1.toInt64), .ref M.a_record, .int y_1]) (rest := []) ⟨hx, hb, hml, hown, hts⟩ (l_Mo_inode_record l dC dI X _ hc_33) (cwV 9 hts (gwV good_Mq (u_Mq_Mo _ k_Mo_428) (u_Mq_Mo _ k_Mo_429) (u_Mq_Mo _ k_Mo_543) (u_Mq_Mo _ k_Mo_0) (wcs (u_Mq_Mo _ k_Mo_430) (fun _ h => h))) rfl rfl rfl (by decide +kernel) ⟨Nat.le_of_ble_eq_true rfl, Nat.le_of_ble_eq_true rfl⟩) (pv_ofE (X.same _) (fun U z1 z2 => X.mono _ _ U hFc (hEw _ _ hS U z1 z2)) hP hK hD (va_recv hK hP (ci := 12) (q0 := 0) rfl rfl)) rfl rfl hl.1 rfl (lv_room (Nat.le_of_ble_eq_true rfl)) d_Mo_makeRecord_338 ⟨by decide, by decide⟩) hS (fun q _ h => hFc q h) hFc (fun u t H locs ht hvm hw hB hz1 hk1 hS => ?_)
        obtain ⟨hP, -, hD⟩ := hB
        rw [ht] at hP
        have hD := lx_dj hD hFc
        rw [hQ]
        have e2 : S_33 = S' := Option.some.inj h
        have hP := lx_newP e2.symm hP
        have hD := lx_newD e2.symm hD
        exact W.vret hx hb hr (fun t ht hW => ⟨⟨(), rfl, trivial, by rw [ht]; exact hP, va_K.moved hW.alike hK, hD⟩, hS.F ht⟩) hS.2.2 d_Mo_makeRecord_341
      · have h := lf_f h c_32
        refine lv_aload_n hx hb d_Mo_makeRecord_254 rfl (lv_at hl 0 rfl) ?_
        refine lv_iload_n hx hb d_Mo_makeRecord_255 rfl (lv_at hl 2 rfl) ?_
        obtain ⟨r_34, S_34, hc_34, h⟩ := lf_cE h
        have hFc := lx_free hD hS hA
        refine va_calli (va_runV (As := [.int y_2]) (rest := []) ⟨hx, hb, hml, hown, hts⟩ (l_Mo_isFolder l dC dI X _ hc_34) (cwV 1 hts (gwV good_Mq (u_Mq_Mo _ k_Mo_118) (u_Mq_Mo _ k_Mo_119) (u_Mq_Mo _ k_Mo_489) (u_Mq_Mo _ k_Mo_0) (wcs (u_Mq_Mo _ k_Mo_120) (fun _ h => h))) rfl rfl rfl (by decide +kernel) ⟨Nat.le_of_ble_eq_true rfl, Nat.le_of_ble_eq_true rfl⟩) (pv_ofE (X.same _) (fun U z1 z2 => X.mono _ _ U hFc (hEw _ _ hS U z1 z2)) hP hK hD (va_recv hK hP (ci := 12) (q0 := 0) rfl rfl)) rfl rfl hl.1 rfl (lv_room (Nat.le_of_ble_eq_true rfl)) d_Mo_makeRecord_256 ⟨by decide, by decide⟩) hS (fun q _ h => hFc q h) hFc (fun r_ u t H locs ht hvm hw hB hz1 hk1 hS => ?_)
        rw [hw]
        obtain ⟨hP, -, hD⟩ := hB
        rw [ht] at hP
        have hD := lx_dj hD hFc
        refine lv_if_ne (tgt := 265) hx hb d_Mo_makeRecord_259 (by decide) (fun c_35 => ?_) (fun c_35 => ?_)
        · have h := lf_f h c_35
          refine lv_aload_n hx hb d_Mo_makeRecord_265 rfl (lv_at hl 0 rfl) ?_
          refine lv_aload_n hx hb d_Mo_makeRecord_266 rfl (lv_at hl 0 rfl) ?_
          refine lv_iload_n hx hb d_Mo_makeRecord_267 rfl (lv_at hl 2 rfl) ?_
          obtain ⟨r_36, S_36, hc_36, h⟩ := lf_cE h
          have hFc := lx_free hD hS hA
          refine va_calli (va_runV (As := [.int y_2]) (rest := [.ref M.o]) ⟨hx, hb, hml, hown, hts⟩ (l_Mo_beginOf l dC dI X _ hc_36) (cwV 1 hts (gwV good_Mq (u_Mq_Mo _ k_Mo_124) (u_Mq_Mo _ k_Mo_125) (u_Mq_Mo _ k_Mo_490) (u_Mq_Mo _ k_Mo_0) (wcs (u_Mq_Mo _ k_Mo_126) (fun _ h => h))) rfl rfl rfl (by decide +kernel) ⟨Nat.le_of_ble_eq_true rfl, Nat.le_of_ble_eq_true rfl⟩) (pv_ofE (X.same _) (fun U z1 z2 => X.mono _ _ U hFc (hEw _ _ hS U z1 z2)) hP hK hD (va_recv hK hP (ci := 12) (q0 := 0) rfl rfl)) rfl rfl hl.1 rfl (lv_room (Nat.le_of_ble_eq_true rfl)) d_Mo_makeRecord_268 ⟨by decide, by decide⟩) hS (fun q _ h => hFc q h) hFc (fun r_ u t H locs ht hvm hw hB hz1 hk1 hS => ?_)
          rw [hw]
          obtain ⟨hP, -, hD⟩ := hB
          rw [ht] at hP
          have hD := lx_dj hD hFc
          obtain ⟨S_37, hc_37, h⟩ := lf_bE h
          have hFc := lx_free hD hS hA
          refine va_callv (va_runV (As := [.int r_36]) (rest := []) ⟨hx, hb, hml, hown, hts⟩ (l_Mo_walk l dC dI X _ hc_37) (cwV 1 hts (gwV good_Mq (u_Mq_Mo _ k_Mo_275) (u_Mq_Mo _ k_Mo_276) (u_Mq_Mo _ k_Mo_487) (u_Mq_Mo _ k_Mo_0) (wcs (u_Mq_Mo _ k_Mo_277) (fun _ h => h))) rfl rfl rfl (by decide +kernel) ⟨Nat.le_of_ble_eq_true rfl, Nat.le_of_ble_eq_true rfl⟩) (pv_ofE (X.same _) (fun U z1 z2 => X.mono _ _ U hFc (hEw _ _ hS U z1 z2)) hP hK hD (va_recv hK hP (ci := 12) (q0 := 0) rfl rfl)) rfl rfl hl.1 rfl (lv_room (Nat.le_of_ble_eq_true rfl)) d_Mo_makeRecord_271 ⟨by decide, by decide⟩) hS (fun q _ h => hFc q h) hFc (fun u t H locs ht hvm hw hB hz1 hk1 hS => ?_)
          obtain ⟨hP, -, hD⟩ := hB
          rw [ht] at hP
          have hD := lx_dj hD hFc
          refine lv_iconst (v := 0) hx hb d_Mo_makeRecord_274 (by decide) ?_
          refine lv_istore_n (lv' := [(3, .int 0), (0, .ref M.o), (1, .int y_1), (2, .int y_2)]) hx hb d_Mo_makeRecord_275 rfl hl (by decide) rfl (fun ls hl => ?_)
          exact hB_276 _ hr_246 K y_1 y_2 0 S_37 _ _ _ h hP hD hS (lv_sub hl [1, 2, 3, 0] rfl)
        · have h := lf_t h c_35
          refine lv_goto (tgt := 311) hx hb d_Mo_makeRecord_262 (by decide) ?_
          exact hB_311 _ hr_246 y_1 y_2 S_34 _ _ _ h hP hD hS (lv_sub hl [0, 1, 2] rfl)
  have hB_178 : ∀ (k : Nat), ∀ (y_1 : Int32) (y_2 : Int32) (S : MS) (H : Heap) (locs : List Loc) (ls : Array Slot), f_Mo_makeRecord_178 K k y_1 y_2 S = some S' → va_P (dC, dI) classes (wM M S) H → va_D A (wM M S) → va_S A s.heap H locs → lv_has ls 4 [(0, .ref M.o), (1, .int y_1), (2, .int y_2)] → W p l e ({ frames := 7, cells := 0, slots := 0, locals := 221 }) s m ([.ref M.o] : List Value).toArray below meth c H locs 0 0 Q (F0 m 178 ls []) := by
    intro k
    induction k with
    | zero => intro y_1 y_2 S H locs ls h; exact lf_no h
    | succ k hr_178 =>
      intro y_1 y_2 S H locs ls h hP hD hS hl
      rw [f_Mo_makeRecord_178] at h
      refine lv_iload_n hx hb d_Mo_makeRecord_178 rfl (lv_at hl 2 rfl) ?_
      refine lv_sipush (v := 512) hx hb d_Mo_makeRecord_179 (by decide) ?_
      refine lv_icmp_ge (tgt := 218) hx hb d_Mo_makeRecord_182 (by decide) (fun c_18 => ?_) (fun c_18 => ?_)
      · have h := lf_t h c_18
        refine lv_aload_n hx hb d_Mo_makeRecord_218 rfl (lv_at hl 0 rfl) ?_
        refine lv_sipush (v := 3588) hx hb d_Mo_makeRecord_219 (by decide) ?_
        refine lv_iconst (v := 4) hx hb d_Mo_makeRecord_222 (by decide) ?_
        refine lv_aload_n hx hb d_Mo_makeRecord_223 rfl (lv_at hl 0 rfl) ?_
        refine va_get (D := (dC, dI)) (ci := 12) (v := .int S.v_per) (C := R_Mo) (T := F_Mo) (N := 66) hx hb hts (fun w h => u_Mq_Mo w (i_Mo w h)) hown hK hP 0 rfl rfl 47 (by decide) (hts _ (u_Mq_Mo _ k_Mo_54)) (fun _ h9 => h9) rfl d_Mo_makeRecord_224 ?_
        refine lv_i2l hx hb d_Mo_makeRecord_227 rfl ?_
        obtain ⟨S_19, hc_19, h⟩ := lf_bE h
        have hFc := lx_free hD hS hA
        refine va_callv (va_runV (As := [.int 3588, .int 4, .long S.v_per.toInt64]) (rest := []) ⟨hx, hb, hml, hown, hts⟩ (l_Mo_lay l dC dI X _ hc_19) (cwV 3 hts (gwV good_Mq (u_Mq_Mo _ k_Mo_418) (u_Mq_Mo _ k_Mo_419) (u_Mq_Mo _ k_Mo_538) (u_Mq_Mo _ k_Mo_0) (wcs (u_Mq_Mo _ k_Mo_420) (fun _ h => h))) rfl rfl rfl (by decide +kernel) ⟨Nat.le_of_ble_eq_true rfl, Nat.le_of_ble_eq_true rfl⟩) (pv_ofE (X.same _) (fun U z1 z2 => X.mono _ _ U hFc (hEw _ _ hS U z1 z2)) hP hK hD (va_recv hK hP (ci := 12) (q0 := 0) rfl rfl)) rfl rfl hl.1 rfl (lv_room (Nat.le_of_ble_eq_true rfl)) d_Mo_makeRecord_228 ⟨by decide, by decide⟩) hS (fun q _ h => hFc q h) hFc (fun u t H locs ht hvm hw hB hz1 hk1 hS => ?_)
        obtain ⟨hP, -, hD⟩ := hB
        rw [ht] at hP
        have hD := lx_dj hD hFc
        refine lv_aload_n hx hb d_Mo_makeRecord_231 rfl (lv_at hl 0 rfl) ?_
        refine lv_sipush (v := 3592) hx hb d_Mo_makeRecord_232 (by decide) ?_
        refine lv_iconst (v := 4) hx hb d_Mo_makeRecord_235 (by decide) ?_
        refine lv_aload_n hx hb d_Mo_makeRecord_236 rfl (lv_at hl 0 rfl) ?_
        refine va_get (D := (dC, dI)) (ci := 12) (v := .int S_19.v_inodes) (C := R_Mo) (T := F_Mo) (N := 66) hx hb hts (fun w h => u_Mq_Mo w (i_Mo w h)) hown hK hP 0 rfl rfl 48 (by decide) (hts _ (u_Mq_Mo _ k_Mo_55)) (fun _ h9 => h9) rfl d_Mo_makeRecord_237 ?_
        refine lv_i2l hx hb d_Mo_makeRecord_240 rfl ?_
        obtain ⟨S_20, hc_20, h⟩ := lf_bE h
        have hFc := lx_free hD hS hA
        refine va_callv (va_runV (As := [.int 3592, .int 4, .long S_19.v_inodes.toInt64]) (rest := []) ⟨hx, hb, hml, hown, hts⟩ (l_Mo_lay l dC dI X _ hc_20) (cwV 3 hts (gwV good_Mq (u_Mq_Mo _ k_Mo_418) (u_Mq_Mo _ k_Mo_419) (u_Mq_Mo _ k_Mo_538) (u_Mq_Mo _ k_Mo_0) (wcs (u_Mq_Mo _ k_Mo_420) (fun _ h => h))) rfl rfl rfl (by decide +kernel) ⟨Nat.le_of_ble_eq_true rfl, Nat.le_of_ble_eq_true rfl⟩) (pv_ofE (X.same _) (fun U z1 z2 => X.mono _ _ U hFc (hEw _ _ hS U z1 z2)) hP hK hD (va_recv hK hP (ci := 12) (q0 := 0) rfl rfl)) rfl rfl hl.1 rfl (lv_room (Nat.le_of_ble_eq_true rfl)) d_Mo_makeRecord_241 ⟨by decide, by decide⟩) hS (fun q _ h => hFc q h) hFc (fun u t H locs ht hvm hw hB hz1 hk1 hS => ?_)
        obtain ⟨hP, -, hD⟩ := hB
        rw [ht] at hP
        have hD := lx_dj hD hFc
        refine lv_iconst (v := 0) hx hb d_Mo_makeRecord_244 (by decide) ?_
        refine lv_istore_n (lv' := [(2, .int 0), (0, .ref M.o), (1, .int y_1)]) hx hb d_Mo_makeRecord_245 rfl hl (by decide) rfl (fun ls hl => ?_)
        exact hB_246 K y_1 0 S_20 _ _ _ h hP hD hS (lv_sub hl [1, 2, 0] rfl)
      · have h := lf_f h c_18
        refine lv_aload_n hx hb d_Mo_makeRecord_185 rfl (lv_at hl 0 rfl) ?_
        refine va_get (D := (dC, dI)) (ci := 12) (v := .ref M.a_fresh) (C := R_Mo) (T := F_Mo) (N := 66) hx hb hts (fun w h => u_Mq_Mo w (i_Mo w h)) hown hK hP 0 rfl rfl 2 (by decide) (hts _ (u_Mq_Mo _ k_Mo_9)) (fun _ h9 => h9) rfl d_Mo_makeRecord_186 ?_
        refine lv_sipush (v := 3584) hx hb d_Mo_makeRecord_189 (by decide) ?_
        refine lv_iload_n hx hb d_Mo_makeRecord_192 rfl (lv_at hl 2 rfl) ?_
        refine lv_iadd hx hb d_Mo_makeRecord_193 ?_
        refine lv_iload_n hx hb d_Mo_makeRecord_194 rfl (lv_at hl 2 rfl) ?_
        refine lv_iconst (v := 4) hx hb d_Mo_makeRecord_195 (by decide) ?_
        refine lv_icmp_ge (tgt := 210) hx hb d_Mo_makeRecord_196 (by decide) (fun c_21 => ?_) (fun c_21 => ?_)
        · have h := lf_t h c_21
          refine lv_iconst (v := 0) hx hb d_Mo_makeRecord_210 (by decide) ?_
          exact hB_211 _ hr_178 y_1 y_2 (3584 + y_2) 0 S _ _ _ h hP hD hS (lv_sub hl [0, 1, 2] rfl)
        · have h := lf_f h c_21
          refine x_ldcW hx hb hown (X.str_529 A s hE) d_Mo_makeRecord_199 ?_
          refine lv_iload_n hx hb d_Mo_makeRecord_202 rfl (lv_at hl 2 rfl) ?_
          obtain ⟨x_22, hc_x_22, h⟩ := lf_bE h
          have hFc := lx_free0 hS hA
          refine va_calli (va_runV (As := [.int y_2]) (rest := [.int (3584 + y_2), .ref M.a_fresh]) ⟨hx, hb, hml, hown, hts⟩ (X.charAt_529 _ hc_x_22) (cwV 1 hts (gwV good_Mq (u_Mq_Mo _ k_Mo_261) (k_Mq_15) (k_Mq_16) (k_Mq_4) (wcs (k_Mq_17) (fun _ h => h))) rfl rfl rfl (by decide +kernel) ⟨Nat.le_of_ble_eq_true rfl, Nat.le_of_ble_eq_true rfl⟩) (pv_ofE (W := []) (tys := []) (X.same _) (fun U z1 z2 => X.mono _ _ U hFc (hEw _ _ hS U z1 z2)) (hP.sub (ws' := []) [] rfl) (hK.sub [] rfl) (hD.sub (ws' := []) [] (by decide) rfl) (X.recv_529 _ (lx_s s _) (hEw _ _ hS (lx_s s _) rfl (State.WarmedH.refl s)))) rfl rfl hl.1 rfl (lv_room (Nat.le_of_ble_eq_true rfl)) d_Mo_makeRecord_203 ⟨by decide, by decide⟩) hS (fun q _ h => hFc q h) hFc (fun r_ u t H locs ht hvm hw hB hz1 hk1 hS => ?_)
          rw [hw]
          have hP := lx_stat (A := A) hP hk1
          refine lv_i2b hx hb d_Mo_makeRecord_206 rfl ?_
          refine lv_goto (tgt := 211) hx hb d_Mo_makeRecord_207 (by decide) ?_
          exact hB_211 _ hr_178 y_1 y_2 (3584 + y_2) x_22.toInt8.toInt32 S _ _ _ h hP hD hS (lv_sub hl [0, 1, 2] rfl)
  have hB_104 : ∀ (k : Nat), ∀ (y_1 : Int32) (y_2 : Int32) (S : MS) (H : Heap) (locs : List Loc) (ls : Array Slot), f_Mo_makeRecord_104 K k y_1 y_2 S = some S' → va_P (dC, dI) classes (wM M S) H → va_D A (wM M S) → va_S A s.heap H locs → lv_has ls 4 [(0, .ref M.o), (1, .int y_1), (2, .int y_2)] → W p l e ({ frames := 7, cells := 0, slots := 0, locals := 221 }) s m ([.ref M.o] : List Value).toArray below meth c H locs 0 0 Q (F0 m 104 ls []) := by
    intro k
    induction k with
    | zero => intro y_1 y_2 S H locs ls h; exact lf_no h
    | succ k hr_104 =>
      intro y_1 y_2 S H locs ls h hP hD hS hl
      rw [f_Mo_makeRecord_104] at h
      refine lv_iload_n hx hb d_Mo_makeRecord_104 rfl (lv_at hl 2 rfl) ?_
      refine lv_aload_n hx hb d_Mo_makeRecord_105 rfl (lv_at hl 0 rfl) ?_
      refine va_get (D := (dC, dI)) (ci := 12) (v := .int S.v_a) (C := R_Mo) (T := F_Mo) (N := 66) hx hb hts (fun w h => u_Mq_Mo w (i_Mo w h)) hown hK hP 0 rfl rfl 16 (by decide) (hts _ (u_Mq_Mo _ k_Mo_23)) (fun _ h9 => h9) rfl d_Mo_makeRecord_106 ?_
      refine lv_iconst (v := 2) hx hb d_Mo_makeRecord_109 (by decide) ?_
      refine lv_idiv hx hb d_Mo_makeRecord_110 (by decide) ?_
      refine lv_icmp_ge (tgt := 176) hx hb d_Mo_makeRecord_111 (by decide) (fun c_5 => ?_) (fun c_5 => ?_)
      · have h := lf_t h c_5
        refine lv_iconst (v := 0) hx hb d_Mo_makeRecord_176 (by decide) ?_
        refine lv_istore_n (lv' := [(2, .int 0), (0, .ref M.o), (1, .int y_1)]) hx hb d_Mo_makeRecord_177 rfl hl (by decide) rfl (fun ls hl => ?_)
        exact hB_178 K y_1 0 S _ _ _ h hP hD hS (lv_sub hl [1, 2, 0] rfl)
      · have h := lf_f h c_5
        refine lv_aload_n hx hb d_Mo_makeRecord_114 rfl (lv_at hl 0 rfl) ?_
        refine va_get (D := (dC, dI)) (ci := 12) (v := .ref M.a_record) (C := R_Mo) (T := F_Mo) (N := 66) hx hb hts (fun w h => u_Mq_Mo w (i_Mo w h)) hown hK hP 0 rfl rfl 61 (by decide) (hts _ (u_Mq_Mo _ k_Mo_68)) (fun _ h9 => h9) rfl d_Mo_makeRecord_115 ?_
        refine lv_iload_n hx hb d_Mo_makeRecord_118 rfl (lv_at hl 1 rfl) ?_
        refine lv_iload_n hx hb d_Mo_makeRecord_119 rfl (lv_at hl 2 rfl) ?_
        obtain ⟨g_6, h⟩ := lf_gE h
        refine va_iast hx hb hK hP hD hS 26 25 rfl rfl g_6 d_Mo_makeRecord_120 (fun H locs hP hD hS => ?_)
        obtain ⟨S_7, eS_7, h⟩ := lf_lX h
        have hP := lx_newP eS_7 hP
        have hD := lx_newD eS_7 hD
        obtain ⟨x_8, ex_8, h⟩ := lf_lX h
        refine lv_iinc (v := x_8) (lv' := [(1, .int x_8), (0, .ref M.o), (2, .int y_2)]) hx hb d_Mo_makeRecord_121 hl (k := 1) rfl (by rw [ex_8]; rfl) (by decide) rfl (fun ls hl => ?_)
        refine lv_aload_n hx hb d_Mo_makeRecord_124 rfl (lv_at hl 1 rfl) ?_
        refine va_get (D := (dC, dI)) (ci := 12) (v := .ref M.a_used) (C := R_Mo) (T := F_Mo) (N := 66) hx hb hts (fun w h => u_Mq_Mo w (i_Mo w h)) hown hK hP 0 rfl rfl 52 (by decide) (hts _ (u_Mq_Mo _ k_Mo_59)) (fun _ h9 => h9) rfl d_Mo_makeRecord_125 ?_
        refine lv_iload_n hx hb d_Mo_makeRecord_128 rfl (lv_at hl 2 rfl) ?_
        refine lv_iconst (v := 1) hx hb d_Mo_makeRecord_129 (by decide) ?_
        obtain ⟨g_9, h⟩ := lf_gE h
        refine va_zast hx hb hK hP hD hS 22 21 rfl rfl g_9 d_Mo_makeRecord_130 (fun H locs hP hD hS => ?_)
        obtain ⟨S_10, eS_10, h⟩ := lf_lX h
        have hP := lx_newP eS_10 hP
        have hD := lx_newD eS_10 hD
        refine lv_iconst (v := 0) hx hb d_Mo_makeRecord_131 (by decide) ?_
        refine lv_istore_n (lv' := [(3, .int 0), (1, .int x_8), (0, .ref M.o), (2, .int y_2)]) hx hb d_Mo_makeRecord_132 rfl hl (by decide) rfl (fun ls hl => ?_)
        exact hB_133 _ hr_104 K x_8 y_2 0 S_10 _ _ _ h hP hD hS (lv_sub hl [2, 1, 3, 0] rfl)
  have hB_2 : ∀ (k : Nat), ∀ (y_1 : Int32) (S : MS) (H : Heap) (locs : List Loc) (ls : Array Slot), f_Mo_makeRecord_2 K k y_1 S = some S' → va_P (dC, dI) classes (wM M S) H → va_D A (wM M S) → va_S A s.heap H locs → lv_has ls 4 [(0, .ref M.o), (1, .int y_1)] → W p l e ({ frames := 7, cells := 0, slots := 0, locals := 221 }) s m ([.ref M.o] : List Value).toArray below meth c H locs 0 0 Q (F0 m 2 ls []) := by
    intro k
    induction k with
    | zero => intro y_1 S H locs ls h; exact lf_no h
    | succ k hr_2 =>
      intro y_1 S H locs ls h hP hD hS hl
      rw [f_Mo_makeRecord_2] at h
      refine lv_iload_n hx hb d_Mo_makeRecord_2 rfl (lv_at hl 1 rfl) ?_
      refine lv_iconst (v := 3) hx hb d_Mo_makeRecord_3 (by decide) ?_
      refine lv_icmp_ge (tgt := 100) hx hb d_Mo_makeRecord_4 (by decide) (fun c_1 => ?_) (fun c_1 => ?_)
      · have h := lf_t h c_1
        refine lv_iconst (v := 3) hx hb d_Mo_makeRecord_100 (by decide) ?_
        refine lv_istore_n (lv' := [(1, .int 3), (0, .ref M.o)]) hx hb d_Mo_makeRecord_101 rfl hl (by decide) rfl (fun ls hl => ?_)
        refine lv_iconst (v := 3) hx hb d_Mo_makeRecord_102 (by decide) ?_
        refine lv_istore_n (lv' := [(2, .int 3), (1, .int 3), (0, .ref M.o)]) hx hb d_Mo_makeRecord_103 rfl hl (by decide) rfl (fun ls hl => ?_)
        exact hB_104 K 3 3 S _ _ _ h hP hD hS (lv_sub hl [2, 1, 0] rfl)
      · have h := lf_f h c_1
        refine lv_aload_n hx hb d_Mo_makeRecord_7 rfl (lv_at hl 0 rfl) ?_
        refine va_get (D := (dC, dI)) (ci := 12) (v := .ref M.a_record) (C := R_Mo) (T := F_Mo) (N := 66) hx hb hts (fun w h => u_Mq_Mo w (i_Mo w h)) hown hK hP 0 rfl rfl 61 (by decide) (hts _ (u_Mq_Mo _ k_Mo_68)) (fun _ h9 => h9) rfl d_Mo_makeRecord_8 ?_
        refine lv_iload_n hx hb d_Mo_makeRecord_11 rfl (lv_at hl 1 rfl) ?_
        refine lv_aload_n hx hb d_Mo_makeRecord_12 rfl (lv_at hl 0 rfl) ?_
        obtain ⟨r_2, S_2, hc_2, h⟩ := lf_cE h
        have hFc := lx_free hD hS hA
        refine va_calli (va_runV (As := []) (rest := [.int y_1, .ref M.a_record]) ⟨hx, hb, hml, hown, hts⟩ (l_Mo_build l dC dI X _ hc_2) (cwV 0 hts (gwV good_Mq (u_Mq_Mo _ k_Mo_415) (u_Mq_Mo _ k_Mo_416) (u_Mq_Mo _ k_Mo_539) (u_Mq_Mo _ k_Mo_0) (wcs (u_Mq_Mo _ k_Mo_417) (fun _ h => h))) rfl rfl rfl (by decide +kernel) ⟨Nat.le_of_ble_eq_true rfl, Nat.le_of_ble_eq_true rfl⟩) (pv_ofE (X.same _) (fun U z1 z2 => X.mono _ _ U hFc (hEw _ _ hS U z1 z2)) hP hK hD (va_recv hK hP (ci := 12) (q0 := 0) rfl rfl)) rfl rfl hl.1 rfl (lv_room (Nat.le_of_ble_eq_true rfl)) d_Mo_makeRecord_13 ⟨by decide, by decide⟩) hS (fun q _ h => hFc q h) hFc (fun r_ u t H locs ht hvm hw hB hz1 hk1 hS => ?_)
        rw [hw]
        obtain ⟨hP, -, hD⟩ := hB
        rw [ht] at hP
        have hD := lx_dj hD hFc
        obtain ⟨g_3, h⟩ := lf_gE h
        refine va_iast hx hb hK hP hD hS 26 25 rfl rfl g_3 d_Mo_makeRecord_16 (fun H locs hP hD hS => ?_)
        obtain ⟨S_4, eS_4, h⟩ := lf_lX h
        have hP := lx_newP eS_4 hP
        have hD := lx_newD eS_4 hD
        refine lv_iconst (v := 0) hx hb d_Mo_makeRecord_17 (by decide) ?_
        refine lv_istore_n (lv' := [(2, .int 0), (0, .ref M.o), (1, .int y_1)]) hx hb d_Mo_makeRecord_18 rfl hl (by decide) rfl (fun ls hl => ?_)
        exact hB_19 _ hr_2 K y_1 0 S_4 _ _ _ h hP hD hS (lv_sub hl [1, 2, 0] rfl)
  rw [f_Mo_makeRecord] at h
  refine lv_iconst (v := 0) hx hb d_Mo_makeRecord_0 (by decide) ?_
  refine lv_istore_n (lv' := [(1, .int 0), (0, .ref M.o)]) hx hb d_Mo_makeRecord_1 rfl hl (by decide) rfl (fun ls hl => ?_)
  exact hB_2 K 0 S _ _ _ h hP hD hS (lv_sub hl [1, 0] rfl)
