set_option maxHeartbeats 4000000 in
set_option maxRecDepth 100000 in
theorem l_Mo_none (l : Launch) (dC : Nat → ClassId) (dI : Nat → Nat → Nat) {K : Nat} {M : MA} {E : (Nat → Prop) → State → Prop} (X : lx_X l dC dI K M E) (sz : Nat) {S S' : MS} {r : Int32} (h : f_Mo_none K S = some (r, S')) : Met l y_Mo_none (.code y_Mo_none b_Mo_none 1 (some .boolean) :: V_Mq) ({ frames := 12, cells := 0, slots := 0, locals := 339 }) (va_Pc [.ref M.o] (fun U => U.heap.size = sz ∧ at_ (dC, dI) (fun _ => True) (wM M S) (tM M) U ∧ E (va_A (wM M S) sz) U)) (va_Qi (fun (r_ : Int32) (u : Unit) => r_ = r) (fun (u : Unit) t => at_ (dC, dI) (va_A (wM M S) sz) (wM M S') (tM M) t) (va_A (wM M S) sz)) 0 0 (va_A (wM M S) sz) := by
  refine Met.ofW (cc := b_Mo_none) (maxL := 1) (ret := (some .boolean)) (by decide) rfl ?_
  intro p e s m args below meth c s₁ B hml hv
  obtain ⟨rfl, hsz, ⟨hP, hK, hD0⟩, hE⟩ := hv
  have hx := B.exec
  have hb := B.bytes
  have hr := B.returns
  have hts0 := atoms_spec (ws := .code y_Mo_none b_Mo_none 1 (some .boolean) :: V_Mq) B.pre
  have hts : ∀ w ∈ V_Mq, w.before ([.ref M.o] : List Value).toArray s = true := fun w h => hts0 w (List.mem_cons_of_mem _ h)
  have hown : s.vm.findClass R_Mo = some m.cls := findClass_of_methodNamed B.named
  subst hsz
  have hD := hD0.self (sz := s.heap.size)
  generalize hAe : va_A (wM M S) s.heap.size = A at hD hE ⊢
  have hA : ∀ q : Nat, s.heap.size ≤ q → A q := fun q h => by rw [← hAe]; exact Or.inr h
  have hS : va_S A s.heap s.heap [] := va_S.rf
  have hP : va_P (dC, dI) classes (wM M S) s.heap := hP
  have hK : va_K (dC, dI) classes (tM M) s := hK
  have hEw : ∀ (H : Heap) (locs : List Loc), va_S A s.heap H locs → ∀ U : State, U.heap = H → s.WarmedH U.vm → E A U := fun H locs hS U hU hW => X.kept A s U H locs hE hS hU hW
  have hl := lv_entry ([.ref M.o]) (n := 1) (Nat.le_of_ble_eq_true rfl)
  rw [lg_entry_eq]
  generalize (lg_sl ([.ref M.o]) ++ List.replicate (1 - (lg_sl ([.ref M.o])).length) Slot.unset).toArray = ls at hl ⊢
  have hl : lv_has ls 1 [(0, .ref M.o)] := hl
  refine qabs (fun Q hQ => ?_)
  have hB_29 : ∀ (z_1 : Int32) (S : MS) (H : Heap) (locs : List Loc) (ls : Array Slot), f_Mo_none_29 K z_1 S = some (r, S') → va_P (dC, dI) classes (wM M S) H → va_D A (wM M S) → va_S A s.heap H locs → lv_has ls 1 [] → W p l e ({ frames := 12, cells := 0, slots := 0, locals := 339 }) s m ([.ref M.o] : List Value).toArray below meth c H locs 0 0 Q (F0 m 29 ls [.int z_1, .ref M.o]) := by
    intro z_1 S H locs ls h hP hD hS hl
    rw [f_Mo_none_29] at h
    refine lv_iconst (v := 1) hx hb d_Mo_none_29 (by decide) ?_
    obtain ⟨r_5, S_5, hc_5, h⟩ := lf_cE h
    have hFc := lx_free hD hS hA
    refine va_calli (va_runV (As := [.int z_1, .int 1]) (rest := []) ⟨hx, hb, hml, hown, hts⟩ (l_Mo_fails l dC dI X _ hc_5) (cwV 2 hts (gwV good_Mq (u_Mq_Mo _ k_Mo_217) (u_Mq_Mo _ k_Mo_218) (u_Mq_Mo _ k_Mo_474) (u_Mq_Mo _ k_Mo_0) (wcs (u_Mq_Mo _ k_Mo_219) (fun _ h => h))) rfl rfl rfl (by decide +kernel) ⟨Nat.le_of_ble_eq_true rfl, Nat.le_of_ble_eq_true rfl⟩) (pv_ofE (X.same _) (fun U z1 z2 => X.mono _ _ U hFc (hEw _ _ hS U z1 z2)) hP hK hD (va_recv hK hP (ci := 12) (q0 := 0) rfl rfl)) rfl rfl hl.1 rfl (lv_room (Nat.le_of_ble_eq_true rfl)) d_Mo_none_30 ⟨by decide, by decide⟩) hS (fun q _ h => hFc q h) hFc (fun r_ u t H locs ht hvm hw hB hz1 hk1 hS => ?_)
    rw [hw]
    obtain ⟨hP, -, hD⟩ := hB
    rw [ht] at hP
    have hD := lx_dj hD hFc
    obtain ⟨g_6, h⟩ := lf_gE h
    rw [hQ]
    have e1 : r_5 = r := congrArg Prod.fst (Option.some.inj h)
    have e2 : S_5 = S' := congrArg Prod.snd (Option.some.inj h)
    have hP := lx_newP e2.symm hP
    have hD := lx_newD e2.symm hD
    exact W.zret (v := r_5) hx hb hr (lf_nz g_6) (fun t ht hW => ⟨⟨r_5, (), rfl, e1, by rw [ht]; exact hP, va_K.moved hW.alike hK, hD⟩, hS.F ht⟩) hS.2.2 d_Mo_none_33
  have hB_28 : ∀ (S : MS) (H : Heap) (locs : List Loc) (ls : Array Slot), f_Mo_none_28 K S = some (r, S') → va_P (dC, dI) classes (wM M S) H → va_D A (wM M S) → va_S A s.heap H locs → lv_has ls 1 [] → W p l e ({ frames := 12, cells := 0, slots := 0, locals := 339 }) s m ([.ref M.o] : List Value).toArray below meth c H locs 0 0 Q (F0 m 28 ls [.ref M.o]) := by
    intro S H locs ls h hP hD hS hl
    rw [f_Mo_none_28] at h
    refine lv_iconst (v := 0) hx hb d_Mo_none_28 (by decide) ?_
    exact hB_29 0 S _ _ _ h hP hD hS (lv_sub hl [] rfl)
  rw [f_Mo_none] at h
  refine lv_aload_n hx hb d_Mo_none_0 rfl (lv_at hl 0 rfl) ?_
  refine lv_iconst (v := 0) hx hb d_Mo_none_1 (by decide) ?_
  refine va_put (D := (dC, dI)) (ci := 12) (v := .int 0) (ty := .int) (C := R_Mo) (T := F_Mo) (N := 66) hx hb hts (fun w h => u_Mq_Mo w (i_Mo w h)) t_Mo t_Mo_ok n_Mo hown hK hP hD hS 0 rfl rfl 6 (by decide) (hts _ (u_Mq_Mo _ k_Mo_13)) (fun _ h9 => h9) rfl (by decide +kernel) rfl rfl (Nat.le_of_ble_eq_true rfl) d_Mo_none_2 (fun H locs hP hD hS => ?_)
  obtain ⟨S_1, eS_1, h⟩ := lf_lX h
  have hP := lx_newP eS_1 hP
  have hD := lx_newD eS_1 hD
  refine lv_aload_n hx hb d_Mo_none_5 rfl (lv_at hl 0 rfl) ?_
  obtain ⟨S_2, hc_2, h⟩ := lf_bE h
  have hFc := lx_free hD hS hA
  refine va_callv (va_runV (As := []) (rest := []) ⟨hx, hb, hml, hown, hts⟩ (l_Mo_look l dC dI X _ hc_2) (cwV 0 hts (gwV good_Mq (u_Mq_Mo _ k_Mo_88) (u_Mq_Mo _ k_Mo_89) (u_Mq_Mo _ k_Mo_492) (u_Mq_Mo _ k_Mo_0) (wcs (u_Mq_Mo _ k_Mo_90) (fun _ h => h))) rfl rfl rfl (by decide +kernel) ⟨Nat.le_of_ble_eq_true rfl, Nat.le_of_ble_eq_true rfl⟩) (pv_ofE (X.same _) (fun U z1 z2 => X.mono _ _ U hFc (hEw _ _ hS U z1 z2)) hP hK hD (va_recv hK hP (ci := 12) (q0 := 0) rfl rfl)) rfl rfl hl.1 rfl (lv_room (Nat.le_of_ble_eq_true rfl)) d_Mo_none_6 ⟨by decide, by decide⟩) hS (fun q _ h => hFc q h) hFc (fun u t H locs ht hvm hw hB hz1 hk1 hS => ?_)
  obtain ⟨hP, -, hD⟩ := hB
  rw [ht] at hP
  have hD := lx_dj hD hFc
  refine lv_aload_n hx hb d_Mo_none_9 rfl (lv_at hl 0 rfl) ?_
  refine lv_aload_n hx hb d_Mo_none_10 rfl (lv_at hl 0 rfl) ?_
  refine va_get (D := (dC, dI)) (ci := 12) (v := .int S_2.v_turned) (C := R_Mo) (T := F_Mo) (N := 66) hx hb hts (fun w h => u_Mq_Mo w (i_Mo w h)) hown hK hP 0 rfl rfl 9 (by decide) (hts _ (u_Mq_Mo _ k_Mo_16)) (fun _ h9 => h9) rfl d_Mo_none_11 ?_
  refine lv_if_ne (tgt := 28) hx hb d_Mo_none_14 (by decide) (fun c_3 => ?_) (fun c_3 => ?_)
  · have h := lf_f h c_3
    exact hB_28 S_2 _ _ _ h hP hD hS (lv_sub hl [] rfl)
  · have h := lf_t h c_3
    refine lv_aload_n hx hb d_Mo_none_17 rfl (lv_at hl 0 rfl) ?_
    refine va_get (D := (dC, dI)) (ci := 12) (v := .int S_2.v_fault) (C := R_Mo) (T := F_Mo) (N := 66) hx hb hts (fun w h => u_Mq_Mo w (i_Mo w h)) hown hK hP 0 rfl rfl 20 (by decide) (hts _ (u_Mq_Mo _ k_Mo_27)) (fun _ h9 => h9) rfl d_Mo_none_18 ?_
    refine lv_if_le (tgt := 28) hx hb d_Mo_none_21 (by decide) (fun c_4 => ?_) (fun c_4 => ?_)
    · have h := lf_t h c_4
      exact hB_28 S_2 _ _ _ h hP hD hS (lv_sub hl [] rfl)
    · have h := lf_f h c_4
      refine lv_iconst (v := 1) hx hb d_Mo_none_24 (by decide) ?_
      refine lv_goto (tgt := 29) hx hb d_Mo_none_25 (by decide) ?_
      exact hB_29 1 S_2 _ _ _ h hP hD hS (lv_sub hl [] rfl)
set_option maxHeartbeats 4000000 in
set_option maxRecDepth 100000 in
theorem l_Mo_folderHere (l : Launch) (dC : Nat → ClassId) (dI : Nat → Nat → Nat) {K : Nat} {M : MA} {E : (Nat → Prop) → State → Prop} (X : lx_X l dC dI K M E) (sz : Nat) {S S' : MS} {r : Int32} (h : f_Mo_folderHere K S = some (r, S')) : Met l y_Mo_folderHere (.code y_Mo_folderHere b_Mo_folderHere 2 (some .int) :: V_Mq) ({ frames := 3, cells := 0, slots := 0, locals := 63 }) (va_Pc [.ref M.o] (fun U => U.heap.size = sz ∧ at_ (dC, dI) (fun _ => True) (wM M S) (tM M) U ∧ E (va_A (wM M S) sz) U)) (va_Qi (fun (r_ : Int32) (u : Unit) => r_ = r) (fun (u : Unit) t => at_ (dC, dI) (va_A (wM M S) sz) (wM M S') (tM M) t) (va_A (wM M S) sz)) 0 0 (va_A (wM M S) sz) := by
  refine Met.ofW (cc := b_Mo_folderHere) (maxL := 2) (ret := (some .int)) (by decide) rfl ?_
  intro p e s m args below meth c s₁ B hml hv
  obtain ⟨rfl, hsz, ⟨hP, hK, hD0⟩, hE⟩ := hv
  have hx := B.exec
  have hb := B.bytes
  have hr := B.returns
  have hts0 := atoms_spec (ws := .code y_Mo_folderHere b_Mo_folderHere 2 (some .int) :: V_Mq) B.pre
  have hts : ∀ w ∈ V_Mq, w.before ([.ref M.o] : List Value).toArray s = true := fun w h => hts0 w (List.mem_cons_of_mem _ h)
  have hown : s.vm.findClass R_Mo = some m.cls := findClass_of_methodNamed B.named
  subst hsz
  have hD := hD0.self (sz := s.heap.size)
  generalize hAe : va_A (wM M S) s.heap.size = A at hD hE ⊢
  have hA : ∀ q : Nat, s.heap.size ≤ q → A q := fun q h => by rw [← hAe]; exact Or.inr h
  have hS : va_S A s.heap s.heap [] := va_S.rf
  have hP : va_P (dC, dI) classes (wM M S) s.heap := hP
  have hK : va_K (dC, dI) classes (tM M) s := hK
  have hEw : ∀ (H : Heap) (locs : List Loc), va_S A s.heap H locs → ∀ U : State, U.heap = H → s.WarmedH U.vm → E A U := fun H locs hS U hU hW => X.kept A s U H locs hE hS hU hW
  have hl := lv_entry ([.ref M.o]) (n := 2) (Nat.le_of_ble_eq_true rfl)
  rw [lg_entry_eq]
  generalize (lg_sl ([.ref M.o]) ++ List.replicate (2 - (lg_sl ([.ref M.o])).length) Slot.unset).toArray = ls at hl ⊢
  have hl : lv_has ls 2 [(0, .ref M.o)] := hl
  refine qabs (fun Q hQ => ?_)
  have hB_46 : ∀ (rec_11 : Int32 → MS → Option (Int32 × MS)) (hr_11 : ∀ (y_1 : Int32) (S : MS) (H : Heap) (locs : List Loc) (ls : Array Slot), rec_11 y_1 S = some (r, S') → va_P (dC, dI) classes (wM M S) H → va_D A (wM M S) → va_S A s.heap H locs → lv_has ls 2 [(0, .ref M.o), (1, .int y_1)] → W p l e ({ frames := 3, cells := 0, slots := 0, locals := 63 }) s m ([.ref M.o] : List Value).toArray below meth c H locs 0 0 Q (F0 m 11 ls [])), ∀ (y_1 : Int32) (S : MS) (H : Heap) (locs : List Loc) (ls : Array Slot), f_Mo_folderHere_46 K rec_11 y_1 S = some (r, S') → va_P (dC, dI) classes (wM M S) H → va_D A (wM M S) → va_S A s.heap H locs → lv_has ls 2 [(0, .ref M.o), (1, .int y_1)] → W p l e ({ frames := 3, cells := 0, slots := 0, locals := 63 }) s m ([.ref M.o] : List Value).toArray below meth c H locs 0 0 Q (F0 m 46 ls []) := by
    intro rec_11 hr_11 y_1 S H locs ls h hP hD hS hl
    rw [f_Mo_folderHere_46] at h
    obtain ⟨x_8, ex_8, h⟩ := lf_lX h
    refine lv_iinc (v := x_8) (lv' := [(1, .int x_8), (0, .ref M.o)]) hx hb d_Mo_folderHere_46 hl (k := 1) rfl (by rw [ex_8]; rfl) (by decide) rfl (fun ls hl => ?_)
    refine lv_goto (tgt := 11) hx hb d_Mo_folderHere_49 (by decide) ?_
    exact hr_11 x_8 S _ _ _ h hP hD hS (lv_sub hl [1, 0] rfl)
  have hB_11 : ∀ (k : Nat), ∀ (y_1 : Int32) (S : MS) (H : Heap) (locs : List Loc) (ls : Array Slot), f_Mo_folderHere_11 K k y_1 S = some (r, S') → va_P (dC, dI) classes (wM M S) H → va_D A (wM M S) → va_S A s.heap H locs → lv_has ls 2 [(0, .ref M.o), (1, .int y_1)] → W p l e ({ frames := 3, cells := 0, slots := 0, locals := 63 }) s m ([.ref M.o] : List Value).toArray below meth c H locs 0 0 Q (F0 m 11 ls []) := by
    intro k
    induction k with
    | zero => intro y_1 S H locs ls h; exact lf_no h
    | succ k hr_11 =>
      intro y_1 S H locs ls h hP hD hS hl
      rw [f_Mo_folderHere_11] at h
      refine lv_iload_n hx hb d_Mo_folderHere_11 rfl (lv_at hl 1 rfl) ?_
      refine lv_aload_n hx hb d_Mo_folderHere_12 rfl (lv_at hl 0 rfl) ?_
      refine va_get (D := (dC, dI)) (ci := 12) (v := .int S.v_items) (C := R_Mo) (T := F_Mo) (N := 66) hx hb hts (fun w h => u_Mq_Mo w (i_Mo w h)) hown hK hP 0 rfl rfl 21 (by decide) (hts _ (u_Mq_Mo _ k_Mo_28)) (fun _ h9 => h9) rfl d_Mo_folderHere_13 ?_
      refine lv_icmp_ge (tgt := 52) hx hb d_Mo_folderHere_16 (by decide) (fun c_2 => ?_) (fun c_2 => ?_)
      · have h := lf_t h c_2
        refine lv_iconst (v := 0) hx hb d_Mo_folderHere_52 (by decide) ?_
        rw [hQ]
        have e1 : (0 : Int32) = r := congrArg Prod.fst (Option.some.inj h)
        have e2 : S = S' := congrArg Prod.snd (Option.some.inj h)
        have hP := lx_newP e2.symm hP
        have hD := lx_newD e2.symm hD
        exact W.iret (v := 0) hx hb hr (fun t ht hW => ⟨⟨0, (), rfl, e1, by rw [ht]; exact hP, va_K.moved hW.alike hK, hD⟩, hS.F ht⟩) hS.2.2 d_Mo_folderHere_53
      · have h := lf_f h c_2
        refine lv_aload_n hx hb d_Mo_folderHere_19 rfl (lv_at hl 0 rfl) ?_
        refine lv_iload_n hx hb d_Mo_folderHere_20 rfl (lv_at hl 1 rfl) ?_
        obtain ⟨r_3, S_3, hc_3, h⟩ := lf_cE h
        have hFc := lx_free hD hS hA
        refine va_calli (va_runV (As := [.int y_1]) (rest := []) ⟨hx, hb, hml, hown, hts⟩ (l_Mo_isFolder l dC dI X _ hc_3) (cwV 1 hts (gwV good_Mq (u_Mq_Mo _ k_Mo_118) (u_Mq_Mo _ k_Mo_119) (u_Mq_Mo _ k_Mo_489) (u_Mq_Mo _ k_Mo_0) (wcs (u_Mq_Mo _ k_Mo_120) (fun _ h => h))) rfl rfl rfl (by decide +kernel) ⟨Nat.le_of_ble_eq_true rfl, Nat.le_of_ble_eq_true rfl⟩) (pv_ofE (X.same _) (fun U z1 z2 => X.mono _ _ U hFc (hEw _ _ hS U z1 z2)) hP hK hD (va_recv hK hP (ci := 12) (q0 := 0) rfl rfl)) rfl rfl hl.1 rfl (lv_room (Nat.le_of_ble_eq_true rfl)) d_Mo_folderHere_21 ⟨by decide, by decide⟩) hS (fun q _ h => hFc q h) hFc (fun r_ u t H locs ht hvm hw hB hz1 hk1 hS => ?_)
        rw [hw]
        obtain ⟨hP, -, hD⟩ := hB
        rw [ht] at hP
        have hD := lx_dj hD hFc
        refine lv_if_eq (tgt := 46) hx hb d_Mo_folderHere_24 (by decide) (fun c_4 => ?_) (fun c_4 => ?_)
        · have h := lf_t h c_4
          exact hB_46 _ hr_11 y_1 S_3 _ _ _ h hP hD hS (lv_sub hl [0, 1] rfl)
        · have h := lf_f h c_4
          refine lv_aload_n hx hb d_Mo_folderHere_27 rfl (lv_at hl 0 rfl) ?_
          refine lv_aload_n hx hb d_Mo_folderHere_28 rfl (lv_at hl 0 rfl) ?_
          refine va_get (D := (dC, dI)) (ci := 12) (v := .ref M.a_at) (C := R_Mo) (T := F_Mo) (N := 66) hx hb hts (fun w h => u_Mq_Mo w (i_Mo w h)) hown hK hP 0 rfl rfl 24 (by decide) (hts _ (u_Mq_Mo _ k_Mo_31)) (fun _ h9 => h9) rfl d_Mo_folderHere_29 ?_
          refine lv_iload_n hx hb d_Mo_folderHere_32 rfl (lv_at hl 1 rfl) ?_
          obtain ⟨g_5, h⟩ := lf_gE h
          refine va_iald hx hb hK hP 6 5 rfl rfl g_5 d_Mo_folderHere_33 ?_
          obtain ⟨r_6, S_6, hc_6, h⟩ := lf_cE h
          have hFc := lx_free hD hS hA
          refine va_calli (va_runV (As := [.int (S_3.v_at y_1.toNatClampNeg)]) (rest := []) ⟨hx, hb, hml, hown, hts⟩ (l_Mo_firstOf l dC dI X _ hc_6) (cwV 1 hts (gwV good_Mq (u_Mq_Mo _ k_Mo_127) (u_Mq_Mo _ k_Mo_128) (u_Mq_Mo _ k_Mo_488) (u_Mq_Mo _ k_Mo_0) (wcs (u_Mq_Mo _ k_Mo_129) (fun _ h => h))) rfl rfl rfl (by decide +kernel) ⟨Nat.le_of_ble_eq_true rfl, Nat.le_of_ble_eq_true rfl⟩) (pv_ofE (X.same _) (fun U z1 z2 => X.mono _ _ U hFc (hEw _ _ hS U z1 z2)) hP hK hD (va_recv hK hP (ci := 12) (q0 := 0) rfl rfl)) rfl rfl hl.1 rfl (lv_room (Nat.le_of_ble_eq_true rfl)) d_Mo_folderHere_34 ⟨by decide, by decide⟩) hS (fun q _ h => hFc q h) hFc (fun r_ u t H locs ht hvm hw hB hz1 hk1 hS => ?_)
          rw [hw]
          obtain ⟨hP, -, hD⟩ := hB
          rw [ht] at hP
          have hD := lx_dj hD hFc
          refine lv_aload_n hx hb d_Mo_folderHere_37 rfl (lv_at hl 0 rfl) ?_
          refine va_get (D := (dC, dI)) (ci := 12) (v := .int S_6.v_here) (C := R_Mo) (T := F_Mo) (N := 66) hx hb hts (fun w h => u_Mq_Mo w (i_Mo w h)) hown hK hP 0 rfl rfl 18 (by decide) (hts _ (u_Mq_Mo _ k_Mo_25)) (fun _ h9 => h9) rfl d_Mo_folderHere_38 ?_
          refine lv_icmp_ne (tgt := 46) hx hb d_Mo_folderHere_41 (by decide) (fun c_7 => ?_) (fun c_7 => ?_)
          · have h := lf_f h c_7
            exact hB_46 _ hr_11 y_1 S_6 _ _ _ h hP hD hS (lv_sub hl [0, 1] rfl)
          · have h := lf_t h c_7
            refine lv_iload_n hx hb d_Mo_folderHere_44 rfl (lv_at hl 1 rfl) ?_
            rw [hQ]
            have e1 : y_1 = r := congrArg Prod.fst (Option.some.inj h)
            have e2 : S_6 = S' := congrArg Prod.snd (Option.some.inj h)
            have hP := lx_newP e2.symm hP
            have hD := lx_newD e2.symm hD
            exact W.iret (v := y_1) hx hb hr (fun t ht hW => ⟨⟨y_1, (), rfl, e1, by rw [ht]; exact hP, va_K.moved hW.alike hK, hD⟩, hS.F ht⟩) hS.2.2 d_Mo_folderHere_45
  rw [f_Mo_folderHere] at h
  refine lv_aload_n hx hb d_Mo_folderHere_0 rfl (lv_at hl 0 rfl) ?_
  refine va_get (D := (dC, dI)) (ci := 12) (v := .int S.v_here) (C := R_Mo) (T := F_Mo) (N := 66) hx hb hts (fun w h => u_Mq_Mo w (i_Mo w h)) hown hK hP 0 rfl rfl 18 (by decide) (hts _ (u_Mq_Mo _ k_Mo_25)) (fun _ h9 => h9) rfl d_Mo_folderHere_1 ?_
  refine lv_if_ne (tgt := 9) hx hb d_Mo_folderHere_4 (by decide) (fun c_1 => ?_) (fun c_1 => ?_)
  · have h := lf_f h c_1
    refine lv_iconst (v := 1) hx hb d_Mo_folderHere_9 (by decide) ?_
    refine lv_istore_n (lv' := [(1, .int 1), (0, .ref M.o)]) hx hb d_Mo_folderHere_10 rfl hl (by decide) rfl (fun ls hl => ?_)
    exact hB_11 K 1 S _ _ _ h hP hD hS (lv_sub hl [1, 0] rfl)
  · have h := lf_t h c_1
    refine lv_iconst (v := 0) hx hb d_Mo_folderHere_7 (by decide) ?_
    rw [hQ]
    have e1 : (0 : Int32) = r := congrArg Prod.fst (Option.some.inj h)
    have e2 : S = S' := congrArg Prod.snd (Option.some.inj h)
    have hP := lx_newP e2.symm hP
    have hD := lx_newD e2.symm hD
    exact W.iret (v := 0) hx hb hr (fun t ht hW => ⟨⟨0, (), rfl, e1, by rw [ht]; exact hP, va_K.moved hW.alike hK, hD⟩, hS.F ht⟩) hS.2.2 d_Mo_folderHere_8
set_option maxHeartbeats 4000000 in
set_option maxRecDepth 100000 in
theorem l_Mo_many (l : Launch) (dC : Nat → ClassId) (dI : Nat → Nat → Nat) {K : Nat} {M : MA} {E : (Nat → Prop) → State → Prop} (X : lx_X l dC dI K M E) (sz : Nat) {S S' : MS} {r : Int32} (h : f_Mo_many K S = some (r, S')) : Met l y_Mo_many (.code y_Mo_many b_Mo_many 1 (some .int) :: V_Mq) ({ frames := 4, cells := 0, slots := 0, locals := 84 }) (va_Pc [.ref M.o] (fun U => U.heap.size = sz ∧ at_ (dC, dI) (fun _ => True) (wM M S) (tM M) U ∧ E (va_A (wM M S) sz) U)) (va_Qi (fun (r_ : Int32) (u : Unit) => r_ = r) (fun (u : Unit) t => at_ (dC, dI) (va_A (wM M S) sz) (wM M S') (tM M) t) (va_A (wM M S) sz)) 0 0 (va_A (wM M S) sz) := by
  refine Met.ofW (cc := b_Mo_many) (maxL := 1) (ret := (some .int)) (by decide) rfl ?_
  intro p e s m args below meth c s₁ B hml hv
  obtain ⟨rfl, hsz, ⟨hP, hK, hD0⟩, hE⟩ := hv
  have hx := B.exec
  have hb := B.bytes
  have hr := B.returns
  have hts0 := atoms_spec (ws := .code y_Mo_many b_Mo_many 1 (some .int) :: V_Mq) B.pre
  have hts : ∀ w ∈ V_Mq, w.before ([.ref M.o] : List Value).toArray s = true := fun w h => hts0 w (List.mem_cons_of_mem _ h)
  have hown : s.vm.findClass R_Mo = some m.cls := findClass_of_methodNamed B.named
  subst hsz
  have hD := hD0.self (sz := s.heap.size)
  generalize hAe : va_A (wM M S) s.heap.size = A at hD hE ⊢
  have hA : ∀ q : Nat, s.heap.size ≤ q → A q := fun q h => by rw [← hAe]; exact Or.inr h
  have hS : va_S A s.heap s.heap [] := va_S.rf
  have hP : va_P (dC, dI) classes (wM M S) s.heap := hP
  have hK : va_K (dC, dI) classes (tM M) s := hK
  have hEw : ∀ (H : Heap) (locs : List Loc), va_S A s.heap H locs → ∀ U : State, U.heap = H → s.WarmedH U.vm → E A U := fun H locs hS U hU hW => X.kept A s U H locs hE hS hU hW
  have hl := lv_entry ([.ref M.o]) (n := 1) (Nat.le_of_ble_eq_true rfl)
  rw [lg_entry_eq]
  generalize (lg_sl ([.ref M.o]) ++ List.replicate (1 - (lg_sl ([.ref M.o])).length) Slot.unset).toArray = ls at hl ⊢
  have hl : lv_has ls 1 [(0, .ref M.o)] := hl
  refine qabs (fun Q hQ => ?_)
  have hB_28 : ∀ (z_0 : Int32) (z_1 : Int32) (S : MS) (H : Heap) (locs : List Loc) (ls : Array Slot), f_Mo_many_28 K z_0 z_1 S = some (r, S') → va_P (dC, dI) classes (wM M S) H → va_D A (wM M S) → va_S A s.heap H locs → lv_has ls 1 [] → W p l e ({ frames := 4, cells := 0, slots := 0, locals := 84 }) s m ([.ref M.o] : List Value).toArray below meth c H locs 0 0 Q (F0 m 28 ls [.int z_1, .int z_0]) := by
    intro z_0 z_1 S H locs ls h hP hD hS hl
    rw [f_Mo_many_28] at h
    refine lv_iadd hx hb d_Mo_many_28 ?_
    rw [hQ]
    have e1 : (z_0 + z_1) = r := congrArg Prod.fst (Option.some.inj h)
    have e2 : S = S' := congrArg Prod.snd (Option.some.inj h)
    have hP := lx_newP e2.symm hP
    have hD := lx_newD e2.symm hD
    exact W.iret (v := (z_0 + z_1)) hx hb hr (fun t ht hW => ⟨⟨(z_0 + z_1), (), rfl, e1, by rw [ht]; exact hP, va_K.moved hW.alike hK, hD⟩, hS.F ht⟩) hS.2.2 d_Mo_many_29
  have hB_27 : ∀ (z_0 : Int32) (S : MS) (H : Heap) (locs : List Loc) (ls : Array Slot), f_Mo_many_27 K z_0 S = some (r, S') → va_P (dC, dI) classes (wM M S) H → va_D A (wM M S) → va_S A s.heap H locs → lv_has ls 1 [] → W p l e ({ frames := 4, cells := 0, slots := 0, locals := 84 }) s m ([.ref M.o] : List Value).toArray below meth c H locs 0 0 Q (F0 m 27 ls [.int z_0]) := by
    intro z_0 S H locs ls h hP hD hS hl
    rw [f_Mo_many_27] at h
    refine lv_iconst (v := 0) hx hb d_Mo_many_27 (by decide) ?_
    exact hB_28 z_0 0 S _ _ _ h hP hD hS (lv_sub hl [] rfl)
  rw [f_Mo_many] at h
  refine lv_aload_n hx hb d_Mo_many_0 rfl (lv_at hl 0 rfl) ?_
  refine va_get (D := (dC, dI)) (ci := 12) (v := .ref M.a_kids) (C := R_Mo) (T := F_Mo) (N := 66) hx hb hts (fun w h => u_Mq_Mo w (i_Mo w h)) hown hK hP 0 rfl rfl 28 (by decide) (hts _ (u_Mq_Mo _ k_Mo_35)) (fun _ h9 => h9) rfl d_Mo_many_1 ?_
  refine lv_aload_n hx hb d_Mo_many_4 rfl (lv_at hl 0 rfl) ?_
  obtain ⟨r_1, S_1, hc_1, h⟩ := lf_cE h
  have hFc := lx_free hD hS hA
  refine va_calli (va_runV (As := []) (rest := [.ref M.a_kids]) ⟨hx, hb, hml, hown, hts⟩ (l_Mo_folderHere l dC dI X _ hc_1) (cwV 0 hts (gwV good_Mq (u_Mq_Mo _ k_Mo_246) (u_Mq_Mo _ k_Mo_247) (u_Mq_Mo _ k_Mo_508) (u_Mq_Mo _ k_Mo_0) (wcs (u_Mq_Mo _ k_Mo_248) (fun _ h => h))) rfl rfl rfl (by decide +kernel) ⟨Nat.le_of_ble_eq_true rfl, Nat.le_of_ble_eq_true rfl⟩) (pv_ofE (X.same _) (fun U z1 z2 => X.mono _ _ U hFc (hEw _ _ hS U z1 z2)) hP hK hD (va_recv hK hP (ci := 12) (q0 := 0) rfl rfl)) rfl rfl hl.1 rfl (lv_room (Nat.le_of_ble_eq_true rfl)) d_Mo_many_5 ⟨by decide, by decide⟩) hS (fun q _ h => hFc q h) hFc (fun r_ u t H locs ht hvm hw hB hz1 hk1 hS => ?_)
  rw [hw]
  obtain ⟨hP, -, hD⟩ := hB
  rw [ht] at hP
  have hD := lx_dj hD hFc
  obtain ⟨g_2, h⟩ := lf_gE h
  refine va_iald hx hb hK hP 10 9 rfl rfl g_2 d_Mo_many_8 ?_
  refine lv_aload_n hx hb d_Mo_many_9 rfl (lv_at hl 0 rfl) ?_
  refine va_get (D := (dC, dI)) (ci := 12) (v := .int S_1.v_turned) (C := R_Mo) (T := F_Mo) (N := 66) hx hb hts (fun w h => u_Mq_Mo w (i_Mo w h)) hown hK hP 0 rfl rfl 9 (by decide) (hts _ (u_Mq_Mo _ k_Mo_16)) (fun _ h9 => h9) rfl d_Mo_many_10 ?_
  refine lv_if_eq (tgt := 27) hx hb d_Mo_many_13 (by decide) (fun c_3 => ?_) (fun c_3 => ?_)
  · have h := lf_t h c_3
    exact hB_27 (S_1.v_kids r_1.toNatClampNeg) S_1 _ _ _ h hP hD hS (lv_sub hl [] rfl)
  · have h := lf_f h c_3
    refine lv_aload_n hx hb d_Mo_many_16 rfl (lv_at hl 0 rfl) ?_
    refine va_get (D := (dC, dI)) (ci := 12) (v := .int S_1.v_here) (C := R_Mo) (T := F_Mo) (N := 66) hx hb hts (fun w h => u_Mq_Mo w (i_Mo w h)) hown hK hP 0 rfl rfl 18 (by decide) (hts _ (u_Mq_Mo _ k_Mo_25)) (fun _ h9 => h9) rfl d_Mo_many_17 ?_
    refine lv_if_ne (tgt := 27) hx hb d_Mo_many_20 (by decide) (fun c_4 => ?_) (fun c_4 => ?_)
    · have h := lf_f h c_4
      exact hB_27 (S_1.v_kids r_1.toNatClampNeg) S_1 _ _ _ h hP hD hS (lv_sub hl [] rfl)
    · have h := lf_t h c_4
      refine lv_iconst (v := 1) hx hb d_Mo_many_23 (by decide) ?_
      refine lv_goto (tgt := 28) hx hb d_Mo_many_24 (by decide) ?_
      exact hB_28 (S_1.v_kids r_1.toNatClampNeg) 1 S_1 _ _ _ h hP hD hS (lv_sub hl [] rfl)
set_option maxHeartbeats 4000000 in
set_option maxRecDepth 100000 in
theorem l_Mo_items (l : Launch) (dC : Nat → ClassId) (dI : Nat → Nat → Nat) {K : Nat} {M : MA} {E : (Nat → Prop) → State → Prop} (X : lx_X l dC dI K M E) (sz : Nat) {S S' : MS} {r : Int32} (h : f_Mo_items K S = some (r, S')) : Met l y_Mo_items (.code y_Mo_items b_Mo_items 1 (some .int) :: V_Mq) ({ frames := 13, cells := 0, slots := 0, locals := 359 }) (va_Pc [.ref M.o] (fun U => U.heap.size = sz ∧ at_ (dC, dI) (fun _ => True) (wM M S) (tM M) U ∧ E (va_A (wM M S) sz) U)) (va_Qi (fun (r_ : Int32) (u : Unit) => r_ = r) (fun (u : Unit) t => at_ (dC, dI) (va_A (wM M S) sz) (wM M S') (tM M) t) (va_A (wM M S) sz)) 0 0 (va_A (wM M S) sz) := by
  refine Met.ofW (cc := b_Mo_items) (maxL := 1) (ret := (some .int)) (by decide) rfl ?_
  intro p e s m args below meth c s₁ B hml hv
  obtain ⟨rfl, hsz, ⟨hP, hK, hD0⟩, hE⟩ := hv
  have hx := B.exec
  have hb := B.bytes
  have hr := B.returns
  have hts0 := atoms_spec (ws := .code y_Mo_items b_Mo_items 1 (some .int) :: V_Mq) B.pre
  have hts : ∀ w ∈ V_Mq, w.before ([.ref M.o] : List Value).toArray s = true := fun w h => hts0 w (List.mem_cons_of_mem _ h)
  have hown : s.vm.findClass R_Mo = some m.cls := findClass_of_methodNamed B.named
  subst hsz
  have hD := hD0.self (sz := s.heap.size)
  generalize hAe : va_A (wM M S) s.heap.size = A at hD hE ⊢
  have hA : ∀ q : Nat, s.heap.size ≤ q → A q := fun q h => by rw [← hAe]; exact Or.inr h
  have hS : va_S A s.heap s.heap [] := va_S.rf
  have hP : va_P (dC, dI) classes (wM M S) s.heap := hP
  have hK : va_K (dC, dI) classes (tM M) s := hK
  have hEw : ∀ (H : Heap) (locs : List Loc), va_S A s.heap H locs → ∀ U : State, U.heap = H → s.WarmedH U.vm → E A U := fun H locs hS U hU hW => X.kept A s U H locs hE hS hU hW
  have hl := lv_entry ([.ref M.o]) (n := 1) (Nat.le_of_ble_eq_true rfl)
  rw [lg_entry_eq]
  generalize (lg_sl ([.ref M.o]) ++ List.replicate (1 - (lg_sl ([.ref M.o])).length) Slot.unset).toArray = ls at hl ⊢
  have hl : lv_has ls 1 [(0, .ref M.o)] := hl
  refine qabs (fun Q hQ => ?_)
  rw [f_Mo_items] at h
  refine lv_aload_n hx hb d_Mo_items_0 rfl (lv_at hl 0 rfl) ?_
  obtain ⟨r_1, S_1, hc_1, h⟩ := lf_cE h
  have hFc := lx_free hD hS hA
  refine va_calli (va_runV (As := []) (rest := []) ⟨hx, hb, hml, hown, hts⟩ (l_Mo_none l dC dI X _ hc_1) (cwV 0 hts (gwV good_Mq (u_Mq_Mo _ k_Mo_240) (u_Mq_Mo _ k_Mo_241) (u_Mq_Mo _ k_Mo_507) (u_Mq_Mo _ k_Mo_0) (wcs (u_Mq_Mo _ k_Mo_242) (fun _ h => h))) rfl rfl rfl (by decide +kernel) ⟨Nat.le_of_ble_eq_true rfl, Nat.le_of_ble_eq_true rfl⟩) (pv_ofE (X.same _) (fun U z1 z2 => X.mono _ _ U hFc (hEw _ _ hS U z1 z2)) hP hK hD (va_recv hK hP (ci := 12) (q0 := 0) rfl rfl)) rfl rfl hl.1 rfl (lv_room (Nat.le_of_ble_eq_true rfl)) d_Mo_items_1 ⟨by decide, by decide⟩) hS (fun q _ h => hFc q h) hFc (fun r_ u t H locs ht hvm hw hB hz1 hk1 hS => ?_)
  rw [hw]
  obtain ⟨hP, -, hD⟩ := hB
  rw [ht] at hP
  have hD := lx_dj hD hFc
  refine lv_if_eq (tgt := 11) hx hb d_Mo_items_4 (by decide) (fun c_2 => ?_) (fun c_2 => ?_)
  · have h := lf_t h c_2
    refine lv_aload_n hx hb d_Mo_items_11 rfl (lv_at hl 0 rfl) ?_
    obtain ⟨r_3, S_3, hc_3, h⟩ := lf_cE h
    have hFc := lx_free hD hS hA
    refine va_calli (va_runV (As := []) (rest := []) ⟨hx, hb, hml, hown, hts⟩ (l_Mo_many l dC dI X _ hc_3) (cwV 0 hts (gwV good_Mq (u_Mq_Mo _ k_Mo_243) (u_Mq_Mo _ k_Mo_244) (u_Mq_Mo _ k_Mo_509) (u_Mq_Mo _ k_Mo_0) (wcs (u_Mq_Mo _ k_Mo_245) (fun _ h => h))) rfl rfl rfl (by decide +kernel) ⟨Nat.le_of_ble_eq_true rfl, Nat.le_of_ble_eq_true rfl⟩) (pv_ofE (X.same _) (fun U z1 z2 => X.mono _ _ U hFc (hEw _ _ hS U z1 z2)) hP hK hD (va_recv hK hP (ci := 12) (q0 := 0) rfl rfl)) rfl rfl hl.1 rfl (lv_room (Nat.le_of_ble_eq_true rfl)) d_Mo_items_12 ⟨by decide, by decide⟩) hS (fun q _ h => hFc q h) hFc (fun r_ u t H locs ht hvm hw hB hz1 hk1 hS => ?_)
    rw [hw]
    obtain ⟨hP, -, hD⟩ := hB
    rw [ht] at hP
    have hD := lx_dj hD hFc
    rw [hQ]
    have e1 : r_3 = r := congrArg Prod.fst (Option.some.inj h)
    have e2 : S_3 = S' := congrArg Prod.snd (Option.some.inj h)
    have hP := lx_newP e2.symm hP
    have hD := lx_newD e2.symm hD
    exact W.iret (v := r_3) hx hb hr (fun t ht hW => ⟨⟨r_3, (), rfl, e1, by rw [ht]; exact hP, va_K.moved hW.alike hK, hD⟩, hS.F ht⟩) hS.2.2 d_Mo_items_15
  · have h := lf_f h c_2
    refine lv_iconst (v := 0) hx hb d_Mo_items_7 (by decide) ?_
    refine lv_goto (tgt := 15) hx hb d_Mo_items_8 (by decide) ?_
    rw [hQ]
    have e1 : (0 : Int32) = r := congrArg Prod.fst (Option.some.inj h)
    have e2 : S_1 = S' := congrArg Prod.snd (Option.some.inj h)
    have hP := lx_newP e2.symm hP
    have hD := lx_newD e2.symm hD
    exact W.iret (v := 0) hx hb hr (fun t ht hW => ⟨⟨0, (), rfl, e1, by rw [ht]; exact hP, va_K.moved hW.alike hK, hD⟩, hS.F ht⟩) hS.2.2 d_Mo_items_15
set_option maxHeartbeats 4000000 in
set_option maxRecDepth 100000 in
theorem l_Mo_no (l : Launch) (dC : Nat → ClassId) (dI : Nat → Nat → Nat) {K : Nat} {M : MA} {E : (Nat → Prop) → State → Prop} (X : lx_X l dC dI K M E) (sz : Nat) {S S' : MS} {p0 : Int32} {r : Int32} (h : f_Mo_no K S p0 = some (r, S')) : Met l y_Mo_no (.code y_Mo_no b_Mo_no 2 (some .boolean) :: V_Mq) ({ frames := 13, cells := 0, slots := 0, locals := 359 }) (va_Pc [.ref M.o, .int p0] (fun U => U.heap.size = sz ∧ at_ (dC, dI) (fun _ => True) (wM M S) (tM M) U ∧ E (va_A (wM M S) sz) U)) (va_Qi (fun (r_ : Int32) (u : Unit) => r_ = r) (fun (u : Unit) t => at_ (dC, dI) (va_A (wM M S) sz) (wM M S') (tM M) t) (va_A (wM M S) sz)) 0 0 (va_A (wM M S) sz) := by
  refine Met.ofW (cc := b_Mo_no) (maxL := 2) (ret := (some .boolean)) (by decide) rfl ?_
  intro p e s m args below meth c s₁ B hml hv
  obtain ⟨rfl, hsz, ⟨hP, hK, hD0⟩, hE⟩ := hv
  have hx := B.exec
  have hb := B.bytes
  have hr := B.returns
  have hts0 := atoms_spec (ws := .code y_Mo_no b_Mo_no 2 (some .boolean) :: V_Mq) B.pre
  have hts : ∀ w ∈ V_Mq, w.before ([.ref M.o, .int p0] : List Value).toArray s = true := fun w h => hts0 w (List.mem_cons_of_mem _ h)
  have hown : s.vm.findClass R_Mo = some m.cls := findClass_of_methodNamed B.named
  subst hsz
  have hD := hD0.self (sz := s.heap.size)
  generalize hAe : va_A (wM M S) s.heap.size = A at hD hE ⊢
  have hA : ∀ q : Nat, s.heap.size ≤ q → A q := fun q h => by rw [← hAe]; exact Or.inr h
  have hS : va_S A s.heap s.heap [] := va_S.rf
  have hP : va_P (dC, dI) classes (wM M S) s.heap := hP
  have hK : va_K (dC, dI) classes (tM M) s := hK
  have hEw : ∀ (H : Heap) (locs : List Loc), va_S A s.heap H locs → ∀ U : State, U.heap = H → s.WarmedH U.vm → E A U := fun H locs hS U hU hW => X.kept A s U H locs hE hS hU hW
  have hl := lv_entry ([.ref M.o, .int p0]) (n := 2) (Nat.le_of_ble_eq_true rfl)
  rw [lg_entry_eq]
  generalize (lg_sl ([.ref M.o, .int p0]) ++ List.replicate (2 - (lg_sl ([.ref M.o, .int p0])).length) Slot.unset).toArray = ls at hl ⊢
  have hl : lv_has ls 2 [(0, .ref M.o), (1, .int p0)] := hl
  refine qabs (fun Q hQ => ?_)
  have hB_32 : ∀ (S : MS) (H : Heap) (locs : List Loc) (ls : Array Slot), f_Mo_no_32 K S = some (r, S') → va_P (dC, dI) classes (wM M S) H → va_D A (wM M S) → va_S A s.heap H locs → lv_has ls 2 [] → W p l e ({ frames := 13, cells := 0, slots := 0, locals := 359 }) s m ([.ref M.o, .int p0] : List Value).toArray below meth c H locs 0 0 Q (F0 m 32 ls []) := by
    intro S H locs ls h hP hD hS hl
    rw [f_Mo_no_32] at h
    refine lv_iconst (v := 1) hx hb d_Mo_no_32 (by decide) ?_
    refine lv_goto (tgt := 37) hx hb d_Mo_no_33 (by decide) ?_
    rw [hQ]
    have e1 : (1 : Int32) = r := congrArg Prod.fst (Option.some.inj h)
    have e2 : S = S' := congrArg Prod.snd (Option.some.inj h)
    have hP := lx_newP e2.symm hP
    have hD := lx_newD e2.symm hD
    exact W.zret (v := 1) hx hb hr rfl (fun t ht hW => ⟨⟨1, (), rfl, e1, by rw [ht]; exact hP, va_K.moved hW.alike hK, hD⟩, hS.F ht⟩) hS.2.2 d_Mo_no_37
  have hB_25 : ∀ (z_1 : Int32) (S : MS) (H : Heap) (locs : List Loc) (ls : Array Slot), f_Mo_no_25 K z_1 S = some (r, S') → va_P (dC, dI) classes (wM M S) H → va_D A (wM M S) → va_S A s.heap H locs → lv_has ls 2 [] → W p l e ({ frames := 13, cells := 0, slots := 0, locals := 359 }) s m ([.ref M.o, .int p0] : List Value).toArray below meth c H locs 0 0 Q (F0 m 25 ls [.int z_1, .ref M.o]) := by
    intro z_1 S H locs ls h hP hD hS hl
    rw [f_Mo_no_25] at h
    refine lv_iconst (v := 2) hx hb d_Mo_no_25 (by decide) ?_
    obtain ⟨r_6, S_6, hc_6, h⟩ := lf_cE h
    have hFc := lx_free hD hS hA
    refine va_calli (va_runV (As := [.int z_1, .int 2]) (rest := []) ⟨hx, hb, hml, hown, hts⟩ (l_Mo_fails l dC dI X _ hc_6) (cwV 2 hts (gwV good_Mq (u_Mq_Mo _ k_Mo_217) (u_Mq_Mo _ k_Mo_218) (u_Mq_Mo _ k_Mo_474) (u_Mq_Mo _ k_Mo_0) (wcs (u_Mq_Mo _ k_Mo_219) (fun _ h => h))) rfl rfl rfl (by decide +kernel) ⟨Nat.le_of_ble_eq_true rfl, Nat.le_of_ble_eq_true rfl⟩) (pv_ofE (X.same _) (fun U z1 z2 => X.mono _ _ U hFc (hEw _ _ hS U z1 z2)) hP hK hD (va_recv hK hP (ci := 12) (q0 := 0) rfl rfl)) rfl rfl hl.1 rfl (lv_room (Nat.le_of_ble_eq_true rfl)) d_Mo_no_26 ⟨by decide, by decide⟩) hS (fun q _ h => hFc q h) hFc (fun r_ u t H locs ht hvm hw hB hz1 hk1 hS => ?_)
    rw [hw]
    obtain ⟨hP, -, hD⟩ := hB
    rw [ht] at hP
    have hD := lx_dj hD hFc
    refine lv_if_eq (tgt := 36) hx hb d_Mo_no_29 (by decide) (fun c_7 => ?_) (fun c_7 => ?_)
    · have h := lf_t h c_7
      refine lv_iconst (v := 0) hx hb d_Mo_no_36 (by decide) ?_
      rw [hQ]
      have e1 : (0 : Int32) = r := congrArg Prod.fst (Option.some.inj h)
      have e2 : S_6 = S' := congrArg Prod.snd (Option.some.inj h)
      have hP := lx_newP e2.symm hP
      have hD := lx_newD e2.symm hD
      exact W.zret (v := 0) hx hb hr rfl (fun t ht hW => ⟨⟨0, (), rfl, e1, by rw [ht]; exact hP, va_K.moved hW.alike hK, hD⟩, hS.F ht⟩) hS.2.2 d_Mo_no_37
    · have h := lf_f h c_7
      exact hB_32 S_6 _ _ _ h hP hD hS (lv_sub hl [] rfl)
  have hB_20 : ∀ (S : MS) (H : Heap) (locs : List Loc) (ls : Array Slot), f_Mo_no_20 K S = some (r, S') → va_P (dC, dI) classes (wM M S) H → va_D A (wM M S) → va_S A s.heap H locs → lv_has ls 2 [] → W p l e ({ frames := 13, cells := 0, slots := 0, locals := 359 }) s m ([.ref M.o, .int p0] : List Value).toArray below meth c H locs 0 0 Q (F0 m 20 ls [.ref M.o]) := by
    intro S H locs ls h hP hD hS hl
    rw [f_Mo_no_20] at h
    refine lv_iconst (v := 1) hx hb d_Mo_no_20 (by decide) ?_
    refine lv_goto (tgt := 25) hx hb d_Mo_no_21 (by decide) ?_
    exact hB_25 1 S _ _ _ h hP hD hS (lv_sub hl [] rfl)
  rw [f_Mo_no] at h
  refine lv_aload_n hx hb d_Mo_no_0 rfl (lv_at hl 0 rfl) ?_
  obtain ⟨r_1, S_1, hc_1, h⟩ := lf_cE h
  have hFc := lx_free hD hS hA
  refine va_calli (va_runV (As := []) (rest := []) ⟨hx, hb, hml, hown, hts⟩ (l_Mo_none l dC dI X _ hc_1) (cwV 0 hts (gwV good_Mq (u_Mq_Mo _ k_Mo_240) (u_Mq_Mo _ k_Mo_241) (u_Mq_Mo _ k_Mo_507) (u_Mq_Mo _ k_Mo_0) (wcs (u_Mq_Mo _ k_Mo_242) (fun _ h => h))) rfl rfl rfl (by decide +kernel) ⟨Nat.le_of_ble_eq_true rfl, Nat.le_of_ble_eq_true rfl⟩) (pv_ofE (X.same _) (fun U z1 z2 => X.mono _ _ U hFc (hEw _ _ hS U z1 z2)) hP hK hD (va_recv hK hP (ci := 12) (q0 := 0) rfl rfl)) rfl rfl hl.1 rfl (lv_room (Nat.le_of_ble_eq_true rfl)) d_Mo_no_1 ⟨by decide, by decide⟩) hS (fun q _ h => hFc q h) hFc (fun r_ u t H locs ht hvm hw hB hz1 hk1 hS => ?_)
  rw [hw]
  obtain ⟨hP, -, hD⟩ := hB
  rw [ht] at hP
  have hD := lx_dj hD hFc
  refine lv_if_ne (tgt := 32) hx hb d_Mo_no_4 (by decide) (fun c_2 => ?_) (fun c_2 => ?_)
  · have h := lf_f h c_2
    exact hB_32 S_1 _ _ _ h hP hD hS (lv_sub hl [] rfl)
  · have h := lf_t h c_2
    refine lv_aload_n hx hb d_Mo_no_7 rfl (lv_at hl 0 rfl) ?_
    refine lv_iload_n hx hb d_Mo_no_8 rfl (lv_at hl 1 rfl) ?_
    refine lv_if_lt (tgt := 20) hx hb d_Mo_no_9 (by decide) (fun c_3 => ?_) (fun c_3 => ?_)
    · have h := lf_t h c_3
      exact hB_20 S_1 _ _ _ h hP hD hS (lv_sub hl [] rfl)
    · have h := lf_f h c_3
      refine lv_iload_n hx hb d_Mo_no_12 rfl (lv_at hl 1 rfl) ?_
      refine lv_aload_n hx hb d_Mo_no_13 rfl (lv_at hl 0 rfl) ?_
      obtain ⟨r_4, S_4, hc_4, h⟩ := lf_cE h
      have hFc := lx_free hD hS hA
      refine va_calli (va_runV (As := []) (rest := [.int p0, .ref M.o]) ⟨hx, hb, hml, hown, hts⟩ (l_Mo_many l dC dI X _ hc_4) (cwV 0 hts (gwV good_Mq (u_Mq_Mo _ k_Mo_243) (u_Mq_Mo _ k_Mo_244) (u_Mq_Mo _ k_Mo_509) (u_Mq_Mo _ k_Mo_0) (wcs (u_Mq_Mo _ k_Mo_245) (fun _ h => h))) rfl rfl rfl (by decide +kernel) ⟨Nat.le_of_ble_eq_true rfl, Nat.le_of_ble_eq_true rfl⟩) (pv_ofE (X.same _) (fun U z1 z2 => X.mono _ _ U hFc (hEw _ _ hS U z1 z2)) hP hK hD (va_recv hK hP (ci := 12) (q0 := 0) rfl rfl)) rfl rfl hl.1 rfl (lv_room (Nat.le_of_ble_eq_true rfl)) d_Mo_no_14 ⟨by decide, by decide⟩) hS (fun q _ h => hFc q h) hFc (fun r_ u t H locs ht hvm hw hB hz1 hk1 hS => ?_)
      rw [hw]
      obtain ⟨hP, -, hD⟩ := hB
      rw [ht] at hP
      have hD := lx_dj hD hFc
      refine lv_icmp_lt (tgt := 24) hx hb d_Mo_no_17 (by decide) (fun c_5 => ?_) (fun c_5 => ?_)
      · have h := lf_t h c_5
        refine lv_iconst (v := 0) hx hb d_Mo_no_24 (by decide) ?_
        exact hB_25 0 S_4 _ _ _ h hP hD hS (lv_sub hl [] rfl)
      · have h := lf_f h c_5
        exact hB_20 S_4 _ _ _ h hP hD hS (lv_sub hl [] rfl)
set_option maxHeartbeats 4000000 in
set_option maxRecDepth 100000 in
theorem l_Mo_item (l : Launch) (dC : Nat → ClassId) (dI : Nat → Nat → Nat) {K : Nat} {M : MA} {E : (Nat → Prop) → State → Prop} (X : lx_X l dC dI K M E) (sz : Nat) {S S' : MS} {p0 : Int32} {r : Int32} (h : f_Mo_item K S p0 = some (r, S')) : Met l y_Mo_item (.code y_Mo_item b_Mo_item 2 (some .int) :: V_Mq) ({ frames := 4, cells := 0, slots := 0, locals := 84 }) (va_Pc [.ref M.o, .int p0] (fun U => U.heap.size = sz ∧ at_ (dC, dI) (fun _ => True) (wM M S) (tM M) U ∧ E (va_A (wM M S) sz) U)) (va_Qi (fun (r_ : Int32) (u : Unit) => r_ = r) (fun (u : Unit) t => at_ (dC, dI) (va_A (wM M S) sz) (wM M S') (tM M) t) (va_A (wM M S) sz)) 0 0 (va_A (wM M S) sz) := by
  refine Met.ofW (cc := b_Mo_item) (maxL := 2) (ret := (some .int)) (by decide) rfl ?_
  intro p e s m args below meth c s₁ B hml hv
  obtain ⟨rfl, hsz, ⟨hP, hK, hD0⟩, hE⟩ := hv
  have hx := B.exec
  have hb := B.bytes
  have hr := B.returns
  have hts0 := atoms_spec (ws := .code y_Mo_item b_Mo_item 2 (some .int) :: V_Mq) B.pre
  have hts : ∀ w ∈ V_Mq, w.before ([.ref M.o, .int p0] : List Value).toArray s = true := fun w h => hts0 w (List.mem_cons_of_mem _ h)
  have hown : s.vm.findClass R_Mo = some m.cls := findClass_of_methodNamed B.named
  subst hsz
  have hD := hD0.self (sz := s.heap.size)
  generalize hAe : va_A (wM M S) s.heap.size = A at hD hE ⊢
  have hA : ∀ q : Nat, s.heap.size ≤ q → A q := fun q h => by rw [← hAe]; exact Or.inr h
  have hS : va_S A s.heap s.heap [] := va_S.rf
  have hP : va_P (dC, dI) classes (wM M S) s.heap := hP
  have hK : va_K (dC, dI) classes (tM M) s := hK
  have hEw : ∀ (H : Heap) (locs : List Loc), va_S A s.heap H locs → ∀ U : State, U.heap = H → s.WarmedH U.vm → E A U := fun H locs hS U hU hW => X.kept A s U H locs hE hS hU hW
  have hl := lv_entry ([.ref M.o, .int p0]) (n := 2) (Nat.le_of_ble_eq_true rfl)
  rw [lg_entry_eq]
  generalize (lg_sl ([.ref M.o, .int p0]) ++ List.replicate (2 - (lg_sl ([.ref M.o, .int p0])).length) Slot.unset).toArray = ls at hl ⊢
  have hl : lv_has ls 2 [(0, .ref M.o), (1, .int p0)] := hl
  refine qabs (fun Q hQ => ?_)
  rw [f_Mo_item] at h
  refine lv_iload_n hx hb d_Mo_item_0 rfl (lv_at hl 1 rfl) ?_
  refine lv_aload_n hx hb d_Mo_item_1 rfl (lv_at hl 0 rfl) ?_
  refine va_get (D := (dC, dI)) (ci := 12) (v := .ref M.a_kids) (C := R_Mo) (T := F_Mo) (N := 66) hx hb hts (fun w h => u_Mq_Mo w (i_Mo w h)) hown hK hP 0 rfl rfl 28 (by decide) (hts _ (u_Mq_Mo _ k_Mo_35)) (fun _ h9 => h9) rfl d_Mo_item_2 ?_
  refine lv_aload_n hx hb d_Mo_item_5 rfl (lv_at hl 0 rfl) ?_
  obtain ⟨r_1, S_1, hc_1, h⟩ := lf_cE h
  have hFc := lx_free hD hS hA
  refine va_calli (va_runV (As := []) (rest := [.ref M.a_kids, .int p0]) ⟨hx, hb, hml, hown, hts⟩ (l_Mo_folderHere l dC dI X _ hc_1) (cwV 0 hts (gwV good_Mq (u_Mq_Mo _ k_Mo_246) (u_Mq_Mo _ k_Mo_247) (u_Mq_Mo _ k_Mo_508) (u_Mq_Mo _ k_Mo_0) (wcs (u_Mq_Mo _ k_Mo_248) (fun _ h => h))) rfl rfl rfl (by decide +kernel) ⟨Nat.le_of_ble_eq_true rfl, Nat.le_of_ble_eq_true rfl⟩) (pv_ofE (X.same _) (fun U z1 z2 => X.mono _ _ U hFc (hEw _ _ hS U z1 z2)) hP hK hD (va_recv hK hP (ci := 12) (q0 := 0) rfl rfl)) rfl rfl hl.1 rfl (lv_room (Nat.le_of_ble_eq_true rfl)) d_Mo_item_6 ⟨by decide, by decide⟩) hS (fun q _ h => hFc q h) hFc (fun r_ u t H locs ht hvm hw hB hz1 hk1 hS => ?_)
  rw [hw]
  obtain ⟨hP, -, hD⟩ := hB
  rw [ht] at hP
  have hD := lx_dj hD hFc
  obtain ⟨g_2, h⟩ := lf_gE h
  refine va_iald hx hb hK hP 10 9 rfl rfl g_2 d_Mo_item_9 ?_
  refine lv_icmp_ge (tgt := 27) hx hb d_Mo_item_10 (by decide) (fun c_3 => ?_) (fun c_3 => ?_)
  · have h := lf_t h c_3
    refine lv_iconst (v := (-1)) hx hb d_Mo_item_27 (by decide) ?_
    rw [hQ]
    have e1 : ((-1)) = r := congrArg Prod.fst (Option.some.inj h)
    have e2 : S_1 = S' := congrArg Prod.snd (Option.some.inj h)
    have hP := lx_newP e2.symm hP
    have hD := lx_newD e2.symm hD
    exact W.iret (v := ((-1))) hx hb hr (fun t ht hW => ⟨⟨((-1)), (), rfl, e1, by rw [ht]; exact hP, va_K.moved hW.alike hK, hD⟩, hS.F ht⟩) hS.2.2 d_Mo_item_28
  · have h := lf_f h c_3
    refine lv_aload_n hx hb d_Mo_item_13 rfl (lv_at hl 0 rfl) ?_
    refine va_get (D := (dC, dI)) (ci := 12) (v := .ref M.a_firstKid) (C := R_Mo) (T := F_Mo) (N := 66) hx hb hts (fun w h => u_Mq_Mo w (i_Mo w h)) hown hK hP 0 rfl rfl 29 (by decide) (hts _ (u_Mq_Mo _ k_Mo_36)) (fun _ h9 => h9) rfl d_Mo_item_14 ?_
    refine lv_aload_n hx hb d_Mo_item_17 rfl (lv_at hl 0 rfl) ?_
    obtain ⟨r_4, S_4, hc_4, h⟩ := lf_cE h
    have hFc := lx_free hD hS hA
    refine va_calli (va_runV (As := []) (rest := [.ref M.a_firstKid]) ⟨hx, hb, hml, hown, hts⟩ (l_Mo_folderHere l dC dI X _ hc_4) (cwV 0 hts (gwV good_Mq (u_Mq_Mo _ k_Mo_246) (u_Mq_Mo _ k_Mo_247) (u_Mq_Mo _ k_Mo_508) (u_Mq_Mo _ k_Mo_0) (wcs (u_Mq_Mo _ k_Mo_248) (fun _ h => h))) rfl rfl rfl (by decide +kernel) ⟨Nat.le_of_ble_eq_true rfl, Nat.le_of_ble_eq_true rfl⟩) (pv_ofE (X.same _) (fun U z1 z2 => X.mono _ _ U hFc (hEw _ _ hS U z1 z2)) hP hK hD (va_recv hK hP (ci := 12) (q0 := 0) rfl rfl)) rfl rfl hl.1 rfl (lv_room (Nat.le_of_ble_eq_true rfl)) d_Mo_item_18 ⟨by decide, by decide⟩) hS (fun q _ h => hFc q h) hFc (fun r_ u t H locs ht hvm hw hB hz1 hk1 hS => ?_)
    rw [hw]
    obtain ⟨hP, -, hD⟩ := hB
    rw [ht] at hP
    have hD := lx_dj hD hFc
    obtain ⟨g_5, h⟩ := lf_gE h
    refine va_iald hx hb hK hP 11 10 rfl rfl g_5 d_Mo_item_21 ?_
    refine lv_iload_n hx hb d_Mo_item_22 rfl (lv_at hl 1 rfl) ?_
    refine lv_iadd hx hb d_Mo_item_23 ?_
    refine lv_goto (tgt := 28) hx hb d_Mo_item_24 (by decide) ?_
    rw [hQ]
    have e1 : ((S_4.v_firstKid r_4.toNatClampNeg) + p0) = r := congrArg Prod.fst (Option.some.inj h)
    have e2 : S_4 = S' := congrArg Prod.snd (Option.some.inj h)
    have hP := lx_newP e2.symm hP
    have hD := lx_newD e2.symm hD
    exact W.iret (v := ((S_4.v_firstKid r_4.toNatClampNeg) + p0)) hx hb hr (fun t ht hW => ⟨⟨((S_4.v_firstKid r_4.toNatClampNeg) + p0), (), rfl, e1, by rw [ht]; exact hP, va_K.moved hW.alike hK, hD⟩, hS.F ht⟩) hS.2.2 d_Mo_item_28
set_option maxHeartbeats 4000000 in
set_option maxRecDepth 100000 in
theorem l_Mo_bytesOf (l : Launch) (dC : Nat → ClassId) (dI : Nat → Nat → Nat) {K : Nat} (sz : Nat) {p0 : Int32} {r : Int32} (h : f_Mo_bytesOf K p0 = some r) : Met l y_Mo_bytesOf (.code y_Mo_bytesOf b_Mo_bytesOf 1 (some .int) :: V_Mq) ({ frames := 0, cells := 0, slots := 0, locals := 0 }) (va_Pc [.int p0] (fun U => U.heap.size = sz ∧ at_ (dC, dI) (fun _ => True) [] [] U)) (va_Qi (fun (r_ : Int32) (u : Unit) => r_ = r) (fun (u : Unit) t => at_ (dC, dI) (va_A [] sz) [] [] t) (va_A [] sz)) 0 0 (va_A [] sz) := by
  refine Met.ofW (cc := b_Mo_bytesOf) (maxL := 1) (ret := (some .int)) (by decide) rfl ?_
  intro p e s m args below meth c s₁ B hml hv
  obtain ⟨rfl, hsz, hP, hK, hD0⟩ := hv
  have hx := B.exec
  have hb := B.bytes
  have hr := B.returns
  have hts0 := atoms_spec (ws := .code y_Mo_bytesOf b_Mo_bytesOf 1 (some .int) :: V_Mq) B.pre
  have hts : ∀ w ∈ V_Mq, w.before ([.int p0] : List Value).toArray s = true := fun w h => hts0 w (List.mem_cons_of_mem _ h)
  have hown : s.vm.findClass R_Mo = some m.cls := findClass_of_methodNamed B.named
  subst hsz
  have hD := hD0.self (sz := s.heap.size)
  generalize hAe : va_A [] s.heap.size = A at hD ⊢
  have hA : ∀ q : Nat, s.heap.size ≤ q → A q := fun q h => by rw [← hAe]; exact Or.inr h
  have hS : va_S A s.heap s.heap [] := va_S.rf
  have hP : va_P (dC, dI) classes [] s.heap := hP
  have hK : va_K (dC, dI) classes [] s := hK
  have hl := lv_entry ([.int p0]) (n := 1) (Nat.le_of_ble_eq_true rfl)
  rw [lg_entry_eq]
  generalize (lg_sl ([.int p0]) ++ List.replicate (1 - (lg_sl ([.int p0])).length) Slot.unset).toArray = ls at hl ⊢
  have hl : lv_has ls 1 [(0, .int p0)] := hl
  refine qabs (fun Q hQ => ?_)
  rw [f_Mo_bytesOf] at h
  refine lv_iload_n hx hb d_Mo_bytesOf_0 rfl (lv_at hl 0 rfl) ?_
  refine lv_sipush (v := 128) hx hb d_Mo_bytesOf_1 (by decide) ?_
  refine lv_icmp_ge (tgt := 11) hx hb d_Mo_bytesOf_4 (by decide) (fun c_1 => ?_) (fun c_1 => ?_)
  · have h := lf_t h c_1
    refine lv_iload_n hx hb d_Mo_bytesOf_11 rfl (lv_at hl 0 rfl) ?_
    refine lv_sipush (v := 2048) hx hb d_Mo_bytesOf_12 (by decide) ?_
    refine lv_icmp_ge (tgt := 22) hx hb d_Mo_bytesOf_15 (by decide) (fun c_2 => ?_) (fun c_2 => ?_)
    · have h := lf_t h c_2
      refine lv_iconst (v := 3) hx hb d_Mo_bytesOf_22 (by decide) ?_
      rw [hQ]
      have e1 : (3 : Int32) = r := Option.some.inj h
      exact W.iret (v := 3) hx hb hr (fun t ht hW => ⟨⟨3, (), rfl, e1, by rw [ht]; exact hP, va_K.moved hW.alike hK, hD⟩, hS.F ht⟩) hS.2.2 d_Mo_bytesOf_23
    · have h := lf_f h c_2
      refine lv_iconst (v := 2) hx hb d_Mo_bytesOf_18 (by decide) ?_
      refine lv_goto (tgt := 23) hx hb d_Mo_bytesOf_19 (by decide) ?_
      rw [hQ]
      have e1 : (2 : Int32) = r := Option.some.inj h
      exact W.iret (v := 2) hx hb hr (fun t ht hW => ⟨⟨2, (), rfl, e1, by rw [ht]; exact hP, va_K.moved hW.alike hK, hD⟩, hS.F ht⟩) hS.2.2 d_Mo_bytesOf_23
  · have h := lf_f h c_1
    refine lv_iconst (v := 1) hx hb d_Mo_bytesOf_7 (by decide) ?_
    refine lv_goto (tgt := 23) hx hb d_Mo_bytesOf_8 (by decide) ?_
    rw [hQ]
    have e1 : (1 : Int32) = r := Option.some.inj h
    exact W.iret (v := 1) hx hb hr (fun t ht hW => ⟨⟨1, (), rfl, e1, by rw [ht]; exact hP, va_K.moved hW.alike hK, hD⟩, hS.F ht⟩) hS.2.2 d_Mo_bytesOf_23
set_option maxHeartbeats 4000000 in
set_option maxRecDepth 100000 in
theorem l_Mo_textSize (l : Launch) (dC : Nat → ClassId) (dI : Nat → Nat → Nat) {K : Nat} {M : MA} {E : (Nat → Prop) → State → Prop} (X : lx_X l dC dI K M E) (sz : Nat) {S S' : MS} {p0 : Int32} {r : Int32} (h : f_Mo_textSize K S p0 = some (r, S')) : Met l y_Mo_textSize (.code y_Mo_textSize b_Mo_textSize 4 (some .int) :: V_Mq) ({ frames := 1, cells := 0, slots := 0, locals := 20 }) (va_Pc [.ref M.o, .int p0] (fun U => U.heap.size = sz ∧ at_ (dC, dI) (fun _ => True) (wM M S) (tM M) U ∧ E (va_A (wM M S) sz) U)) (va_Qi (fun (r_ : Int32) (u : Unit) => r_ = r) (fun (u : Unit) t => at_ (dC, dI) (va_A (wM M S) sz) (wM M S') (tM M) t) (va_A (wM M S) sz)) 0 0 (va_A (wM M S) sz) := by
  refine Met.ofW (cc := b_Mo_textSize) (maxL := 4) (ret := (some .int)) (by decide) rfl ?_
  intro p e s m args below meth c s₁ B hml hv
  obtain ⟨rfl, hsz, ⟨hP, hK, hD0⟩, hE⟩ := hv
  have hx := B.exec
  have hb := B.bytes
  have hr := B.returns
  have hts0 := atoms_spec (ws := .code y_Mo_textSize b_Mo_textSize 4 (some .int) :: V_Mq) B.pre
  have hts : ∀ w ∈ V_Mq, w.before ([.ref M.o, .int p0] : List Value).toArray s = true := fun w h => hts0 w (List.mem_cons_of_mem _ h)
  have hown : s.vm.findClass R_Mo = some m.cls := findClass_of_methodNamed B.named
  subst hsz
  have hD := hD0.self (sz := s.heap.size)
  generalize hAe : va_A (wM M S) s.heap.size = A at hD hE ⊢
  have hA : ∀ q : Nat, s.heap.size ≤ q → A q := fun q h => by rw [← hAe]; exact Or.inr h
  have hS : va_S A s.heap s.heap [] := va_S.rf
  have hP : va_P (dC, dI) classes (wM M S) s.heap := hP
  have hK : va_K (dC, dI) classes (tM M) s := hK
  have hEw : ∀ (H : Heap) (locs : List Loc), va_S A s.heap H locs → ∀ U : State, U.heap = H → s.WarmedH U.vm → E A U := fun H locs hS U hU hW => X.kept A s U H locs hE hS hU hW
  have hl := lv_entry ([.ref M.o, .int p0]) (n := 4) (Nat.le_of_ble_eq_true rfl)
  rw [lg_entry_eq]
  generalize (lg_sl ([.ref M.o, .int p0]) ++ List.replicate (4 - (lg_sl ([.ref M.o, .int p0])).length) Slot.unset).toArray = ls at hl ⊢
  have hl : lv_has ls 4 [(0, .ref M.o), (1, .int p0)] := hl
  refine qabs (fun Q hQ => ?_)
  have hB_4 : ∀ (k : Nat), ∀ (y_1 : Int32) (y_2 : Int32) (y_3 : Int32) (S : MS) (H : Heap) (locs : List Loc) (ls : Array Slot), f_Mo_textSize_4 K k y_1 y_2 y_3 S = some (r, S') → va_P (dC, dI) classes (wM M S) H → va_D A (wM M S) → va_S A s.heap H locs → lv_has ls 4 [(0, .ref M.o), (1, .int y_1), (2, .int y_2), (3, .int y_3)] → W p l e ({ frames := 1, cells := 0, slots := 0, locals := 20 }) s m ([.ref M.o, .int p0] : List Value).toArray below meth c H locs 0 0 Q (F0 m 4 ls []) := by
    intro k
    induction k with
    | zero => intro y_1 y_2 y_3 S H locs ls h; exact lf_no h
    | succ k hr_4 =>
      intro y_1 y_2 y_3 S H locs ls h hP hD hS hl
      rw [f_Mo_textSize_4] at h
      refine lv_iload_n hx hb d_Mo_textSize_4 rfl (lv_at hl 3 rfl) ?_
      refine lv_aload_n hx hb d_Mo_textSize_5 rfl (lv_at hl 0 rfl) ?_
      refine va_get (D := (dC, dI)) (ci := 12) (v := .ref M.a_nameSize) (C := R_Mo) (T := F_Mo) (N := 66) hx hb hts (fun w h => u_Mq_Mo w (i_Mo w h)) hown hK hP 0 rfl rfl 31 (by decide) (hts _ (u_Mq_Mo _ k_Mo_38)) (fun _ h9 => h9) rfl d_Mo_textSize_6 ?_
      refine lv_iload_n hx hb d_Mo_textSize_9 rfl (lv_at hl 1 rfl) ?_
      obtain ⟨g_1, h⟩ := lf_gE h
      refine va_iald hx hb hK hP 13 12 rfl rfl g_1 d_Mo_textSize_10 ?_
      refine lv_icmp_ge (tgt := 39) hx hb d_Mo_textSize_11 (by decide) (fun c_2 => ?_) (fun c_2 => ?_)
      · have h := lf_t h c_2
        refine lv_iload_n hx hb d_Mo_textSize_39 rfl (lv_at hl 2 rfl) ?_
        rw [hQ]
        have e1 : y_2 = r := congrArg Prod.fst (Option.some.inj h)
        have e2 : S = S' := congrArg Prod.snd (Option.some.inj h)
        have hP := lx_newP e2.symm hP
        have hD := lx_newD e2.symm hD
        exact W.iret (v := y_2) hx hb hr (fun t ht hW => ⟨⟨y_2, (), rfl, e1, by rw [ht]; exact hP, va_K.moved hW.alike hK, hD⟩, hS.F ht⟩) hS.2.2 d_Mo_textSize_40
      · have h := lf_f h c_2
        refine lv_iload_n hx hb d_Mo_textSize_14 rfl (lv_at hl 2 rfl) ?_
        refine lv_aload_n hx hb d_Mo_textSize_15 rfl (lv_at hl 0 rfl) ?_
        refine va_get (D := (dC, dI)) (ci := 12) (v := .ref M.a_unit) (C := R_Mo) (T := F_Mo) (N := 66) hx hb hts (fun w h => u_Mq_Mo w (i_Mo w h)) hown hK hP 0 rfl rfl 32 (by decide) (hts _ (u_Mq_Mo _ k_Mo_39)) (fun _ h9 => h9) rfl d_Mo_textSize_16 ?_
        refine lv_aload_n hx hb d_Mo_textSize_19 rfl (lv_at hl 0 rfl) ?_
        refine va_get (D := (dC, dI)) (ci := 12) (v := .ref M.a_nameAt) (C := R_Mo) (T := F_Mo) (N := 66) hx hb hts (fun w h => u_Mq_Mo w (i_Mo w h)) hown hK hP 0 rfl rfl 30 (by decide) (hts _ (u_Mq_Mo _ k_Mo_37)) (fun _ h9 => h9) rfl d_Mo_textSize_20 ?_
        refine lv_iload_n hx hb d_Mo_textSize_23 rfl (lv_at hl 1 rfl) ?_
        obtain ⟨g_3, h⟩ := lf_gE h
        refine va_iald hx hb hK hP 12 11 rfl rfl g_3 d_Mo_textSize_24 ?_
        refine lv_iload_n hx hb d_Mo_textSize_25 rfl (lv_at hl 3 rfl) ?_
        refine lv_iadd hx hb d_Mo_textSize_26 ?_
        obtain ⟨g_4, h⟩ := lf_gE h
        refine va_cald hx hb hK hP 14 13 rfl rfl g_4 d_Mo_textSize_27 ?_
        obtain ⟨r_5, hc_5, h⟩ := lf_bE h
        have hFc := lx_free0 hS hA
        refine va_calli (va_runS (As := [.int (S.v_unit ((S.v_nameAt y_1.toNatClampNeg) + y_3).toNatClampNeg)]) (rest := [.int y_2]) ⟨hx, hb, hml, hown, hts⟩ (l_Mo_bytesOf l dC dI  _ hc_5) (va_cwS 1 hts (gwS good_Mq (u_Mq_Mo _ k_Mo_262) (u_Mq_Mo _ k_Mo_263) (u_Mq_Mo _ k_Mo_0) (wcs (u_Mq_Mo _ k_Mo_264) (fun _ h => h))) rfl rfl rfl (by decide +kernel) ⟨Nat.le_of_ble_eq_true rfl, Nat.le_of_ble_eq_true rfl⟩) (ps_of (W := []) (tys := []) (hP.sub (ws' := []) [] rfl) (hK.sub [] rfl) (hD.sub (ws' := []) [] (by decide) rfl)) rfl rfl hl.1 rfl (lv_room (Nat.le_of_ble_eq_true rfl)) d_Mo_textSize_28 ⟨by decide, by decide⟩) hS (fun q _ h => hFc q h) hFc (fun r_ u t H locs ht hvm hw hB hz1 hk1 hS => ?_)
        rw [hw]
        have hP := lx_stat (A := A) hP hk1
        refine lv_iadd hx hb d_Mo_textSize_31 ?_
        refine lv_topi (fun x_6 ex_6 => ?_)
        have h := lf_lE h ex_6
        refine lv_istore_n (lv' := [(2, .int x_6), (0, .ref M.o), (1, .int y_1), (3, .int y_3)]) hx hb d_Mo_textSize_32 rfl hl (by decide) rfl (fun ls hl => ?_)
        obtain ⟨x_7, ex_7, h⟩ := lf_lX h
        refine lv_iinc (v := x_7) (lv' := [(3, .int x_7), (2, .int x_6), (0, .ref M.o), (1, .int y_1)]) hx hb d_Mo_textSize_33 hl (k := 3) rfl (by rw [ex_7]; rfl) (by decide) rfl (fun ls hl => ?_)
        refine lv_goto (tgt := 4) hx hb d_Mo_textSize_36 (by decide) ?_
        exact hr_4 y_1 x_6 x_7 S _ _ _ h hP hD hS (lv_sub hl [2, 3, 1, 0] rfl)
  rw [f_Mo_textSize] at h
  refine lv_iconst (v := 0) hx hb d_Mo_textSize_0 (by decide) ?_
  refine lv_istore_n (lv' := [(2, .int 0), (0, .ref M.o), (1, .int p0)]) hx hb d_Mo_textSize_1 rfl hl (by decide) rfl (fun ls hl => ?_)
  refine lv_iconst (v := 0) hx hb d_Mo_textSize_2 (by decide) ?_
  refine lv_istore_n (lv' := [(3, .int 0), (2, .int 0), (0, .ref M.o), (1, .int p0)]) hx hb d_Mo_textSize_3 rfl hl (by decide) rfl (fun ls hl => ?_)
  exact hB_4 K p0 0 0 S _ _ _ h hP hD hS (lv_sub hl [2, 3, 1, 0] rfl)
set_option maxHeartbeats 4000000 in
set_option maxRecDepth 100000 in
theorem l_Mo_text (l : Launch) (dC : Nat → ClassId) (dI : Nat → Nat → Nat) {K : Nat} {M : MA} {E : (Nat → Prop) → State → Prop} (X : lx_X l dC dI K M E) (sz : Nat) {S S' : MS} {p0 : Int32} {p1 : Int32} {r : Int32} (h : f_Mo_text K S p0 p1 = some (r, S')) : Met l y_Mo_text (.code y_Mo_text b_Mo_text 7 (some .int) :: V_Mq) ({ frames := 7, cells := 0, slots := 0, locals := 221 }) (va_Pc [.ref M.o, .int p0, .int p1] (fun U => U.heap.size = sz ∧ at_ (dC, dI) (fun _ => True) (wM M S) (tM M) U ∧ E (va_A (wM M S) sz) U)) (va_Qi (fun (r_ : Int32) (u : Unit) => r_ = r) (fun (u : Unit) t => at_ (dC, dI) (va_A (wM M S) sz) (wM M S') (tM M) t) (va_A (wM M S) sz)) 0 0 (va_A (wM M S) sz) := by
  refine Met.ofW (cc := b_Mo_text) (maxL := 7) (ret := (some .int)) (by decide) rfl ?_
  intro p e s m args below meth c s₁ B hml hv
  obtain ⟨rfl, hsz, ⟨hP, hK, hD0⟩, hE⟩ := hv
  have hx := B.exec
  have hb := B.bytes
  have hr := B.returns
  have hts0 := atoms_spec (ws := .code y_Mo_text b_Mo_text 7 (some .int) :: V_Mq) B.pre
  have hts : ∀ w ∈ V_Mq, w.before ([.ref M.o, .int p0, .int p1] : List Value).toArray s = true := fun w h => hts0 w (List.mem_cons_of_mem _ h)
  have hown : s.vm.findClass R_Mo = some m.cls := findClass_of_methodNamed B.named
  subst hsz
  have hD := hD0.self (sz := s.heap.size)
  generalize hAe : va_A (wM M S) s.heap.size = A at hD hE ⊢
  have hA : ∀ q : Nat, s.heap.size ≤ q → A q := fun q h => by rw [← hAe]; exact Or.inr h
  have hS : va_S A s.heap s.heap [] := va_S.rf
  have hP : va_P (dC, dI) classes (wM M S) s.heap := hP
  have hK : va_K (dC, dI) classes (tM M) s := hK
  have hEw : ∀ (H : Heap) (locs : List Loc), va_S A s.heap H locs → ∀ U : State, U.heap = H → s.WarmedH U.vm → E A U := fun H locs hS U hU hW => X.kept A s U H locs hE hS hU hW
  have hl := lv_entry ([.ref M.o, .int p0, .int p1]) (n := 7) (Nat.le_of_ble_eq_true rfl)
  rw [lg_entry_eq]
  generalize (lg_sl ([.ref M.o, .int p0, .int p1]) ++ List.replicate (7 - (lg_sl ([.ref M.o, .int p0, .int p1])).length) Slot.unset).toArray = ls at hl ⊢
  have hl : lv_has ls 7 [(0, .ref M.o), (1, .int p0), (2, .int p1)] := hl
  refine qabs (fun Q hQ => ?_)
  have hB_25 : ∀ (S : MS) (H : Heap) (locs : List Loc) (ls : Array Slot), f_Mo_text_25 K S = some (r, S') → va_P (dC, dI) classes (wM M S) H → va_D A (wM M S) → va_S A s.heap H locs → lv_has ls 7 [] → W p l e ({ frames := 7, cells := 0, slots := 0, locals := 221 }) s m ([.ref M.o, .int p0, .int p1] : List Value).toArray below meth c H locs 0 0 Q (F0 m 25 ls []) := by
    intro S H locs ls h hP hD hS hl
    rw [f_Mo_text_25] at h
    refine lv_iconst (v := (-1)) hx hb d_Mo_text_25 (by decide) ?_
    rw [hQ]
    have e1 : ((-1)) = r := congrArg Prod.fst (Option.some.inj h)
    have e2 : S = S' := congrArg Prod.snd (Option.some.inj h)
    have hP := lx_newP e2.symm hP
    have hD := lx_newD e2.symm hD
    exact W.iret (v := ((-1))) hx hb hr (fun t ht hW => ⟨⟨((-1)), (), rfl, e1, by rw [ht]; exact hP, va_K.moved hW.alike hK, hD⟩, hS.F ht⟩) hS.2.2 d_Mo_text_26
  have hB_152 : ∀ (S : MS) (H : Heap) (locs : List Loc) (ls : Array Slot), f_Mo_text_152 K S = some (r, S') → va_P (dC, dI) classes (wM M S) H → va_D A (wM M S) → va_S A s.heap H locs → lv_has ls 7 [] → W p l e ({ frames := 7, cells := 0, slots := 0, locals := 221 }) s m ([.ref M.o, .int p0, .int p1] : List Value).toArray below meth c H locs 0 0 Q (F0 m 152 ls []) := by
    intro S H locs ls h hP hD hS hl
    rw [f_Mo_text_152] at h
    refine lv_iconst (v := (-1)) hx hb d_Mo_text_152 (by decide) ?_
    rw [hQ]
    have e1 : ((-1)) = r := congrArg Prod.fst (Option.some.inj h)
    have e2 : S = S' := congrArg Prod.snd (Option.some.inj h)
    have hP := lx_newP e2.symm hP
    have hD := lx_newD e2.symm hD
    exact W.iret (v := ((-1))) hx hb hr (fun t ht hW => ⟨⟨((-1)), (), rfl, e1, by rw [ht]; exact hP, va_K.moved hW.alike hK, hD⟩, hS.F ht⟩) hS.2.2 d_Mo_text_153
  have hB_32 : ∀ (k : Nat), ∀ (y_1 : Int32) (y_2 : Int32) (y_3 : Int32) (y_4 : Int32) (S : MS) (H : Heap) (locs : List Loc) (ls : Array Slot), f_Mo_text_32 K k y_1 y_2 y_3 y_4 S = some (r, S') → va_P (dC, dI) classes (wM M S) H → va_D A (wM M S) → va_S A s.heap H locs → lv_has ls 7 [(0, .ref M.o), (1, .int y_1), (2, .int y_2), (3, .int y_3), (4, .int y_4)] → W p l e ({ frames := 7, cells := 0, slots := 0, locals := 221 }) s m ([.ref M.o, .int p0, .int p1] : List Value).toArray below meth c H locs 0 0 Q (F0 m 32 ls []) := by
    intro k
    induction k with
    | zero => intro y_1 y_2 y_3 y_4 S H locs ls h; exact lf_no h
    | succ k hr_32 =>
      intro y_1 y_2 y_3 y_4 S H locs ls h hP hD hS hl
      rw [f_Mo_text_32] at h
      refine lv_iload hx hb d_Mo_text_32 (lv_at hl 4 rfl) ?_
      refine lv_aload_n hx hb d_Mo_text_34 rfl (lv_at hl 0 rfl) ?_
      refine va_get (D := (dC, dI)) (ci := 12) (v := .ref M.a_nameSize) (C := R_Mo) (T := F_Mo) (N := 66) hx hb hts (fun w h => u_Mq_Mo w (i_Mo w h)) hown hK hP 0 rfl rfl 31 (by decide) (hts _ (u_Mq_Mo _ k_Mo_38)) (fun _ h9 => h9) rfl d_Mo_text_35 ?_
      refine lv_iload_n hx hb d_Mo_text_38 rfl (lv_at hl 1 rfl) ?_
      obtain ⟨g_5, h⟩ := lf_gE h
      refine va_iald hx hb hK hP 13 12 rfl rfl g_5 d_Mo_text_39 ?_
      refine lv_icmp_ge (tgt := 152) hx hb d_Mo_text_40 (by decide) (fun c_6 => ?_) (fun c_6 => ?_)
      · have h := lf_t h c_6
        exact hB_152 S _ _ _ h hP hD hS (lv_sub hl [] rfl)
      · have h := lf_f h c_6
        refine lv_iload_n hx hb d_Mo_text_43 rfl (lv_at hl 2 rfl) ?_
        refine lv_if_lt (tgt := 152) hx hb d_Mo_text_44 (by decide) (fun c_7 => ?_) (fun c_7 => ?_)
        · have h := lf_t h c_7
          exact hB_152 S _ _ _ h hP hD hS (lv_sub hl [] rfl)
        · have h := lf_f h c_7
          refine lv_aload_n hx hb d_Mo_text_47 rfl (lv_at hl 0 rfl) ?_
          refine va_get (D := (dC, dI)) (ci := 12) (v := .ref M.a_unit) (C := R_Mo) (T := F_Mo) (N := 66) hx hb hts (fun w h => u_Mq_Mo w (i_Mo w h)) hown hK hP 0 rfl rfl 32 (by decide) (hts _ (u_Mq_Mo _ k_Mo_39)) (fun _ h9 => h9) rfl d_Mo_text_48 ?_
          refine lv_aload_n hx hb d_Mo_text_51 rfl (lv_at hl 0 rfl) ?_
          refine va_get (D := (dC, dI)) (ci := 12) (v := .ref M.a_nameAt) (C := R_Mo) (T := F_Mo) (N := 66) hx hb hts (fun w h => u_Mq_Mo w (i_Mo w h)) hown hK hP 0 rfl rfl 30 (by decide) (hts _ (u_Mq_Mo _ k_Mo_37)) (fun _ h9 => h9) rfl d_Mo_text_52 ?_
          refine lv_iload_n hx hb d_Mo_text_55 rfl (lv_at hl 1 rfl) ?_
          obtain ⟨g_8, h⟩ := lf_gE h
          refine va_iald hx hb hK hP 12 11 rfl rfl g_8 d_Mo_text_56 ?_
          refine lv_iload hx hb d_Mo_text_57 (lv_at hl 4 rfl) ?_
          refine lv_iadd hx hb d_Mo_text_59 ?_
          obtain ⟨g_9, h⟩ := lf_gE h
          refine va_cald hx hb hK hP 14 13 rfl rfl g_9 d_Mo_text_60 ?_
          refine lv_topi (fun x_10 ex_10 => ?_)
          have h := lf_lE h ex_10
          refine lv_istore (lv' := [(5, .int x_10), (0, .ref M.o), (1, .int y_1), (2, .int y_2), (3, .int y_3), (4, .int y_4)]) hx hb d_Mo_text_61 hl (by decide) rfl (fun ls hl => ?_)
          refine lv_iload hx hb d_Mo_text_63 (lv_at hl 0 rfl) ?_
          obtain ⟨r_11, hc_11, h⟩ := lf_bE h
          have hFc := lx_free0 hS hA
          refine va_calli (va_runS (As := [.int x_10]) (rest := []) ⟨hx, hb, hml, hown, hts⟩ (l_Mo_bytesOf l dC dI  _ hc_11) (va_cwS 1 hts (gwS good_Mq (u_Mq_Mo _ k_Mo_262) (u_Mq_Mo _ k_Mo_263) (u_Mq_Mo _ k_Mo_0) (wcs (u_Mq_Mo _ k_Mo_264) (fun _ h => h))) rfl rfl rfl (by decide +kernel) ⟨Nat.le_of_ble_eq_true rfl, Nat.le_of_ble_eq_true rfl⟩) (ps_of (W := []) (tys := []) (hP.sub (ws' := []) [] rfl) (hK.sub [] rfl) (hD.sub (ws' := []) [] (by decide) rfl)) rfl rfl hl.1 rfl (lv_room (Nat.le_of_ble_eq_true rfl)) d_Mo_text_65 ⟨by decide, by decide⟩) hS (fun q _ h => hFc q h) hFc (fun r_ u t H locs ht hvm hw hB hz1 hk1 hS => ?_)
          rw [hw]
          have hP := lx_stat (A := A) hP hk1
          refine lv_istore (lv' := [(6, .int r_11), (5, .int x_10), (0, .ref M.o), (1, .int y_1), (2, .int y_2), (3, .int y_3), (4, .int y_4)]) hx hb d_Mo_text_68 hl (by decide) rfl (fun ls hl => ?_)
          refine lv_iload_n hx hb d_Mo_text_70 rfl (lv_at hl 5 rfl) ?_
          refine lv_iload hx hb d_Mo_text_71 (lv_at hl 0 rfl) ?_
          refine lv_icmp_ge (tgt := 141) hx hb d_Mo_text_73 (by decide) (fun c_12 => ?_) (fun c_12 => ?_)
          · have h := lf_t h c_12
            refine lv_iload_n hx hb d_Mo_text_141 rfl (lv_at hl 5 rfl) ?_
            refine lv_iload hx hb d_Mo_text_142 (lv_at hl 0 rfl) ?_
            refine lv_isub hx hb d_Mo_text_144 ?_
            refine lv_topi (fun x_13 ex_13 => ?_)
            have h := lf_lE h ex_13
            refine lv_istore_n (lv' := [(3, .int x_13), (6, .int r_11), (5, .int x_10), (0, .ref M.o), (1, .int y_1), (2, .int y_2), (4, .int y_4)]) hx hb d_Mo_text_145 rfl hl (by decide) rfl (fun ls hl => ?_)
            obtain ⟨x_14, ex_14, h⟩ := lf_lX h
            refine lv_iinc (v := x_14) (lv' := [(4, .int x_14), (3, .int x_13), (6, .int r_11), (5, .int x_10), (0, .ref M.o), (1, .int y_1), (2, .int y_2)]) hx hb d_Mo_text_146 hl (k := 6) rfl (by rw [ex_14]; rfl) (by decide) rfl (fun ls hl => ?_)
            refine lv_goto (tgt := 32) hx hb d_Mo_text_149 (by decide) ?_
            exact hr_32 y_1 y_2 x_13 x_14 S _ _ _ h hP hD hS (lv_sub hl [4, 5, 6, 1, 0] rfl)
          · have h := lf_f h c_12
            refine lv_iload hx hb d_Mo_text_76 (lv_at hl 0 rfl) ?_
            refine lv_iconst (v := 1) hx hb d_Mo_text_78 (by decide) ?_
            refine lv_icmp_ne (tgt := 87) hx hb d_Mo_text_79 (by decide) (fun c_15 => ?_) (fun c_15 => ?_)
            · have h := lf_f h c_15
              refine lv_iload_n hx hb d_Mo_text_87 rfl (lv_at hl 5 rfl) ?_
              refine lv_if_le (tgt := 113) hx hb d_Mo_text_88 (by decide) (fun c_16 => ?_) (fun c_16 => ?_)
              · have h := lf_t h c_16
                refine lv_iload hx hb d_Mo_text_113 (lv_at hl 0 rfl) ?_
                refine lv_iconst (v := 2) hx hb d_Mo_text_115 (by decide) ?_
                refine lv_icmp_ne (tgt := 131) hx hb d_Mo_text_116 (by decide) (fun c_17 => ?_) (fun c_17 => ?_)
                · have h := lf_f h c_17
                  refine lv_sipush (v := 224) hx hb d_Mo_text_131 (by decide) ?_
                  refine lv_iload hx hb d_Mo_text_134 (lv_at hl 1 rfl) ?_
                  refine lv_bipush (v := 12) hx hb d_Mo_text_136 (by decide) ?_
                  refine lv_ishr hx hb d_Mo_text_138 ?_
                  refine lv_ior hx hb d_Mo_text_139 ?_
                  rw [hQ]
                  have e1 : (224 ||| (x_10 >>> ((12 : Int32) &&& 31))) = r := congrArg Prod.fst (Option.some.inj h)
                  have e2 : S = S' := congrArg Prod.snd (Option.some.inj h)
                  have hP := lx_newP e2.symm hP
                  have hD := lx_newD e2.symm hD
                  exact W.iret (v := (224 ||| (x_10 >>> ((12 : Int32) &&& 31)))) hx hb hr (fun t ht hW => ⟨⟨(224 ||| (x_10 >>> ((12 : Int32) &&& 31))), (), rfl, e1, by rw [ht]; exact hP, va_K.moved hW.alike hK, hD⟩, hS.F ht⟩) hS.2.2 d_Mo_text_140
                · have h := lf_t h c_17
                  refine lv_sipush (v := 192) hx hb d_Mo_text_119 (by decide) ?_
                  refine lv_iload hx hb d_Mo_text_122 (lv_at hl 1 rfl) ?_
                  refine lv_bipush (v := 6) hx hb d_Mo_text_124 (by decide) ?_
                  refine lv_ishr hx hb d_Mo_text_126 ?_
                  refine lv_ior hx hb d_Mo_text_127 ?_
                  refine lv_goto (tgt := 140) hx hb d_Mo_text_128 (by decide) ?_
                  rw [hQ]
                  have e1 : (192 ||| (x_10 >>> ((6 : Int32) &&& 31))) = r := congrArg Prod.fst (Option.some.inj h)
                  have e2 : S = S' := congrArg Prod.snd (Option.some.inj h)
                  have hP := lx_newP e2.symm hP
                  have hD := lx_newD e2.symm hD
                  exact W.iret (v := (192 ||| (x_10 >>> ((6 : Int32) &&& 31)))) hx hb hr (fun t ht hW => ⟨⟨(192 ||| (x_10 >>> ((6 : Int32) &&& 31))), (), rfl, e1, by rw [ht]; exact hP, va_K.moved hW.alike hK, hD⟩, hS.F ht⟩) hS.2.2 d_Mo_text_140
              · have h := lf_f h c_16
                refine lv_sipush (v := 128) hx hb d_Mo_text_91 (by decide) ?_
                refine lv_iload hx hb d_Mo_text_94 (lv_at hl 1 rfl) ?_
                refine lv_bipush (v := 6) hx hb d_Mo_text_96 (by decide) ?_
                refine lv_iload hx hb d_Mo_text_98 (lv_at hl 0 rfl) ?_
                refine lv_iconst (v := 1) hx hb d_Mo_text_100 (by decide) ?_
                refine lv_isub hx hb d_Mo_text_101 ?_
                refine lv_iload_n hx hb d_Mo_text_102 rfl (lv_at hl 5 rfl) ?_
                refine lv_isub hx hb d_Mo_text_103 ?_
                refine lv_imul hx hb d_Mo_text_104 ?_
                refine lv_ishr hx hb d_Mo_text_105 ?_
                refine lv_bipush (v := 63) hx hb d_Mo_text_106 (by decide) ?_
                refine lv_iand hx hb d_Mo_text_108 ?_
                refine lv_ior hx hb d_Mo_text_109 ?_
                refine lv_goto (tgt := 140) hx hb d_Mo_text_110 (by decide) ?_
                rw [hQ]
                have e1 : (128 ||| ((x_10 >>> ((6 * ((r_11 - 1) - y_3)) &&& 31)) &&& 63)) = r := congrArg Prod.fst (Option.some.inj h)
                have e2 : S = S' := congrArg Prod.snd (Option.some.inj h)
                have hP := lx_newP e2.symm hP
                have hD := lx_newD e2.symm hD
                exact W.iret (v := (128 ||| ((x_10 >>> ((6 * ((r_11 - 1) - y_3)) &&& 31)) &&& 63))) hx hb hr (fun t ht hW => ⟨⟨(128 ||| ((x_10 >>> ((6 * ((r_11 - 1) - y_3)) &&& 31)) &&& 63)), (), rfl, e1, by rw [ht]; exact hP, va_K.moved hW.alike hK, hD⟩, hS.F ht⟩) hS.2.2 d_Mo_text_140
            · have h := lf_t h c_15
              refine lv_iload hx hb d_Mo_text_82 (lv_at hl 1 rfl) ?_
              refine lv_goto (tgt := 140) hx hb d_Mo_text_84 (by decide) ?_
              rw [hQ]
              have e1 : x_10 = r := congrArg Prod.fst (Option.some.inj h)
              have e2 : S = S' := congrArg Prod.snd (Option.some.inj h)
              have hP := lx_newP e2.symm hP
              have hD := lx_newD e2.symm hD
              exact W.iret (v := x_10) hx hb hr (fun t ht hW => ⟨⟨x_10, (), rfl, e1, by rw [ht]; exact hP, va_K.moved hW.alike hK, hD⟩, hS.F ht⟩) hS.2.2 d_Mo_text_140
  rw [f_Mo_text] at h
  refine lv_iload_n hx hb d_Mo_text_0 rfl (lv_at hl 1 rfl) ?_
  refine lv_iconst (v := (-1)) hx hb d_Mo_text_1 (by decide) ?_
  refine lv_icmp_ne (tgt := 27) hx hb d_Mo_text_2 (by decide) (fun c_1 => ?_) (fun c_1 => ?_)
  · have h := lf_f h c_1
    refine lv_iload_n hx hb d_Mo_text_27 rfl (lv_at hl 2 rfl) ?_
    refine lv_istore_n (lv' := [(3, .int p1), (0, .ref M.o), (1, .int p0), (2, .int p1)]) hx hb d_Mo_text_28 rfl hl (by decide) rfl (fun ls hl => ?_)
    refine lv_iconst (v := 0) hx hb d_Mo_text_29 (by decide) ?_
    refine lv_istore (lv' := [(4, .int 0), (3, .int p1), (0, .ref M.o), (1, .int p0), (2, .int p1)]) hx hb d_Mo_text_30 hl (by decide) rfl (fun ls hl => ?_)
    exact hB_32 K p0 p1 p1 0 S _ _ _ h hP hD hS (lv_sub hl [2, 3, 4, 1, 0] rfl)
  · have h := lf_t h c_1
    refine lv_iload_n hx hb d_Mo_text_5 rfl (lv_at hl 2 rfl) ?_
    refine lv_if_lt (tgt := 25) hx hb d_Mo_text_6 (by decide) (fun c_2 => ?_) (fun c_2 => ?_)
    · have h := lf_t h c_2
      exact hB_25 S _ _ _ h hP hD hS (lv_sub hl [] rfl)
    · have h := lf_f h c_2
      refine lv_iload_n hx hb d_Mo_text_9 rfl (lv_at hl 2 rfl) ?_
      refine lv_bipush (v := 7) hx hb d_Mo_text_10 (by decide) ?_
      refine lv_icmp_ge (tgt := 25) hx hb d_Mo_text_12 (by decide) (fun c_3 => ?_) (fun c_3 => ?_)
      · have h := lf_t h c_3
        exact hB_25 S _ _ _ h hP hD hS (lv_sub hl [] rfl)
      · have h := lf_f h c_3
        refine x_ldcW hx hb hown (X.str_358 A s hE) d_Mo_text_15 ?_
        refine lv_iload_n hx hb d_Mo_text_18 rfl (lv_at hl 2 rfl) ?_
        obtain ⟨x_4, hc_x_4, h⟩ := lf_bE h
        have hFc := lx_free0 hS hA
        refine va_calli (va_runV (As := [.int p1]) (rest := []) ⟨hx, hb, hml, hown, hts⟩ (X.charAt_358 _ hc_x_4) (cwV 1 hts (gwV good_Mq (u_Mq_Mo _ k_Mo_261) (k_Mq_15) (k_Mq_16) (k_Mq_4) (wcs (k_Mq_17) (fun _ h => h))) rfl rfl rfl (by decide +kernel) ⟨Nat.le_of_ble_eq_true rfl, Nat.le_of_ble_eq_true rfl⟩) (pv_ofE (W := []) (tys := []) (X.same _) (fun U z1 z2 => X.mono _ _ U hFc (hEw _ _ hS U z1 z2)) (hP.sub (ws' := []) [] rfl) (hK.sub [] rfl) (hD.sub (ws' := []) [] (by decide) rfl) (X.recv_358 _ (lx_s s _) (hEw _ _ hS (lx_s s _) rfl (State.WarmedH.refl s)))) rfl rfl hl.1 rfl (lv_room (Nat.le_of_ble_eq_true rfl)) d_Mo_text_19 ⟨by decide, by decide⟩) hS (fun q _ h => hFc q h) hFc (fun r_ u t H locs ht hvm hw hB hz1 hk1 hS => ?_)
        rw [hw]
        have hP := lx_stat (A := A) hP hk1
        refine lv_goto (tgt := 26) hx hb d_Mo_text_22 (by decide) ?_
        rw [hQ]
        have e1 : x_4 = r := congrArg Prod.fst (Option.some.inj h)
        have e2 : S = S' := congrArg Prod.snd (Option.some.inj h)
        have hP := lx_newP e2.symm hP
        have hD := lx_newD e2.symm hD
        exact W.iret (v := x_4) hx hb hr (fun t ht hW => ⟨⟨x_4, (), rfl, e1, by rw [ht]; exact hP, va_K.moved hW.alike hK, hD⟩, hS.F ht⟩) hS.2.2 d_Mo_text_26
set_option maxHeartbeats 4000000 in
set_option maxRecDepth 100000 in
theorem l_Mo_letter (l : Launch) (dC : Nat → ClassId) (dI : Nat → Nat → Nat) {K : Nat} {M : MA} {E : (Nat → Prop) → State → Prop} (X : lx_X l dC dI K M E) (sz : Nat) {S S' : MS} {p0 : Int32} {p1 : Int32} {r : Int32} (h : f_Mo_letter K S p0 p1 = some (r, S')) : Met l y_Mo_letter (.code y_Mo_letter b_Mo_letter 3 (some .int) :: V_Mq) ({ frames := 14, cells := 0, slots := 0, locals := 380 }) (va_Pc [.ref M.o, .int p0, .int p1] (fun U => U.heap.size = sz ∧ at_ (dC, dI) (fun _ => True) (wM M S) (tM M) U ∧ E (va_A (wM M S) sz) U)) (va_Qi (fun (r_ : Int32) (u : Unit) => r_ = r) (fun (u : Unit) t => at_ (dC, dI) (va_A (wM M S) sz) (wM M S') (tM M) t) (va_A (wM M S) sz)) 0 0 (va_A (wM M S) sz) := by
  refine Met.ofW (cc := b_Mo_letter) (maxL := 3) (ret := (some .int)) (by decide) rfl ?_
  intro p e s m args below meth c s₁ B hml hv
  obtain ⟨rfl, hsz, ⟨hP, hK, hD0⟩, hE⟩ := hv
  have hx := B.exec
  have hb := B.bytes
  have hr := B.returns
  have hts0 := atoms_spec (ws := .code y_Mo_letter b_Mo_letter 3 (some .int) :: V_Mq) B.pre
  have hts : ∀ w ∈ V_Mq, w.before ([.ref M.o, .int p0, .int p1] : List Value).toArray s = true := fun w h => hts0 w (List.mem_cons_of_mem _ h)
  have hown : s.vm.findClass R_Mo = some m.cls := findClass_of_methodNamed B.named
  subst hsz
  have hD := hD0.self (sz := s.heap.size)
  generalize hAe : va_A (wM M S) s.heap.size = A at hD hE ⊢
  have hA : ∀ q : Nat, s.heap.size ≤ q → A q := fun q h => by rw [← hAe]; exact Or.inr h
  have hS : va_S A s.heap s.heap [] := va_S.rf
  have hP : va_P (dC, dI) classes (wM M S) s.heap := hP
  have hK : va_K (dC, dI) classes (tM M) s := hK
  have hEw : ∀ (H : Heap) (locs : List Loc), va_S A s.heap H locs → ∀ U : State, U.heap = H → s.WarmedH U.vm → E A U := fun H locs hS U hU hW => X.kept A s U H locs hE hS hU hW
  have hl := lv_entry ([.ref M.o, .int p0, .int p1]) (n := 3) (Nat.le_of_ble_eq_true rfl)
  rw [lg_entry_eq]
  generalize (lg_sl ([.ref M.o, .int p0, .int p1]) ++ List.replicate (3 - (lg_sl ([.ref M.o, .int p0, .int p1])).length) Slot.unset).toArray = ls at hl ⊢
  have hl : lv_has ls 3 [(0, .ref M.o), (1, .int p0), (2, .int p1)] := hl
  refine qabs (fun Q hQ => ?_)
  rw [f_Mo_letter] at h
  refine lv_aload_n hx hb d_Mo_letter_0 rfl (lv_at hl 0 rfl) ?_
  refine lv_iload_n hx hb d_Mo_letter_1 rfl (lv_at hl 1 rfl) ?_
  obtain ⟨r_1, S_1, hc_1, h⟩ := lf_cE h
  have hFc := lx_free hD hS hA
  refine va_calli (va_runV (As := [.int p0]) (rest := []) ⟨hx, hb, hml, hown, hts⟩ (l_Mo_no l dC dI X _ hc_1) (cwV 1 hts (gwV good_Mq (u_Mq_Mo _ k_Mo_252) (u_Mq_Mo _ k_Mo_253) (u_Mq_Mo _ k_Mo_510) (u_Mq_Mo _ k_Mo_0) (wcs (u_Mq_Mo _ k_Mo_254) (fun _ h => h))) rfl rfl rfl (by decide +kernel) ⟨Nat.le_of_ble_eq_true rfl, Nat.le_of_ble_eq_true rfl⟩) (pv_ofE (X.same _) (fun U z1 z2 => X.mono _ _ U hFc (hEw _ _ hS U z1 z2)) hP hK hD (va_recv hK hP (ci := 12) (q0 := 0) rfl rfl)) rfl rfl hl.1 rfl (lv_room (Nat.le_of_ble_eq_true rfl)) d_Mo_letter_2 ⟨by decide, by decide⟩) hS (fun q _ h => hFc q h) hFc (fun r_ u t H locs ht hvm hw hB hz1 hk1 hS => ?_)
  rw [hw]
  obtain ⟨hP, -, hD⟩ := hB
  rw [ht] at hP
  have hD := lx_dj hD hFc
  refine lv_if_eq (tgt := 12) hx hb d_Mo_letter_5 (by decide) (fun c_2 => ?_) (fun c_2 => ?_)
  · have h := lf_t h c_2
    refine lv_aload_n hx hb d_Mo_letter_12 rfl (lv_at hl 0 rfl) ?_
    refine lv_aload_n hx hb d_Mo_letter_13 rfl (lv_at hl 0 rfl) ?_
    refine lv_iload_n hx hb d_Mo_letter_14 rfl (lv_at hl 1 rfl) ?_
    obtain ⟨r_3, S_3, hc_3, h⟩ := lf_cE h
    have hFc := lx_free hD hS hA
    refine va_calli (va_runV (As := [.int p0]) (rest := [.ref M.o]) ⟨hx, hb, hml, hown, hts⟩ (l_Mo_item l dC dI X _ hc_3) (cwV 1 hts (gwV good_Mq (u_Mq_Mo _ k_Mo_255) (u_Mq_Mo _ k_Mo_256) (u_Mq_Mo _ k_Mo_511) (u_Mq_Mo _ k_Mo_0) (wcs (u_Mq_Mo _ k_Mo_257) (fun _ h => h))) rfl rfl rfl (by decide +kernel) ⟨Nat.le_of_ble_eq_true rfl, Nat.le_of_ble_eq_true rfl⟩) (pv_ofE (X.same _) (fun U z1 z2 => X.mono _ _ U hFc (hEw _ _ hS U z1 z2)) hP hK hD (va_recv hK hP (ci := 12) (q0 := 0) rfl rfl)) rfl rfl hl.1 rfl (lv_room (Nat.le_of_ble_eq_true rfl)) d_Mo_letter_15 ⟨by decide, by decide⟩) hS (fun q _ h => hFc q h) hFc (fun r_ u t H locs ht hvm hw hB hz1 hk1 hS => ?_)
    rw [hw]
    obtain ⟨hP, -, hD⟩ := hB
    rw [ht] at hP
    have hD := lx_dj hD hFc
    refine lv_iload_n hx hb d_Mo_letter_18 rfl (lv_at hl 2 rfl) ?_
    obtain ⟨r_4, S_4, hc_4, h⟩ := lf_cE h
    have hFc := lx_free hD hS hA
    refine va_calli (va_runV (As := [.int r_3, .int p1]) (rest := []) ⟨hx, hb, hml, hown, hts⟩ (l_Mo_text l dC dI X _ hc_4) (cwV 2 hts (gwV good_Mq (u_Mq_Mo _ k_Mo_258) (u_Mq_Mo _ k_Mo_259) (u_Mq_Mo _ k_Mo_513) (u_Mq_Mo _ k_Mo_0) (wcs (u_Mq_Mo _ k_Mo_260) (fun _ h => h))) rfl rfl rfl (by decide +kernel) ⟨Nat.le_of_ble_eq_true rfl, Nat.le_of_ble_eq_true rfl⟩) (pv_ofE (X.same _) (fun U z1 z2 => X.mono _ _ U hFc (hEw _ _ hS U z1 z2)) hP hK hD (va_recv hK hP (ci := 12) (q0 := 0) rfl rfl)) rfl rfl hl.1 rfl (lv_room (Nat.le_of_ble_eq_true rfl)) d_Mo_letter_19 ⟨by decide, by decide⟩) hS (fun q _ h => hFc q h) hFc (fun r_ u t H locs ht hvm hw hB hz1 hk1 hS => ?_)
    rw [hw]
    obtain ⟨hP, -, hD⟩ := hB
    rw [ht] at hP
    have hD := lx_dj hD hFc
    rw [hQ]
    have e1 : r_4 = r := congrArg Prod.fst (Option.some.inj h)
    have e2 : S_4 = S' := congrArg Prod.snd (Option.some.inj h)
    have hP := lx_newP e2.symm hP
    have hD := lx_newD e2.symm hD
    exact W.iret (v := r_4) hx hb hr (fun t ht hW => ⟨⟨r_4, (), rfl, e1, by rw [ht]; exact hP, va_K.moved hW.alike hK, hD⟩, hS.F ht⟩) hS.2.2 d_Mo_letter_22
  · have h := lf_f h c_2
    refine lv_iconst (v := 0) hx hb d_Mo_letter_8 (by decide) ?_
    refine lv_goto (tgt := 22) hx hb d_Mo_letter_9 (by decide) ?_
    rw [hQ]
    have e1 : (0 : Int32) = r := congrArg Prod.fst (Option.some.inj h)
    have e2 : S_1 = S' := congrArg Prod.snd (Option.some.inj h)
    have hP := lx_newP e2.symm hP
    have hD := lx_newD e2.symm hD
    exact W.iret (v := 0) hx hb hr (fun t ht hW => ⟨⟨0, (), rfl, e1, by rw [ht]; exact hP, va_K.moved hW.alike hK, hD⟩, hS.F ht⟩) hS.2.2 d_Mo_letter_22
set_option maxHeartbeats 4000000 in
set_option maxRecDepth 100000 in
theorem l_Mo_seconds (l : Launch) (dC : Nat → ClassId) (dI : Nat → Nat → Nat) {K : Nat} (sz : Nat) {p0 : Int32} {p1 : Int32} {r : Int64} (h : f_Mo_seconds K p0 p1 = some r) : Met l y_Mo_seconds (.code y_Mo_seconds b_Mo_seconds 7 (some .long) :: V_Mq) ({ frames := 2, cells := 0, slots := 0, locals := 41 }) (va_Pc [.int p0, .int p1] (fun U => U.heap.size = sz ∧ at_ (dC, dI) (fun _ => True) [] [] U)) (va_Ql (fun (r_ : Int64) (u : Unit) => r_ = r) (fun (u : Unit) t => at_ (dC, dI) (va_A [] sz) [] [] t) (va_A [] sz)) 0 0 (va_A [] sz) := by
  refine Met.ofW (cc := b_Mo_seconds) (maxL := 7) (ret := (some .long)) (by decide) rfl ?_
  intro p e s m args below meth c s₁ B hml hv
  obtain ⟨rfl, hsz, hP, hK, hD0⟩ := hv
  have hx := B.exec
  have hb := B.bytes
  have hr := B.returns
  have hts0 := atoms_spec (ws := .code y_Mo_seconds b_Mo_seconds 7 (some .long) :: V_Mq) B.pre
  have hts : ∀ w ∈ V_Mq, w.before ([.int p0, .int p1] : List Value).toArray s = true := fun w h => hts0 w (List.mem_cons_of_mem _ h)
  have hown : s.vm.findClass R_Mo = some m.cls := findClass_of_methodNamed B.named
  subst hsz
  have hD := hD0.self (sz := s.heap.size)
  generalize hAe : va_A [] s.heap.size = A at hD ⊢
  have hA : ∀ q : Nat, s.heap.size ≤ q → A q := fun q h => by rw [← hAe]; exact Or.inr h
  have hS : va_S A s.heap s.heap [] := va_S.rf
  have hP : va_P (dC, dI) classes [] s.heap := hP
  have hK : va_K (dC, dI) classes [] s := hK
  have hl := lv_entry ([.int p0, .int p1]) (n := 7) (Nat.le_of_ble_eq_true rfl)
  rw [lg_entry_eq]
  generalize (lg_sl ([.int p0, .int p1]) ++ List.replicate (7 - (lg_sl ([.int p0, .int p1])).length) Slot.unset).toArray = ls at hl ⊢
  have hl : lv_has ls 7 [(0, .int p0), (1, .int p1)] := hl
  refine qabs (fun Q hQ => ?_)
  have hB_55 : ∀ (rec_30 : Int32 → Int32 → Int32 → Int64 → Int32 → Option (Int64)) (hr_30 : ∀ (y_1 : Int32) (y_2 : Int32) (y_3 : Int32) (y_4 : Int64) (y_6 : Int32) (H : Heap) (locs : List Loc) (ls : Array Slot), rec_30 y_1 y_2 y_3 y_4 y_6 = some r → va_P (dC, dI) classes [] H → va_D A [] → va_S A s.heap H locs → lv_has ls 7 [(1, .int y_1), (2, .int y_2), (3, .int y_3), (4, .long y_4), (6, .int y_6)] → W p l e ({ frames := 2, cells := 0, slots := 0, locals := 41 }) s m ([.int p0, .int p1] : List Value).toArray below meth c H locs 0 0 Q (F0 m 30 ls [])), ∀ (y_1 : Int32) (y_2 : Int32) (y_3 : Int32) (y_6 : Int32) (z_0 : Int64) (z_1 : Int64) (H : Heap) (locs : List Loc) (ls : Array Slot), f_Mo_seconds_55 K rec_30 y_1 y_2 y_3 y_6 z_0 z_1 = some r → va_P (dC, dI) classes [] H → va_D A [] → va_S A s.heap H locs → lv_has ls 7 [(1, .int y_1), (2, .int y_2), (3, .int y_3), (6, .int y_6)] → W p l e ({ frames := 2, cells := 0, slots := 0, locals := 41 }) s m ([.int p0, .int p1] : List Value).toArray below meth c H locs 0 0 Q (F0 m 55 ls [.long z_1, .long z_0]) := by
    intro rec_30 hr_30 y_1 y_2 y_3 y_6 z_0 z_1 H locs ls h hP hD hS hl
    rw [f_Mo_seconds_55] at h
    refine lv_ladd hx hb d_Mo_seconds_55 ?_
    refine lv_topl (fun x_11 ex_11 => ?_)
    have h := lf_lE h ex_11
    refine lv_lstore (lv' := [(4, .long x_11), (1, .int y_1), (2, .int y_2), (3, .int y_3), (6, .int y_6)]) hx hb d_Mo_seconds_56 hl (by decide) rfl (fun ls hl => ?_)
    obtain ⟨x_12, ex_12, h⟩ := lf_lX h
    refine lv_iinc (v := x_12) (lv' := [(6, .int x_12), (4, .long x_11), (1, .int y_1), (2, .int y_2), (3, .int y_3)]) hx hb d_Mo_seconds_58 hl (k := 4) rfl (by rw [ex_12]; rfl) (by decide) rfl (fun ls hl => ?_)
    refine lv_goto (tgt := 30) hx hb d_Mo_seconds_61 (by decide) ?_
    exact hr_30 y_1 y_2 y_3 x_11 x_12 _ _ _ h hP hD hS (lv_sub hl [2, 3, 4, 1, 0] rfl)
  have hB_67 : ∀ (k : Nat), ∀ (y_1 : Int32) (y_2 : Int32) (y_3 : Int32) (y_4 : Int64) (y_6 : Int32) (H : Heap) (locs : List Loc) (ls : Array Slot), f_Mo_seconds_67 K k y_1 y_2 y_3 y_4 y_6 = some r → va_P (dC, dI) classes [] H → va_D A [] → va_S A s.heap H locs → lv_has ls 7 [(1, .int y_1), (2, .int y_2), (3, .int y_3), (4, .long y_4), (6, .int y_6)] → W p l e ({ frames := 2, cells := 0, slots := 0, locals := 41 }) s m ([.int p0, .int p1] : List Value).toArray below meth c H locs 0 0 Q (F0 m 67 ls []) := by
    intro k
    induction k with
    | zero => intro y_1 y_2 y_3 y_4 y_6 H locs ls h; exact lf_no h
    | succ k hr_67 =>
      intro y_1 y_2 y_3 y_4 y_6 H locs ls h hP hD hS hl
      rw [f_Mo_seconds_67] at h
      refine lv_iload hx hb d_Mo_seconds_67 (lv_at hl 4 rfl) ?_
      refine lv_iload_n hx hb d_Mo_seconds_69 rfl (lv_at hl 2 rfl) ?_
      refine lv_icmp_ge (tgt := 91) hx hb d_Mo_seconds_70 (by decide) (fun c_7 => ?_) (fun c_7 => ?_)
      · have h := lf_t h c_7
        refine lv_ldc2 (v := 86400) hx hb hown (hts _ (u_Mq_Mo _ k_Mo_286)) d_Mo_seconds_91 ?_
        refine lv_lload hx hb d_Mo_seconds_94 (lv_at hl 3 rfl) ?_
        refine lv_lmul hx hb d_Mo_seconds_96 ?_
        refine lv_ldc2 (v := 3600) hx hb hown (hts _ (u_Mq_Mo _ k_Mo_287)) d_Mo_seconds_97 ?_
        refine lv_iload_n hx hb d_Mo_seconds_100 rfl (lv_at hl 0 rfl) ?_
        refine lv_bipush (v := 11) hx hb d_Mo_seconds_101 (by decide) ?_
        refine lv_ishr hx hb d_Mo_seconds_103 ?_
        refine lv_i2l hx hb d_Mo_seconds_104 rfl ?_
        refine lv_lmul hx hb d_Mo_seconds_105 ?_
        refine lv_ladd hx hb d_Mo_seconds_106 ?_
        refine lv_ldc2 (v := 60) hx hb hown (hts _ (u_Mq_Mo _ k_Mo_288)) d_Mo_seconds_107 ?_
        refine lv_iload_n hx hb d_Mo_seconds_110 rfl (lv_at hl 0 rfl) ?_
        refine lv_iconst (v := 5) hx hb d_Mo_seconds_111 (by decide) ?_
        refine lv_ishr hx hb d_Mo_seconds_112 ?_
        refine lv_bipush (v := 63) hx hb d_Mo_seconds_113 (by decide) ?_
        refine lv_iand hx hb d_Mo_seconds_115 ?_
        refine lv_i2l hx hb d_Mo_seconds_116 rfl ?_
        refine lv_lmul hx hb d_Mo_seconds_117 ?_
        refine lv_ladd hx hb d_Mo_seconds_118 ?_
        refine lv_ldc2 (v := 2) hx hb hown (hts _ (u_Mq_Mo _ k_Mo_224)) d_Mo_seconds_119 ?_
        refine lv_iload_n hx hb d_Mo_seconds_122 rfl (lv_at hl 0 rfl) ?_
        refine lv_bipush (v := 31) hx hb d_Mo_seconds_123 (by decide) ?_
        refine lv_iand hx hb d_Mo_seconds_125 ?_
        refine lv_i2l hx hb d_Mo_seconds_126 rfl ?_
        refine lv_lmul hx hb d_Mo_seconds_127 ?_
        refine lv_ladd hx hb d_Mo_seconds_128 ?_
        rw [hQ]
        have e1 : ((((86400 * y_4) + (3600 * ((y_1 >>> ((11 : Int32) &&& 31)).toInt64))) + (60 * (((y_1 >>> ((5 : Int32) &&& 31)) &&& 63).toInt64))) + (2 * ((y_1 &&& 31).toInt64)) : Int64) = r := Option.some.inj h
        exact W.lret (v := ((((86400 * y_4) + (3600 * ((y_1 >>> ((11 : Int32) &&& 31)).toInt64))) + (60 * (((y_1 >>> ((5 : Int32) &&& 31)) &&& 63).toInt64))) + (2 * ((y_1 &&& 31).toInt64)))) hx hb hr (fun t ht hW => ⟨⟨((((86400 * y_4) + (3600 * ((y_1 >>> ((11 : Int32) &&& 31)).toInt64))) + (60 * (((y_1 >>> ((5 : Int32) &&& 31)) &&& 63).toInt64))) + (2 * ((y_1 &&& 31).toInt64))), (), rfl, e1, by rw [ht]; exact hP, va_K.moved hW.alike hK, hD⟩, hS.F ht⟩) hS.2.2 d_Mo_seconds_129
      · have h := lf_f h c_7
        refine lv_lload hx hb d_Mo_seconds_73 (lv_at hl 3 rfl) ?_
        refine lv_iload hx hb d_Mo_seconds_75 (lv_at hl 4 rfl) ?_
        refine lv_iload_n hx hb d_Mo_seconds_77 rfl (lv_at hl 1 rfl) ?_
        obtain ⟨r_8, hc_8, h⟩ := lf_bE h
        have hFc := lx_free0 hS hA
        refine va_calli (va_runS (As := [.int y_6, .int y_2]) (rest := [.long y_4]) ⟨hx, hb, hml, hown, hts⟩ (l_Mo_daysOf l dC dI  _ hc_8) (va_cwS 2 hts (gwS good_Mq (u_Mq_Mo _ k_Mo_155) (u_Mq_Mo _ k_Mo_156) (u_Mq_Mo _ k_Mo_0) (wcs (u_Mq_Mo _ k_Mo_157) (fun _ h => h))) rfl rfl rfl (by decide +kernel) ⟨Nat.le_of_ble_eq_true rfl, Nat.le_of_ble_eq_true rfl⟩) (ps_of (W := []) (tys := []) (hP.sub (ws' := []) [] rfl) (hK.sub [] rfl) (hD.sub (ws' := []) [] (by decide) rfl)) rfl rfl hl.1 rfl (lv_room (Nat.le_of_ble_eq_true rfl)) d_Mo_seconds_78 ⟨by decide, by decide⟩) hS (fun q _ h => hFc q h) hFc (fun r_ u t H locs ht hvm hw hB hz1 hk1 hS => ?_)
        rw [hw]
        have hP := lx_stat (A := A) hP hk1
        refine lv_i2l hx hb d_Mo_seconds_81 rfl ?_
        refine lv_ladd hx hb d_Mo_seconds_82 ?_
        refine lv_topl (fun x_9 ex_9 => ?_)
        have h := lf_lE h ex_9
        refine lv_lstore (lv' := [(4, .long x_9), (1, .int y_1), (2, .int y_2), (3, .int y_3), (6, .int y_6)]) hx hb d_Mo_seconds_83 hl (by decide) rfl (fun ls hl => ?_)
        obtain ⟨x_10, ex_10, h⟩ := lf_lX h
        refine lv_iinc (v := x_10) (lv' := [(6, .int x_10), (4, .long x_9), (1, .int y_1), (2, .int y_2), (3, .int y_3)]) hx hb d_Mo_seconds_85 hl (k := 4) rfl (by rw [ex_10]; rfl) (by decide) rfl (fun ls hl => ?_)
        refine lv_goto (tgt := 67) hx hb d_Mo_seconds_88 (by decide) ?_
        exact hr_67 y_1 y_2 y_3 x_9 x_10 _ _ _ h hP hD hS (lv_sub hl [2, 3, 4, 1, 0] rfl)
  have hB_30 : ∀ (k : Nat), ∀ (y_1 : Int32) (y_2 : Int32) (y_3 : Int32) (y_4 : Int64) (y_6 : Int32) (H : Heap) (locs : List Loc) (ls : Array Slot), f_Mo_seconds_30 K k y_1 y_2 y_3 y_4 y_6 = some r → va_P (dC, dI) classes [] H → va_D A [] → va_S A s.heap H locs → lv_has ls 7 [(1, .int y_1), (2, .int y_2), (3, .int y_3), (4, .long y_4), (6, .int y_6)] → W p l e ({ frames := 2, cells := 0, slots := 0, locals := 41 }) s m ([.int p0, .int p1] : List Value).toArray below meth c H locs 0 0 Q (F0 m 30 ls []) := by
    intro k
    induction k with
    | zero => intro y_1 y_2 y_3 y_4 y_6 H locs ls h; exact lf_no h
    | succ k hr_30 =>
      intro y_1 y_2 y_3 y_4 y_6 H locs ls h hP hD hS hl
      rw [f_Mo_seconds_30] at h
      refine lv_iload hx hb d_Mo_seconds_30 (lv_at hl 4 rfl) ?_
      refine lv_iload_n hx hb d_Mo_seconds_32 rfl (lv_at hl 1 rfl) ?_
      refine lv_icmp_ge (tgt := 64) hx hb d_Mo_seconds_33 (by decide) (fun c_4 => ?_) (fun c_4 => ?_)
      · have h := lf_t h c_4
        refine lv_iconst (v := 1) hx hb d_Mo_seconds_64 (by decide) ?_
        refine lv_istore (lv' := [(6, .int 1), (1, .int y_1), (2, .int y_2), (3, .int y_3), (4, .long y_4)]) hx hb d_Mo_seconds_65 hl (by decide) rfl (fun ls hl => ?_)
        exact hB_67 K y_1 y_2 y_3 y_4 1 _ _ _ h hP hD hS (lv_sub hl [1, 2, 3, 4, 0] rfl)
      · have h := lf_f h c_4
        refine lv_lload hx hb d_Mo_seconds_36 (lv_at hl 3 rfl) ?_
        refine lv_iload hx hb d_Mo_seconds_38 (lv_at hl 4 rfl) ?_
        obtain ⟨r_5, hc_5, h⟩ := lf_bE h
        have hFc := lx_free0 hS hA
        refine va_calli (va_runS (As := [.int y_6]) (rest := [.long y_4]) ⟨hx, hb, hml, hown, hts⟩ (l_Mo_isLeap l dC dI  _ hc_5) (va_cwS 1 hts (gwS good_Mq (u_Mq_Mo _ k_Mo_158) (u_Mq_Mo _ k_Mo_159) (u_Mq_Mo _ k_Mo_0) (wcs (u_Mq_Mo _ k_Mo_160) (fun _ h => h))) rfl rfl rfl (by decide +kernel) ⟨Nat.le_of_ble_eq_true rfl, Nat.le_of_ble_eq_true rfl⟩) (ps_of (W := []) (tys := []) (hP.sub (ws' := []) [] rfl) (hK.sub [] rfl) (hD.sub (ws' := []) [] (by decide) rfl)) rfl rfl hl.1 rfl (lv_room (Nat.le_of_ble_eq_true rfl)) d_Mo_seconds_40 ⟨by decide, by decide⟩) hS (fun q _ h => hFc q h) hFc (fun r_ u t H locs ht hvm hw hB hz1 hk1 hS => ?_)
        rw [hw]
        have hP := lx_stat (A := A) hP hk1
        refine lv_if_eq (tgt := 52) hx hb d_Mo_seconds_43 (by decide) (fun c_6 => ?_) (fun c_6 => ?_)
        · have h := lf_t h c_6
          refine lv_ldc2 (v := 365) hx hb hown (hts _ (u_Mq_Mo _ k_Mo_285)) d_Mo_seconds_52 ?_
          exact hB_55 _ hr_30 y_1 y_2 y_3 y_6 y_4 365 _ _ _ h hP hD hS (lv_sub hl [0, 1, 2, 4] rfl)
        · have h := lf_f h c_6
          refine lv_ldc2 (v := 366) hx hb hown (hts _ (u_Mq_Mo _ k_Mo_284)) d_Mo_seconds_46 ?_
          refine lv_goto (tgt := 55) hx hb d_Mo_seconds_49 (by decide) ?_
          exact hB_55 _ hr_30 y_1 y_2 y_3 y_6 y_4 366 _ _ _ h hP hD hS (lv_sub hl [0, 1, 2, 4] rfl)
  rw [f_Mo_seconds] at h
  refine lv_sipush (v := 1980) hx hb d_Mo_seconds_0 (by decide) ?_
  refine lv_iload_n hx hb d_Mo_seconds_3 rfl (lv_at hl 0 rfl) ?_
  refine lv_bipush (v := 9) hx hb d_Mo_seconds_4 (by decide) ?_
  refine lv_ishr hx hb d_Mo_seconds_6 ?_
  refine lv_iadd hx hb d_Mo_seconds_7 ?_
  refine lv_topi (fun x_1 ex_1 => ?_)
  have h := lf_lE h ex_1
  refine lv_istore_n (lv' := [(2, .int x_1), (0, .int p0), (1, .int p1)]) hx hb d_Mo_seconds_8 rfl hl (by decide) rfl (fun ls hl => ?_)
  refine lv_iload_n hx hb d_Mo_seconds_9 rfl (lv_at hl 1 rfl) ?_
  refine lv_iconst (v := 5) hx hb d_Mo_seconds_10 (by decide) ?_
  refine lv_ishr hx hb d_Mo_seconds_11 ?_
  refine lv_bipush (v := 15) hx hb d_Mo_seconds_12 (by decide) ?_
  refine lv_iand hx hb d_Mo_seconds_14 ?_
  refine lv_topi (fun x_2 ex_2 => ?_)
  have h := lf_lE h ex_2
  refine lv_istore_n (lv' := [(3, .int x_2), (2, .int x_1), (0, .int p0), (1, .int p1)]) hx hb d_Mo_seconds_15 rfl hl (by decide) rfl (fun ls hl => ?_)
  refine lv_iload_n hx hb d_Mo_seconds_16 rfl (lv_at hl 2 rfl) ?_
  refine lv_bipush (v := 31) hx hb d_Mo_seconds_17 (by decide) ?_
  refine lv_iand hx hb d_Mo_seconds_19 ?_
  refine lv_iconst (v := 1) hx hb d_Mo_seconds_20 (by decide) ?_
  refine lv_isub hx hb d_Mo_seconds_21 ?_
  refine lv_i2l hx hb d_Mo_seconds_22 rfl ?_
  refine lv_topl (fun x_3 ex_3 => ?_)
  have h := lf_lE h ex_3
  refine lv_lstore (lv' := [(4, .long x_3), (3, .int x_2), (2, .int x_1), (0, .int p0), (1, .int p1)]) hx hb d_Mo_seconds_23 hl (by decide) rfl (fun ls hl => ?_)
  refine lv_sipush (v := 1970) hx hb d_Mo_seconds_25 (by decide) ?_
  refine lv_istore (lv' := [(6, .int 1970), (4, .long x_3), (3, .int x_2), (2, .int x_1), (0, .int p0), (1, .int p1)]) hx hb d_Mo_seconds_28 hl (by decide) rfl (fun ls hl => ?_)
  exact hB_30 K p1 x_1 x_2 x_3 1970 _ _ _ h hP hD hS (lv_sub hl [5, 3, 2, 1, 0] rfl)
set_option maxHeartbeats 4000000 in
set_option maxRecDepth 100000 in
theorem l_Mo_timeOf (l : Launch) (dC : Nat → ClassId) (dI : Nat → Nat → Nat) {K : Nat} {M : MA} {E : (Nat → Prop) → State → Prop} (X : lx_X l dC dI K M E) (sz : Nat) {S S' : MS} {p0 : Int32} {p1 : Int32} {r : Int64} (h : f_Mo_timeOf K S p0 p1 = some (r, S')) : Met l y_Mo_timeOf (.code y_Mo_timeOf b_Mo_timeOf 4 (some .long) :: V_Mq) ({ frames := 3, cells := 0, slots := 0, locals := 67 }) (va_Pc [.ref M.o, .int p0, .int p1] (fun U => U.heap.size = sz ∧ at_ (dC, dI) (fun _ => True) (wM M S) (tM M) U ∧ E (va_A (wM M S) sz) U)) (va_Ql (fun (r_ : Int64) (u : Unit) => r_ = r) (fun (u : Unit) t => at_ (dC, dI) (va_A (wM M S) sz) (wM M S') (tM M) t) (va_A (wM M S) sz)) 0 0 (va_A (wM M S) sz) := by
  refine Met.ofW (cc := b_Mo_timeOf) (maxL := 4) (ret := (some .long)) (by decide) rfl ?_
  intro p e s m args below meth c s₁ B hml hv
  obtain ⟨rfl, hsz, ⟨hP, hK, hD0⟩, hE⟩ := hv
  have hx := B.exec
  have hb := B.bytes
  have hr := B.returns
  have hts0 := atoms_spec (ws := .code y_Mo_timeOf b_Mo_timeOf 4 (some .long) :: V_Mq) B.pre
  have hts : ∀ w ∈ V_Mq, w.before ([.ref M.o, .int p0, .int p1] : List Value).toArray s = true := fun w h => hts0 w (List.mem_cons_of_mem _ h)
  have hown : s.vm.findClass R_Mo = some m.cls := findClass_of_methodNamed B.named
  subst hsz
  have hD := hD0.self (sz := s.heap.size)
  generalize hAe : va_A (wM M S) s.heap.size = A at hD hE ⊢
  have hA : ∀ q : Nat, s.heap.size ≤ q → A q := fun q h => by rw [← hAe]; exact Or.inr h
  have hS : va_S A s.heap s.heap [] := va_S.rf
  have hP : va_P (dC, dI) classes (wM M S) s.heap := hP
  have hK : va_K (dC, dI) classes (tM M) s := hK
  have hEw : ∀ (H : Heap) (locs : List Loc), va_S A s.heap H locs → ∀ U : State, U.heap = H → s.WarmedH U.vm → E A U := fun H locs hS U hU hW => X.kept A s U H locs hE hS hU hW
  have hl := lv_entry ([.ref M.o, .int p0, .int p1]) (n := 4) (Nat.le_of_ble_eq_true rfl)
  rw [lg_entry_eq]
  generalize (lg_sl ([.ref M.o, .int p0, .int p1]) ++ List.replicate (4 - (lg_sl ([.ref M.o, .int p0, .int p1])).length) Slot.unset).toArray = ls at hl ⊢
  have hl : lv_has ls 4 [(0, .ref M.o), (1, .int p0), (2, .int p1)] := hl
  refine qabs (fun Q hQ => ?_)
  have hB_84 : ∀ (y_3 : Int32) (S : MS) (H : Heap) (locs : List Loc) (ls : Array Slot), f_Mo_timeOf_84 K y_3 S = some (r, S') → va_P (dC, dI) classes (wM M S) H → va_D A (wM M S) → va_S A s.heap H locs → lv_has ls 4 [(0, .ref M.o), (3, .int y_3)] → W p l e ({ frames := 3, cells := 0, slots := 0, locals := 67 }) s m ([.ref M.o, .int p0, .int p1] : List Value).toArray below meth c H locs 0 0 Q (F0 m 84 ls []) := by
    intro y_3 S H locs ls h hP hD hS hl
    rw [f_Mo_timeOf_84] at h
    refine lv_aload_n hx hb d_Mo_timeOf_84 rfl (lv_at hl 0 rfl) ?_
    refine lv_iload_n hx hb d_Mo_timeOf_85 rfl (lv_at hl 1 rfl) ?_
    refine lv_bipush (v := 24) hx hb d_Mo_timeOf_86 (by decide) ?_
    refine lv_iadd hx hb d_Mo_timeOf_88 ?_
    obtain ⟨r_15, S_15, hc_15, h⟩ := lf_cE h
    have hFc := lx_free hD hS hA
    refine va_calli (va_runV (As := [.int (y_3 + 24)]) (rest := []) ⟨hx, hb, hml, hown, hts⟩ (l_Mo_two l dC dI X _ hc_15) (cwV 1 hts (gwV good_Mq (u_Mq_Mo _ k_Mo_97) (u_Mq_Mo _ k_Mo_98) (u_Mq_Mo _ k_Mo_476) (u_Mq_Mo _ k_Mo_0) (wcs (u_Mq_Mo _ k_Mo_99) (fun _ h => h))) rfl rfl rfl (by decide +kernel) ⟨Nat.le_of_ble_eq_true rfl, Nat.le_of_ble_eq_true rfl⟩) (pv_ofE (X.same _) (fun U z1 z2 => X.mono _ _ U hFc (hEw _ _ hS U z1 z2)) hP hK hD (va_recv hK hP (ci := 12) (q0 := 0) rfl rfl)) rfl rfl hl.1 rfl (lv_room (Nat.le_of_ble_eq_true rfl)) d_Mo_timeOf_89 ⟨by decide, by decide⟩) hS (fun q _ h => hFc q h) hFc (fun r_ u t H locs ht hvm hw hB hz1 hk1 hS => ?_)
    rw [hw]
    obtain ⟨hP, -, hD⟩ := hB
    rw [ht] at hP
    have hD := lx_dj hD hFc
    refine lv_aload_n hx hb d_Mo_timeOf_92 rfl (lv_at hl 0 rfl) ?_
    refine lv_iload_n hx hb d_Mo_timeOf_93 rfl (lv_at hl 1 rfl) ?_
    refine lv_bipush (v := 22) hx hb d_Mo_timeOf_94 (by decide) ?_
    refine lv_iadd hx hb d_Mo_timeOf_96 ?_
    obtain ⟨r_16, S_16, hc_16, h⟩ := lf_cE h
    have hFc := lx_free hD hS hA
    refine va_calli (va_runV (As := [.int (y_3 + 22)]) (rest := [.int r_15]) ⟨hx, hb, hml, hown, hts⟩ (l_Mo_two l dC dI X _ hc_16) (cwV 1 hts (gwV good_Mq (u_Mq_Mo _ k_Mo_97) (u_Mq_Mo _ k_Mo_98) (u_Mq_Mo _ k_Mo_476) (u_Mq_Mo _ k_Mo_0) (wcs (u_Mq_Mo _ k_Mo_99) (fun _ h => h))) rfl rfl rfl (by decide +kernel) ⟨Nat.le_of_ble_eq_true rfl, Nat.le_of_ble_eq_true rfl⟩) (pv_ofE (X.same _) (fun U z1 z2 => X.mono _ _ U hFc (hEw _ _ hS U z1 z2)) hP hK hD (va_recv hK hP (ci := 12) (q0 := 0) rfl rfl)) rfl rfl hl.1 rfl (lv_room (Nat.le_of_ble_eq_true rfl)) d_Mo_timeOf_97 ⟨by decide, by decide⟩) hS (fun q _ h => hFc q h) hFc (fun r_ u t H locs ht hvm hw hB hz1 hk1 hS => ?_)
    rw [hw]
    obtain ⟨hP, -, hD⟩ := hB
    rw [ht] at hP
    have hD := lx_dj hD hFc
    obtain ⟨r_17, hc_17, h⟩ := lf_bE h
    have hFc := lx_free0 hS hA
    refine va_calll (va_runS (As := [.int r_15, .int r_16]) (rest := []) ⟨hx, hb, hml, hown, hts⟩ (l_Mo_seconds l dC dI  _ hc_17) (va_cwS 2 hts (gwS good_Mq (u_Mq_Mo _ k_Mo_281) (u_Mq_Mo _ k_Mo_282) (u_Mq_Mo _ k_Mo_0) (wcs (u_Mq_Mo _ k_Mo_283) (fun _ h => h))) rfl rfl rfl (by decide +kernel) ⟨Nat.le_of_ble_eq_true rfl, Nat.le_of_ble_eq_true rfl⟩) (ps_of (W := []) (tys := []) (hP.sub (ws' := []) [] rfl) (hK.sub [] rfl) (hD.sub (ws' := []) [] (by decide) rfl)) rfl rfl hl.1 rfl (lv_room (Nat.le_of_ble_eq_true rfl)) d_Mo_timeOf_100 ⟨by decide, by decide⟩) hS (fun q _ h => hFc q h) hFc (fun r_ u t H locs ht hvm hw hB hz1 hk1 hS => ?_)
    rw [hw]
    have hP := lx_stat (A := A) hP hk1
    rw [hQ]
    have e1 : (r_17 : Int64) = r := congrArg Prod.fst (Option.some.inj h)
    have e2 : S_16 = S' := congrArg Prod.snd (Option.some.inj h)
    have hP := lx_newP e2.symm hP
    have hD := lx_newD e2.symm hD
    exact W.lret (v := r_17) hx hb hr (fun t ht hW => ⟨⟨r_17, (), rfl, e1, by rw [ht]; exact hP, va_K.moved hW.alike hK, hD⟩, hS.F ht⟩) hS.2.2 d_Mo_timeOf_103
  have hB_35 : ∀ (y_2 : Int32) (y_3 : Int32) (S : MS) (H : Heap) (locs : List Loc) (ls : Array Slot), f_Mo_timeOf_35 K y_2 y_3 S = some (r, S') → va_P (dC, dI) classes (wM M S) H → va_D A (wM M S) → va_S A s.heap H locs → lv_has ls 4 [(0, .ref M.o), (2, .int y_2), (3, .int y_3)] → W p l e ({ frames := 3, cells := 0, slots := 0, locals := 67 }) s m ([.ref M.o, .int p0, .int p1] : List Value).toArray below meth c H locs 0 0 Q (F0 m 35 ls []) := by
    intro y_2 y_3 S H locs ls h hP hD hS hl
    rw [f_Mo_timeOf_35] at h
    refine lv_iload_n hx hb d_Mo_timeOf_35 rfl (lv_at hl 1 rfl) ?_
    refine lv_iconst (v := 1) hx hb d_Mo_timeOf_36 (by decide) ?_
    refine lv_icmp_ne (tgt := 84) hx hb d_Mo_timeOf_37 (by decide) (fun c_8 => ?_) (fun c_8 => ?_)
    · have h := lf_f h c_8
      exact hB_84 y_3 S _ _ _ h hP hD hS (lv_sub hl [0, 2] rfl)
    · have h := lf_t h c_8
      refine lv_aload_n hx hb d_Mo_timeOf_40 rfl (lv_at hl 0 rfl) ?_
      refine lv_iload_n hx hb d_Mo_timeOf_41 rfl (lv_at hl 2 rfl) ?_
      refine lv_bipush (v := 16) hx hb d_Mo_timeOf_42 (by decide) ?_
      refine lv_iadd hx hb d_Mo_timeOf_44 ?_
      obtain ⟨r_9, S_9, hc_9, h⟩ := lf_cE h
      have hFc := lx_free hD hS hA
      refine va_calli (va_runV (As := [.int (y_3 + 16)]) (rest := []) ⟨hx, hb, hml, hown, hts⟩ (l_Mo_two l dC dI X _ hc_9) (cwV 1 hts (gwV good_Mq (u_Mq_Mo _ k_Mo_97) (u_Mq_Mo _ k_Mo_98) (u_Mq_Mo _ k_Mo_476) (u_Mq_Mo _ k_Mo_0) (wcs (u_Mq_Mo _ k_Mo_99) (fun _ h => h))) rfl rfl rfl (by decide +kernel) ⟨Nat.le_of_ble_eq_true rfl, Nat.le_of_ble_eq_true rfl⟩) (pv_ofE (X.same _) (fun U z1 z2 => X.mono _ _ U hFc (hEw _ _ hS U z1 z2)) hP hK hD (va_recv hK hP (ci := 12) (q0 := 0) rfl rfl)) rfl rfl hl.1 rfl (lv_room (Nat.le_of_ble_eq_true rfl)) d_Mo_timeOf_45 ⟨by decide, by decide⟩) hS (fun q _ h => hFc q h) hFc (fun r_ u t H locs ht hvm hw hB hz1 hk1 hS => ?_)
      rw [hw]
      obtain ⟨hP, -, hD⟩ := hB
      rw [ht] at hP
      have hD := lx_dj hD hFc
      refine lv_if_eq (tgt := 84) hx hb d_Mo_timeOf_48 (by decide) (fun c_10 => ?_) (fun c_10 => ?_)
      · have h := lf_t h c_10
        exact hB_84 y_3 S_9 _ _ _ h hP hD hS (lv_sub hl [0, 2] rfl)
      · have h := lf_f h c_10
        refine lv_aload_n hx hb d_Mo_timeOf_51 rfl (lv_at hl 0 rfl) ?_
        refine lv_iload_n hx hb d_Mo_timeOf_52 rfl (lv_at hl 2 rfl) ?_
        refine lv_bipush (v := 16) hx hb d_Mo_timeOf_53 (by decide) ?_
        refine lv_iadd hx hb d_Mo_timeOf_55 ?_
        obtain ⟨r_11, S_11, hc_11, h⟩ := lf_cE h
        have hFc := lx_free hD hS hA
        refine va_calli (va_runV (As := [.int (y_3 + 16)]) (rest := []) ⟨hx, hb, hml, hown, hts⟩ (l_Mo_two l dC dI X _ hc_11) (cwV 1 hts (gwV good_Mq (u_Mq_Mo _ k_Mo_97) (u_Mq_Mo _ k_Mo_98) (u_Mq_Mo _ k_Mo_476) (u_Mq_Mo _ k_Mo_0) (wcs (u_Mq_Mo _ k_Mo_99) (fun _ h => h))) rfl rfl rfl (by decide +kernel) ⟨Nat.le_of_ble_eq_true rfl, Nat.le_of_ble_eq_true rfl⟩) (pv_ofE (X.same _) (fun U z1 z2 => X.mono _ _ U hFc (hEw _ _ hS U z1 z2)) hP hK hD (va_recv hK hP (ci := 12) (q0 := 0) rfl rfl)) rfl rfl hl.1 rfl (lv_room (Nat.le_of_ble_eq_true rfl)) d_Mo_timeOf_56 ⟨by decide, by decide⟩) hS (fun q _ h => hFc q h) hFc (fun r_ u t H locs ht hvm hw hB hz1 hk1 hS => ?_)
        rw [hw]
        obtain ⟨hP, -, hD⟩ := hB
        rw [ht] at hP
        have hD := lx_dj hD hFc
        refine lv_aload_n hx hb d_Mo_timeOf_59 rfl (lv_at hl 0 rfl) ?_
        refine lv_iload_n hx hb d_Mo_timeOf_60 rfl (lv_at hl 2 rfl) ?_
        refine lv_bipush (v := 14) hx hb d_Mo_timeOf_61 (by decide) ?_
        refine lv_iadd hx hb d_Mo_timeOf_63 ?_
        obtain ⟨r_12, S_12, hc_12, h⟩ := lf_cE h
        have hFc := lx_free hD hS hA
        refine va_calli (va_runV (As := [.int (y_3 + 14)]) (rest := [.int r_11]) ⟨hx, hb, hml, hown, hts⟩ (l_Mo_two l dC dI X _ hc_12) (cwV 1 hts (gwV good_Mq (u_Mq_Mo _ k_Mo_97) (u_Mq_Mo _ k_Mo_98) (u_Mq_Mo _ k_Mo_476) (u_Mq_Mo _ k_Mo_0) (wcs (u_Mq_Mo _ k_Mo_99) (fun _ h => h))) rfl rfl rfl (by decide +kernel) ⟨Nat.le_of_ble_eq_true rfl, Nat.le_of_ble_eq_true rfl⟩) (pv_ofE (X.same _) (fun U z1 z2 => X.mono _ _ U hFc (hEw _ _ hS U z1 z2)) hP hK hD (va_recv hK hP (ci := 12) (q0 := 0) rfl rfl)) rfl rfl hl.1 rfl (lv_room (Nat.le_of_ble_eq_true rfl)) d_Mo_timeOf_64 ⟨by decide, by decide⟩) hS (fun q _ h => hFc q h) hFc (fun r_ u t H locs ht hvm hw hB hz1 hk1 hS => ?_)
        rw [hw]
        obtain ⟨hP, -, hD⟩ := hB
        rw [ht] at hP
        have hD := lx_dj hD hFc
        obtain ⟨r_13, hc_13, h⟩ := lf_bE h
        have hFc := lx_free0 hS hA
        refine va_calll (va_runS (As := [.int r_11, .int r_12]) (rest := []) ⟨hx, hb, hml, hown, hts⟩ (l_Mo_seconds l dC dI  _ hc_13) (va_cwS 2 hts (gwS good_Mq (u_Mq_Mo _ k_Mo_281) (u_Mq_Mo _ k_Mo_282) (u_Mq_Mo _ k_Mo_0) (wcs (u_Mq_Mo _ k_Mo_283) (fun _ h => h))) rfl rfl rfl (by decide +kernel) ⟨Nat.le_of_ble_eq_true rfl, Nat.le_of_ble_eq_true rfl⟩) (ps_of (W := []) (tys := []) (hP.sub (ws' := []) [] rfl) (hK.sub [] rfl) (hD.sub (ws' := []) [] (by decide) rfl)) rfl rfl hl.1 rfl (lv_room (Nat.le_of_ble_eq_true rfl)) d_Mo_timeOf_67 ⟨by decide, by decide⟩) hS (fun q _ h => hFc q h) hFc (fun r_ u t H locs ht hvm hw hB hz1 hk1 hS => ?_)
        rw [hw]
        have hP := lx_stat (A := A) hP hk1
        refine lv_aload_n hx hb d_Mo_timeOf_70 rfl (lv_at hl 0 rfl) ?_
        refine lv_iload_n hx hb d_Mo_timeOf_71 rfl (lv_at hl 2 rfl) ?_
        refine lv_bipush (v := 13) hx hb d_Mo_timeOf_72 (by decide) ?_
        refine lv_iadd hx hb d_Mo_timeOf_74 ?_
        obtain ⟨r_14, S_14, hc_14, h⟩ := lf_cE h
        have hFc := lx_free hD hS hA
        refine va_calli (va_runV (As := [.int (y_3 + 13)]) (rest := [.long r_13]) ⟨hx, hb, hml, hown, hts⟩ (l_Mo_one l dC dI X _ hc_14) (cwV 1 hts (gwV good_Mq (u_Mq_Mo _ k_Mo_94) (u_Mq_Mo _ k_Mo_95) (u_Mq_Mo _ k_Mo_475) (u_Mq_Mo _ k_Mo_0) (wcs (u_Mq_Mo _ k_Mo_96) (fun _ h => h))) rfl rfl rfl (by decide +kernel) ⟨Nat.le_of_ble_eq_true rfl, Nat.le_of_ble_eq_true rfl⟩) (pv_ofE (X.same _) (fun U z1 z2 => X.mono _ _ U hFc (hEw _ _ hS U z1 z2)) hP hK hD (va_recv hK hP (ci := 12) (q0 := 0) rfl rfl)) rfl rfl hl.1 rfl (lv_room (Nat.le_of_ble_eq_true rfl)) d_Mo_timeOf_75 ⟨by decide, by decide⟩) hS (fun q _ h => hFc q h) hFc (fun r_ u t H locs ht hvm hw hB hz1 hk1 hS => ?_)
        rw [hw]
        obtain ⟨hP, -, hD⟩ := hB
        rw [ht] at hP
        have hD := lx_dj hD hFc
        refine lv_bipush (v := 100) hx hb d_Mo_timeOf_78 (by decide) ?_
        refine lv_idiv hx hb d_Mo_timeOf_80 (by decide) ?_
        refine lv_i2l hx hb d_Mo_timeOf_81 rfl ?_
        refine lv_ladd hx hb d_Mo_timeOf_82 ?_
        rw [hQ]
        have e1 : (r_13 + ((r_14 / 100).toInt64) : Int64) = r := congrArg Prod.fst (Option.some.inj h)
        have e2 : S_14 = S' := congrArg Prod.snd (Option.some.inj h)
        have hP := lx_newP e2.symm hP
        have hD := lx_newD e2.symm hD
        exact W.lret (v := (r_13 + ((r_14 / 100).toInt64))) hx hb hr (fun t ht hW => ⟨⟨(r_13 + ((r_14 / 100).toInt64)), (), rfl, e1, by rw [ht]; exact hP, va_K.moved hW.alike hK, hD⟩, hS.F ht⟩) hS.2.2 d_Mo_timeOf_83
  rw [f_Mo_timeOf] at h
  refine lv_aload_n hx hb d_Mo_timeOf_0 rfl (lv_at hl 0 rfl) ?_
  refine va_get (D := (dC, dI)) (ci := 12) (v := .ref M.a_at) (C := R_Mo) (T := F_Mo) (N := 66) hx hb hts (fun w h => u_Mq_Mo w (i_Mo w h)) hown hK hP 0 rfl rfl 24 (by decide) (hts _ (u_Mq_Mo _ k_Mo_31)) (fun _ h9 => h9) rfl d_Mo_timeOf_1 ?_
  refine lv_iload_n hx hb d_Mo_timeOf_4 rfl (lv_at hl 1 rfl) ?_
  obtain ⟨g_1, h⟩ := lf_gE h
  refine va_iald hx hb hK hP 6 5 rfl rfl g_1 d_Mo_timeOf_5 ?_
  refine lv_topi (fun x_2 ex_2 => ?_)
  have h := lf_lE h ex_2
  refine lv_istore_n (lv' := [(3, .int x_2), (0, .ref M.o), (1, .int p0), (2, .int p1)]) hx hb d_Mo_timeOf_6 rfl hl (by decide) rfl (fun ls hl => ?_)
  refine lv_iload_n hx hb d_Mo_timeOf_7 rfl (lv_at hl 3 rfl) ?_
  refine lv_if_ne (tgt := 35) hx hb d_Mo_timeOf_8 (by decide) (fun c_3 => ?_) (fun c_3 => ?_)
  · have h := lf_f h c_3
    exact hB_35 p1 x_2 S _ _ _ h hP hD hS (lv_sub hl [1, 3, 0] rfl)
  · have h := lf_t h c_3
    refine lv_aload_n hx hb d_Mo_timeOf_11 rfl (lv_at hl 1 rfl) ?_
    refine lv_iload_n hx hb d_Mo_timeOf_12 rfl (lv_at hl 0 rfl) ?_
    refine lv_bipush (v := 18) hx hb d_Mo_timeOf_13 (by decide) ?_
    refine lv_iadd hx hb d_Mo_timeOf_15 ?_
    obtain ⟨r_4, S_4, hc_4, h⟩ := lf_cE h
    have hFc := lx_free hD hS hA
    refine va_calli (va_runV (As := [.int (x_2 + 18)]) (rest := []) ⟨hx, hb, hml, hown, hts⟩ (l_Mo_two l dC dI X _ hc_4) (cwV 1 hts (gwV good_Mq (u_Mq_Mo _ k_Mo_97) (u_Mq_Mo _ k_Mo_98) (u_Mq_Mo _ k_Mo_476) (u_Mq_Mo _ k_Mo_0) (wcs (u_Mq_Mo _ k_Mo_99) (fun _ h => h))) rfl rfl rfl (by decide +kernel) ⟨Nat.le_of_ble_eq_true rfl, Nat.le_of_ble_eq_true rfl⟩) (pv_ofE (X.same _) (fun U z1 z2 => X.mono _ _ U hFc (hEw _ _ hS U z1 z2)) hP hK hD (va_recv hK hP (ci := 12) (q0 := 0) rfl rfl)) rfl rfl hl.1 rfl (lv_room (Nat.le_of_ble_eq_true rfl)) d_Mo_timeOf_16 ⟨by decide, by decide⟩) hS (fun q _ h => hFc q h) hFc (fun r_ u t H locs ht hvm hw hB hz1 hk1 hS => ?_)
    rw [hw]
    obtain ⟨hP, -, hD⟩ := hB
    rw [ht] at hP
    have hD := lx_dj hD hFc
    refine lv_if_eq (tgt := 35) hx hb d_Mo_timeOf_19 (by decide) (fun c_5 => ?_) (fun c_5 => ?_)
    · have h := lf_t h c_5
      exact hB_35 p1 x_2 S_4 _ _ _ h hP hD hS (lv_sub hl [1, 3, 0] rfl)
    · have h := lf_f h c_5
      refine lv_aload_n hx hb d_Mo_timeOf_22 rfl (lv_at hl 1 rfl) ?_
      refine lv_iload_n hx hb d_Mo_timeOf_23 rfl (lv_at hl 0 rfl) ?_
      refine lv_bipush (v := 18) hx hb d_Mo_timeOf_24 (by decide) ?_
      refine lv_iadd hx hb d_Mo_timeOf_26 ?_
      obtain ⟨r_6, S_6, hc_6, h⟩ := lf_cE h
      have hFc := lx_free hD hS hA
      refine va_calli (va_runV (As := [.int (x_2 + 18)]) (rest := []) ⟨hx, hb, hml, hown, hts⟩ (l_Mo_two l dC dI X _ hc_6) (cwV 1 hts (gwV good_Mq (u_Mq_Mo _ k_Mo_97) (u_Mq_Mo _ k_Mo_98) (u_Mq_Mo _ k_Mo_476) (u_Mq_Mo _ k_Mo_0) (wcs (u_Mq_Mo _ k_Mo_99) (fun _ h => h))) rfl rfl rfl (by decide +kernel) ⟨Nat.le_of_ble_eq_true rfl, Nat.le_of_ble_eq_true rfl⟩) (pv_ofE (X.same _) (fun U z1 z2 => X.mono _ _ U hFc (hEw _ _ hS U z1 z2)) hP hK hD (va_recv hK hP (ci := 12) (q0 := 0) rfl rfl)) rfl rfl hl.1 rfl (lv_room (Nat.le_of_ble_eq_true rfl)) d_Mo_timeOf_27 ⟨by decide, by decide⟩) hS (fun q _ h => hFc q h) hFc (fun r_ u t H locs ht hvm hw hB hz1 hk1 hS => ?_)
      rw [hw]
      obtain ⟨hP, -, hD⟩ := hB
      rw [ht] at hP
      have hD := lx_dj hD hFc
      refine lv_iconst (v := 0) hx hb d_Mo_timeOf_30 (by decide) ?_
      obtain ⟨r_7, hc_7, h⟩ := lf_bE h
      have hFc := lx_free0 hS hA
      refine va_calll (va_runS (As := [.int r_6, .int 0]) (rest := []) ⟨hx, hb, hml, hown, hts⟩ (l_Mo_seconds l dC dI  _ hc_7) (va_cwS 2 hts (gwS good_Mq (u_Mq_Mo _ k_Mo_281) (u_Mq_Mo _ k_Mo_282) (u_Mq_Mo _ k_Mo_0) (wcs (u_Mq_Mo _ k_Mo_283) (fun _ h => h))) rfl rfl rfl (by decide +kernel) ⟨Nat.le_of_ble_eq_true rfl, Nat.le_of_ble_eq_true rfl⟩) (ps_of (W := []) (tys := []) (hP.sub (ws' := []) [] rfl) (hK.sub [] rfl) (hD.sub (ws' := []) [] (by decide) rfl)) rfl rfl hl.1 rfl (lv_room (Nat.le_of_ble_eq_true rfl)) d_Mo_timeOf_31 ⟨by decide, by decide⟩) hS (fun q _ h => hFc q h) hFc (fun r_ u t H locs ht hvm hw hB hz1 hk1 hS => ?_)
      rw [hw]
      have hP := lx_stat (A := A) hP hk1
      rw [hQ]
      have e1 : (r_7 : Int64) = r := congrArg Prod.fst (Option.some.inj h)
      have e2 : S_6 = S' := congrArg Prod.snd (Option.some.inj h)
      have hP := lx_newP e2.symm hP
      have hD := lx_newD e2.symm hD
      exact W.lret (v := r_7) hx hb hr (fun t ht hW => ⟨⟨r_7, (), rfl, e1, by rw [ht]; exact hP, va_K.moved hW.alike hK, hD⟩, hS.F ht⟩) hS.2.2 d_Mo_timeOf_34
set_option maxHeartbeats 4000000 in
set_option maxRecDepth 100000 in
theorem l_Mo_clustersOf (l : Launch) (dC : Nat → ClassId) (dI : Nat → Nat → Nat) {K : Nat} {M : MA} {E : (Nat → Prop) → State → Prop} (X : lx_X l dC dI K M E) (sz : Nat) {S S' : MS} {p0 : Int32} {r : Int32} (h : f_Mo_clustersOf K S p0 = some (r, S')) : Met l y_Mo_clustersOf (.code y_Mo_clustersOf b_Mo_clustersOf 2 (some .int) :: V_Mq) ({ frames := 5, cells := 0, slots := 0, locals := 106 }) (va_Pc [.ref M.o, .int p0] (fun U => U.heap.size = sz ∧ at_ (dC, dI) (fun _ => True) (wM M S) (tM M) U ∧ E (va_A (wM M S) sz) U)) (va_Qi (fun (r_ : Int32) (u : Unit) => r_ = r) (fun (u : Unit) t => at_ (dC, dI) (va_A (wM M S) sz) (wM M S') (tM M) t) (va_A (wM M S) sz)) 0 0 (va_A (wM M S) sz) := by
  refine Met.ofW (cc := b_Mo_clustersOf) (maxL := 2) (ret := (some .int)) (by decide) rfl ?_
  intro p e s m args below meth c s₁ B hml hv
  obtain ⟨rfl, hsz, ⟨hP, hK, hD0⟩, hE⟩ := hv
  have hx := B.exec
  have hb := B.bytes
  have hr := B.returns
  have hts0 := atoms_spec (ws := .code y_Mo_clustersOf b_Mo_clustersOf 2 (some .int) :: V_Mq) B.pre
  have hts : ∀ w ∈ V_Mq, w.before ([.ref M.o, .int p0] : List Value).toArray s = true := fun w h => hts0 w (List.mem_cons_of_mem _ h)
  have hown : s.vm.findClass R_Mo = some m.cls := findClass_of_methodNamed B.named
  subst hsz
  have hD := hD0.self (sz := s.heap.size)
  generalize hAe : va_A (wM M S) s.heap.size = A at hD hE ⊢
  have hA : ∀ q : Nat, s.heap.size ≤ q → A q := fun q h => by rw [← hAe]; exact Or.inr h
  have hS : va_S A s.heap s.heap [] := va_S.rf
  have hP : va_P (dC, dI) classes (wM M S) s.heap := hP
  have hK : va_K (dC, dI) classes (tM M) s := hK
  have hEw : ∀ (H : Heap) (locs : List Loc), va_S A s.heap H locs → ∀ U : State, U.heap = H → s.WarmedH U.vm → E A U := fun H locs hS U hU hW => X.kept A s U H locs hE hS hU hW
  have hl := lv_entry ([.ref M.o, .int p0]) (n := 2) (Nat.le_of_ble_eq_true rfl)
  rw [lg_entry_eq]
  generalize (lg_sl ([.ref M.o, .int p0]) ++ List.replicate (2 - (lg_sl ([.ref M.o, .int p0])).length) Slot.unset).toArray = ls at hl ⊢
  have hl : lv_has ls 2 [(0, .ref M.o), (1, .int p0)] := hl
  refine qabs (fun Q hQ => ?_)
  rw [f_Mo_clustersOf] at h
  refine lv_aload_n hx hb d_Mo_clustersOf_0 rfl (lv_at hl 0 rfl) ?_
  refine lv_aload_n hx hb d_Mo_clustersOf_1 rfl (lv_at hl 0 rfl) ?_
  refine lv_iload_n hx hb d_Mo_clustersOf_2 rfl (lv_at hl 1 rfl) ?_
  obtain ⟨r_1, S_1, hc_1, h⟩ := lf_cE h
  have hFc := lx_free hD hS hA
  refine va_calli (va_runV (As := [.int p0]) (rest := [.ref M.o]) ⟨hx, hb, hml, hown, hts⟩ (l_Mo_beginOf l dC dI X _ hc_1) (cwV 1 hts (gwV good_Mq (u_Mq_Mo _ k_Mo_124) (u_Mq_Mo _ k_Mo_125) (u_Mq_Mo _ k_Mo_490) (u_Mq_Mo _ k_Mo_0) (wcs (u_Mq_Mo _ k_Mo_126) (fun _ h => h))) rfl rfl rfl (by decide +kernel) ⟨Nat.le_of_ble_eq_true rfl, Nat.le_of_ble_eq_true rfl⟩) (pv_ofE (X.same _) (fun U z1 z2 => X.mono _ _ U hFc (hEw _ _ hS U z1 z2)) hP hK hD (va_recv hK hP (ci := 12) (q0 := 0) rfl rfl)) rfl rfl hl.1 rfl (lv_room (Nat.le_of_ble_eq_true rfl)) d_Mo_clustersOf_3 ⟨by decide, by decide⟩) hS (fun q _ h => hFc q h) hFc (fun r_ u t H locs ht hvm hw hB hz1 hk1 hS => ?_)
  rw [hw]
  obtain ⟨hP, -, hD⟩ := hB
  rw [ht] at hP
  have hD := lx_dj hD hFc
  obtain ⟨S_2, hc_2, h⟩ := lf_bE h
  have hFc := lx_free hD hS hA
  refine va_callv (va_runV (As := [.int r_1]) (rest := []) ⟨hx, hb, hml, hown, hts⟩ (l_Mo_walk l dC dI X _ hc_2) (cwV 1 hts (gwV good_Mq (u_Mq_Mo _ k_Mo_275) (u_Mq_Mo _ k_Mo_276) (u_Mq_Mo _ k_Mo_487) (u_Mq_Mo _ k_Mo_0) (wcs (u_Mq_Mo _ k_Mo_277) (fun _ h => h))) rfl rfl rfl (by decide +kernel) ⟨Nat.le_of_ble_eq_true rfl, Nat.le_of_ble_eq_true rfl⟩) (pv_ofE (X.same _) (fun U z1 z2 => X.mono _ _ U hFc (hEw _ _ hS U z1 z2)) hP hK hD (va_recv hK hP (ci := 12) (q0 := 0) rfl rfl)) rfl rfl hl.1 rfl (lv_room (Nat.le_of_ble_eq_true rfl)) d_Mo_clustersOf_6 ⟨by decide, by decide⟩) hS (fun q _ h => hFc q h) hFc (fun u t H locs ht hvm hw hB hz1 hk1 hS => ?_)
  obtain ⟨hP, -, hD⟩ := hB
  rw [ht] at hP
  have hD := lx_dj hD hFc
  refine lv_aload_n hx hb d_Mo_clustersOf_9 rfl (lv_at hl 0 rfl) ?_
  refine va_get (D := (dC, dI)) (ci := 12) (v := .int S_2.v_links) (C := R_Mo) (T := F_Mo) (N := 66) hx hb hts (fun w h => u_Mq_Mo w (i_Mo w h)) hown hK hP 0 rfl rfl 35 (by decide) (hts _ (u_Mq_Mo _ k_Mo_42)) (fun _ h9 => h9) rfl d_Mo_clustersOf_10 ?_
  rw [hQ]
  have e1 : S_2.v_links = r := congrArg Prod.fst (Option.some.inj h)
  have e2 : S_2 = S' := congrArg Prod.snd (Option.some.inj h)
  have hP := lx_newP e2.symm hP
  have hD := lx_newD e2.symm hD
  exact W.iret (v := S_2.v_links) hx hb hr (fun t ht hW => ⟨⟨S_2.v_links, (), rfl, e1, by rw [ht]; exact hP, va_K.moved hW.alike hK, hD⟩, hS.F ht⟩) hS.2.2 d_Mo_clustersOf_13
set_option maxHeartbeats 4000000 in
set_option maxRecDepth 100000 in
theorem l_Mo_recordBlocks (l : Launch) (dC : Nat → ClassId) (dI : Nat → Nat → Nat) {K : Nat} {M : MA} {E : (Nat → Prop) → State → Prop} (X : lx_X l dC dI K M E) (sz : Nat) {S S' : MS} {r : Int32} (h : f_Mo_recordBlocks K S = some (r, S')) : Met l y_Mo_recordBlocks (.code y_Mo_recordBlocks b_Mo_recordBlocks 3 (some .int) :: V_Mq) ({ frames := 6, cells := 0, slots := 0, locals := 127 }) (va_Pc [.ref M.o] (fun U => U.heap.size = sz ∧ at_ (dC, dI) (fun _ => True) (wM M S) (tM M) U ∧ E (va_A (wM M S) sz) U)) (va_Qi (fun (r_ : Int32) (u : Unit) => r_ = r) (fun (u : Unit) t => at_ (dC, dI) (va_A (wM M S) sz) (wM M S') (tM M) t) (va_A (wM M S) sz)) 0 0 (va_A (wM M S) sz) := by
  refine Met.ofW (cc := b_Mo_recordBlocks) (maxL := 3) (ret := (some .int)) (by decide) rfl ?_
  intro p e s m args below meth c s₁ B hml hv
  obtain ⟨rfl, hsz, ⟨hP, hK, hD0⟩, hE⟩ := hv
  have hx := B.exec
  have hb := B.bytes
  have hr := B.returns
  have hts0 := atoms_spec (ws := .code y_Mo_recordBlocks b_Mo_recordBlocks 3 (some .int) :: V_Mq) B.pre
  have hts : ∀ w ∈ V_Mq, w.before ([.ref M.o] : List Value).toArray s = true := fun w h => hts0 w (List.mem_cons_of_mem _ h)
  have hown : s.vm.findClass R_Mo = some m.cls := findClass_of_methodNamed B.named
  subst hsz
  have hD := hD0.self (sz := s.heap.size)
  generalize hAe : va_A (wM M S) s.heap.size = A at hD hE ⊢
  have hA : ∀ q : Nat, s.heap.size ≤ q → A q := fun q h => by rw [← hAe]; exact Or.inr h
  have hS : va_S A s.heap s.heap [] := va_S.rf
  have hP : va_P (dC, dI) classes (wM M S) s.heap := hP
  have hK : va_K (dC, dI) classes (tM M) s := hK
  have hEw : ∀ (H : Heap) (locs : List Loc), va_S A s.heap H locs → ∀ U : State, U.heap = H → s.WarmedH U.vm → E A U := fun H locs hS U hU hW => X.kept A s U H locs hE hS hU hW
  have hl := lv_entry ([.ref M.o]) (n := 3) (Nat.le_of_ble_eq_true rfl)
  rw [lg_entry_eq]
  generalize (lg_sl ([.ref M.o]) ++ List.replicate (3 - (lg_sl ([.ref M.o])).length) Slot.unset).toArray = ls at hl ⊢
  have hl : lv_has ls 3 [(0, .ref M.o)] := hl
  refine qabs (fun Q hQ => ?_)
  have hB_42 : ∀ (rec_9 : Int32 → Int32 → MS → Option (Int32 × MS)) (hr_9 : ∀ (y_1 : Int32) (y_2 : Int32) (S : MS) (H : Heap) (locs : List Loc) (ls : Array Slot), rec_9 y_1 y_2 S = some (r, S') → va_P (dC, dI) classes (wM M S) H → va_D A (wM M S) → va_S A s.heap H locs → lv_has ls 3 [(0, .ref M.o), (1, .int y_1), (2, .int y_2)] → W p l e ({ frames := 6, cells := 0, slots := 0, locals := 127 }) s m ([.ref M.o] : List Value).toArray below meth c H locs 0 0 Q (F0 m 9 ls [])), ∀ (y_2 : Int32) (z_0 : Int32) (z_1 : Int32) (S : MS) (H : Heap) (locs : List Loc) (ls : Array Slot), f_Mo_recordBlocks_42 K rec_9 y_2 z_0 z_1 S = some (r, S') → va_P (dC, dI) classes (wM M S) H → va_D A (wM M S) → va_S A s.heap H locs → lv_has ls 3 [(0, .ref M.o), (2, .int y_2)] → W p l e ({ frames := 6, cells := 0, slots := 0, locals := 127 }) s m ([.ref M.o] : List Value).toArray below meth c H locs 0 0 Q (F0 m 42 ls [.int z_1, .int z_0]) := by
    intro rec_9 hr_9 y_2 z_0 z_1 S H locs ls h hP hD hS hl
    rw [f_Mo_recordBlocks_42] at h
    refine lv_iadd hx hb d_Mo_recordBlocks_42 ?_
    refine lv_topi (fun x_6 ex_6 => ?_)
    have h := lf_lE h ex_6
    refine lv_istore_n (lv' := [(1, .int x_6), (0, .ref M.o), (2, .int y_2)]) hx hb d_Mo_recordBlocks_43 rfl hl (by decide) rfl (fun ls hl => ?_)
    obtain ⟨x_7, ex_7, h⟩ := lf_lX h
    refine lv_iinc (v := x_7) (lv' := [(2, .int x_7), (1, .int x_6), (0, .ref M.o)]) hx hb d_Mo_recordBlocks_44 hl (k := 2) rfl (by rw [ex_7]; rfl) (by decide) rfl (fun ls hl => ?_)
    refine lv_goto (tgt := 9) hx hb d_Mo_recordBlocks_47 (by decide) ?_
    exact hr_9 x_6 x_7 S _ _ _ h hP hD hS (lv_sub hl [2, 1, 0] rfl)
  have hB_9 : ∀ (k : Nat), ∀ (y_1 : Int32) (y_2 : Int32) (S : MS) (H : Heap) (locs : List Loc) (ls : Array Slot), f_Mo_recordBlocks_9 K k y_1 y_2 S = some (r, S') → va_P (dC, dI) classes (wM M S) H → va_D A (wM M S) → va_S A s.heap H locs → lv_has ls 3 [(0, .ref M.o), (1, .int y_1), (2, .int y_2)] → W p l e ({ frames := 6, cells := 0, slots := 0, locals := 127 }) s m ([.ref M.o] : List Value).toArray below meth c H locs 0 0 Q (F0 m 9 ls []) := by
    intro k
    induction k with
    | zero => intro y_1 y_2 S H locs ls h; exact lf_no h
    | succ k hr_9 =>
      intro y_1 y_2 S H locs ls h hP hD hS hl
      rw [f_Mo_recordBlocks_9] at h
      refine lv_iload_n hx hb d_Mo_recordBlocks_9 rfl (lv_at hl 2 rfl) ?_
      refine lv_aload_n hx hb d_Mo_recordBlocks_10 rfl (lv_at hl 0 rfl) ?_
      refine va_get (D := (dC, dI)) (ci := 12) (v := .int S.v_items) (C := R_Mo) (T := F_Mo) (N := 66) hx hb hts (fun w h => u_Mq_Mo w (i_Mo w h)) hown hK hP 0 rfl rfl 21 (by decide) (hts _ (u_Mq_Mo _ k_Mo_28)) (fun _ h9 => h9) rfl d_Mo_recordBlocks_11 ?_
      refine lv_icmp_ge (tgt := 50) hx hb d_Mo_recordBlocks_14 (by decide) (fun c_2 => ?_) (fun c_2 => ?_)
      · have h := lf_t h c_2
        refine lv_iload_n hx hb d_Mo_recordBlocks_50 rfl (lv_at hl 1 rfl) ?_
        rw [hQ]
        have e1 : y_1 = r := congrArg Prod.fst (Option.some.inj h)
        have e2 : S = S' := congrArg Prod.snd (Option.some.inj h)
        have hP := lx_newP e2.symm hP
        have hD := lx_newD e2.symm hD
        exact W.iret (v := y_1) hx hb hr (fun t ht hW => ⟨⟨y_1, (), rfl, e1, by rw [ht]; exact hP, va_K.moved hW.alike hK, hD⟩, hS.F ht⟩) hS.2.2 d_Mo_recordBlocks_51
      · have h := lf_f h c_2
        refine lv_iload_n hx hb d_Mo_recordBlocks_17 rfl (lv_at hl 1 rfl) ?_
        refine lv_aload_n hx hb d_Mo_recordBlocks_18 rfl (lv_at hl 0 rfl) ?_
        refine lv_iload_n hx hb d_Mo_recordBlocks_19 rfl (lv_at hl 2 rfl) ?_
        obtain ⟨r_3, S_3, hc_3, h⟩ := lf_cE h
        have hFc := lx_free hD hS hA
        refine va_calli (va_runV (As := [.int y_2]) (rest := [.int y_1]) ⟨hx, hb, hml, hown, hts⟩ (l_Mo_isFolder l dC dI X _ hc_3) (cwV 1 hts (gwV good_Mq (u_Mq_Mo _ k_Mo_118) (u_Mq_Mo _ k_Mo_119) (u_Mq_Mo _ k_Mo_489) (u_Mq_Mo _ k_Mo_0) (wcs (u_Mq_Mo _ k_Mo_120) (fun _ h => h))) rfl rfl rfl (by decide +kernel) ⟨Nat.le_of_ble_eq_true rfl, Nat.le_of_ble_eq_true rfl⟩) (pv_ofE (X.same _) (fun U z1 z2 => X.mono _ _ U hFc (hEw _ _ hS U z1 z2)) hP hK hD (va_recv hK hP (ci := 12) (q0 := 0) rfl rfl)) rfl rfl hl.1 rfl (lv_room (Nat.le_of_ble_eq_true rfl)) d_Mo_recordBlocks_20 ⟨by decide, by decide⟩) hS (fun q _ h => hFc q h) hFc (fun r_ u t H locs ht hvm hw hB hz1 hk1 hS => ?_)
        rw [hw]
        obtain ⟨hP, -, hD⟩ := hB
        rw [ht] at hP
        have hD := lx_dj hD hFc
        refine lv_if_eq (tgt := 41) hx hb d_Mo_recordBlocks_23 (by decide) (fun c_4 => ?_) (fun c_4 => ?_)
        · have h := lf_t h c_4
          refine lv_iconst (v := 0) hx hb d_Mo_recordBlocks_41 (by decide) ?_
          exact hB_42 _ hr_9 y_2 y_1 0 S_3 _ _ _ h hP hD hS (lv_sub hl [0, 2] rfl)
        · have h := lf_f h c_4
          refine lv_aload_n hx hb d_Mo_recordBlocks_26 rfl (lv_at hl 0 rfl) ?_
          refine lv_iload_n hx hb d_Mo_recordBlocks_27 rfl (lv_at hl 2 rfl) ?_
          obtain ⟨r_5, S_5, hc_5, h⟩ := lf_cE h
          have hFc := lx_free hD hS hA
          refine va_calli (va_runV (As := [.int y_2]) (rest := [.int y_1]) ⟨hx, hb, hml, hown, hts⟩ (l_Mo_clustersOf l dC dI X _ hc_5) (cwV 1 hts (gwV good_Mq (u_Mq_Mo _ k_Mo_272) (u_Mq_Mo _ k_Mo_273) (u_Mq_Mo _ k_Mo_526) (u_Mq_Mo _ k_Mo_0) (wcs (u_Mq_Mo _ k_Mo_274) (fun _ h => h))) rfl rfl rfl (by decide +kernel) ⟨Nat.le_of_ble_eq_true rfl, Nat.le_of_ble_eq_true rfl⟩) (pv_ofE (X.same _) (fun U z1 z2 => X.mono _ _ U hFc (hEw _ _ hS U z1 z2)) hP hK hD (va_recv hK hP (ci := 12) (q0 := 0) rfl rfl)) rfl rfl hl.1 rfl (lv_room (Nat.le_of_ble_eq_true rfl)) d_Mo_recordBlocks_28 ⟨by decide, by decide⟩) hS (fun q _ h => hFc q h) hFc (fun r_ u t H locs ht hvm hw hB hz1 hk1 hS => ?_)
          rw [hw]
          obtain ⟨hP, -, hD⟩ := hB
          rw [ht] at hP
          have hD := lx_dj hD hFc
          refine lv_aload_n hx hb d_Mo_recordBlocks_31 rfl (lv_at hl 0 rfl) ?_
          refine va_get (D := (dC, dI)) (ci := 12) (v := .int S_5.v_c) (C := R_Mo) (T := F_Mo) (N := 66) hx hb hts (fun w h => u_Mq_Mo w (i_Mo w h)) hown hK hP 0 rfl rfl 11 (by decide) (hts _ (u_Mq_Mo _ k_Mo_18)) (fun _ h9 => h9) rfl d_Mo_recordBlocks_32 ?_
          refine lv_iconst (v := 2) hx hb d_Mo_recordBlocks_35 (by decide) ?_
          refine lv_idiv hx hb d_Mo_recordBlocks_36 (by decide) ?_
          refine lv_imul hx hb d_Mo_recordBlocks_37 ?_
          refine lv_goto (tgt := 42) hx hb d_Mo_recordBlocks_38 (by decide) ?_
          exact hB_42 _ hr_9 y_2 y_1 (r_5 * (S_5.v_c / 2)) S_5 _ _ _ h hP hD hS (lv_sub hl [0, 2] rfl)
  rw [f_Mo_recordBlocks] at h
  refine lv_aload_n hx hb d_Mo_recordBlocks_0 rfl (lv_at hl 0 rfl) ?_
  refine va_get (D := (dC, dI)) (ci := 12) (v := .int S.v_a) (C := R_Mo) (T := F_Mo) (N := 66) hx hb hts (fun w h => u_Mq_Mo w (i_Mo w h)) hown hK hP 0 rfl rfl 16 (by decide) (hts _ (u_Mq_Mo _ k_Mo_23)) (fun _ h9 => h9) rfl d_Mo_recordBlocks_1 ?_
  refine lv_iconst (v := 2) hx hb d_Mo_recordBlocks_4 (by decide) ?_
  refine lv_idiv hx hb d_Mo_recordBlocks_5 (by decide) ?_
  refine lv_topi (fun x_1 ex_1 => ?_)
  have h := lf_lE h ex_1
  refine lv_istore_n (lv' := [(1, .int x_1), (0, .ref M.o)]) hx hb d_Mo_recordBlocks_6 rfl hl (by decide) rfl (fun ls hl => ?_)
  refine lv_iconst (v := 0) hx hb d_Mo_recordBlocks_7 (by decide) ?_
  refine lv_istore_n (lv' := [(2, .int 0), (1, .int x_1), (0, .ref M.o)]) hx hb d_Mo_recordBlocks_8 rfl hl (by decide) rfl (fun ls hl => ?_)
  exact hB_9 K x_1 0 S _ _ _ h hP hD hS (lv_sub hl [2, 1, 0] rfl)
set_option maxHeartbeats 4000000 in
set_option maxRecDepth 100000 in
theorem l_Mo_folderBlocks (l : Launch) (dC : Nat → ClassId) (dI : Nat → Nat → Nat) {K : Nat} {M : MA} {E : (Nat → Prop) → State → Prop} (X : lx_X l dC dI K M E) (sz : Nat) {S S' : MS} {p0 : Int32} {r : Int32} (h : f_Mo_folderBlocks K S p0 = some (r, S')) : Met l y_Mo_folderBlocks (.code y_Mo_folderBlocks b_Mo_folderBlocks 7 (some .int) :: V_Mq) ({ frames := 2, cells := 0, slots := 0, locals := 43 }) (va_Pc [.ref M.o, .int p0] (fun U => U.heap.size = sz ∧ at_ (dC, dI) (fun _ => True) (wM M S) (tM M) U ∧ E (va_A (wM M S) sz) U)) (va_Qi (fun (r_ : Int32) (u : Unit) => r_ = r) (fun (u : Unit) t => at_ (dC, dI) (va_A (wM M S) sz) (wM M S') (tM M) t) (va_A (wM M S) sz)) 0 0 (va_A (wM M S) sz) := by
  refine Met.ofW (cc := b_Mo_folderBlocks) (maxL := 7) (ret := (some .int)) (by decide) rfl ?_
  intro p e s m args below meth c s₁ B hml hv
  obtain ⟨rfl, hsz, ⟨hP, hK, hD0⟩, hE⟩ := hv
  have hx := B.exec
  have hb := B.bytes
  have hr := B.returns
  have hts0 := atoms_spec (ws := .code y_Mo_folderBlocks b_Mo_folderBlocks 7 (some .int) :: V_Mq) B.pre
  have hts : ∀ w ∈ V_Mq, w.before ([.ref M.o, .int p0] : List Value).toArray s = true := fun w h => hts0 w (List.mem_cons_of_mem _ h)
  have hown : s.vm.findClass R_Mo = some m.cls := findClass_of_methodNamed B.named
  subst hsz
  have hD := hD0.self (sz := s.heap.size)
  generalize hAe : va_A (wM M S) s.heap.size = A at hD hE ⊢
  have hA : ∀ q : Nat, s.heap.size ≤ q → A q := fun q h => by rw [← hAe]; exact Or.inr h
  have hS : va_S A s.heap s.heap [] := va_S.rf
  have hP : va_P (dC, dI) classes (wM M S) s.heap := hP
  have hK : va_K (dC, dI) classes (tM M) s := hK
  have hEw : ∀ (H : Heap) (locs : List Loc), va_S A s.heap H locs → ∀ U : State, U.heap = H → s.WarmedH U.vm → E A U := fun H locs hS U hU hW => X.kept A s U H locs hE hS hU hW
  have hl := lv_entry ([.ref M.o, .int p0]) (n := 7) (Nat.le_of_ble_eq_true rfl)
  rw [lg_entry_eq]
  generalize (lg_sl ([.ref M.o, .int p0]) ++ List.replicate (7 - (lg_sl ([.ref M.o, .int p0])).length) Slot.unset).toArray = ls at hl ⊢
  have hl : lv_has ls 7 [(0, .ref M.o), (1, .int p0)] := hl
  refine qabs (fun Q hQ => ?_)
  have hB_100 : ∀ (rec_38 : Int32 → Int32 → Int32 → Int32 → Int32 → MS → Option (Int32 × MS)) (hr_38 : ∀ (y_1 : Int32) (y_2 : Int32) (y_3 : Int32) (y_4 : Int32) (y_5 : Int32) (S : MS) (H : Heap) (locs : List Loc) (ls : Array Slot), rec_38 y_1 y_2 y_3 y_4 y_5 S = some (r, S') → va_P (dC, dI) classes (wM M S) H → va_D A (wM M S) → va_S A s.heap H locs → lv_has ls 7 [(0, .ref M.o), (1, .int y_1), (2, .int y_2), (3, .int y_3), (4, .int y_4), (5, .int y_5)] → W p l e ({ frames := 2, cells := 0, slots := 0, locals := 43 }) s m ([.ref M.o, .int p0] : List Value).toArray below meth c H locs 0 0 Q (F0 m 38 ls [])), ∀ (y_1 : Int32) (y_2 : Int32) (y_3 : Int32) (y_4 : Int32) (y_5 : Int32) (y_6 : Int32) (S : MS) (H : Heap) (locs : List Loc) (ls : Array Slot), f_Mo_folderBlocks_100 K rec_38 y_1 y_2 y_3 y_4 y_5 y_6 S = some (r, S') → va_P (dC, dI) classes (wM M S) H → va_D A (wM M S) → va_S A s.heap H locs → lv_has ls 7 [(0, .ref M.o), (1, .int y_1), (2, .int y_2), (3, .int y_3), (4, .int y_4), (5, .int y_5), (6, .int y_6)] → W p l e ({ frames := 2, cells := 0, slots := 0, locals := 43 }) s m ([.ref M.o, .int p0] : List Value).toArray below meth c H locs 0 0 Q (F0 m 100 ls []) := by
    intro rec_38 hr_38 y_1 y_2 y_3 y_4 y_5 y_6 S H locs ls h hP hD hS hl
    rw [f_Mo_folderBlocks_100] at h
    refine lv_iload_n hx hb d_Mo_folderBlocks_100 rfl (lv_at hl 3 rfl) ?_
    refine lv_iload hx hb d_Mo_folderBlocks_101 (lv_at hl 6 rfl) ?_
    refine lv_iadd hx hb d_Mo_folderBlocks_103 ?_
    refine lv_topi (fun x_16 ex_16 => ?_)
    have h := lf_lE h ex_16
    refine lv_istore_n (lv' := [(3, .int x_16), (0, .ref M.o), (1, .int y_1), (2, .int y_2), (4, .int y_4), (5, .int y_5), (6, .int y_6)]) hx hb d_Mo_folderBlocks_104 rfl hl (by decide) rfl (fun ls hl => ?_)
    obtain ⟨x_17, ex_17, h⟩ := lf_lX h
    refine lv_iinc (v := x_17) (lv' := [(5, .int x_17), (3, .int x_16), (0, .ref M.o), (1, .int y_1), (2, .int y_2), (4, .int y_4), (6, .int y_6)]) hx hb d_Mo_folderBlocks_105 hl (k := 5) rfl (by rw [ex_17]; rfl) (by decide) rfl (fun ls hl => ?_)
    refine lv_goto (tgt := 38) hx hb d_Mo_folderBlocks_108 (by decide) ?_
    exact hr_38 y_1 y_2 x_16 y_4 x_17 S _ _ _ h hP hD hS (lv_sub hl [2, 3, 4, 1, 5, 0] rfl)
  have hB_76 : ∀ (rec_38 : Int32 → Int32 → Int32 → Int32 → Int32 → MS → Option (Int32 × MS)) (hr_38 : ∀ (y_1 : Int32) (y_2 : Int32) (y_3 : Int32) (y_4 : Int32) (y_5 : Int32) (S : MS) (H : Heap) (locs : List Loc) (ls : Array Slot), rec_38 y_1 y_2 y_3 y_4 y_5 S = some (r, S') → va_P (dC, dI) classes (wM M S) H → va_D A (wM M S) → va_S A s.heap H locs → lv_has ls 7 [(0, .ref M.o), (1, .int y_1), (2, .int y_2), (3, .int y_3), (4, .int y_4), (5, .int y_5)] → W p l e ({ frames := 2, cells := 0, slots := 0, locals := 43 }) s m ([.ref M.o, .int p0] : List Value).toArray below meth c H locs 0 0 Q (F0 m 38 ls [])), ∀ (y_1 : Int32) (y_2 : Int32) (y_3 : Int32) (y_4 : Int32) (y_5 : Int32) (z_0 : Int32) (z_1 : Int32) (S : MS) (H : Heap) (locs : List Loc) (ls : Array Slot), f_Mo_folderBlocks_76 K rec_38 y_1 y_2 y_3 y_4 y_5 z_0 z_1 S = some (r, S') → va_P (dC, dI) classes (wM M S) H → va_D A (wM M S) → va_S A s.heap H locs → lv_has ls 7 [(0, .ref M.o), (1, .int y_1), (2, .int y_2), (3, .int y_3), (4, .int y_4), (5, .int y_5)] → W p l e ({ frames := 2, cells := 0, slots := 0, locals := 43 }) s m ([.ref M.o, .int p0] : List Value).toArray below meth c H locs 0 0 Q (F0 m 76 ls [.int z_1, .int z_0]) := by
    intro rec_38 hr_38 y_1 y_2 y_3 y_4 y_5 z_0 z_1 S H locs ls h hP hD hS hl
    rw [f_Mo_folderBlocks_76] at h
    refine lv_iconst (v := 4) hx hb d_Mo_folderBlocks_76 (by decide) ?_
    obtain ⟨r_12, hc_12, h⟩ := lf_bE h
    have hFc := lx_free0 hS hA
    refine va_calli (va_runS (As := [.int z_1, .int 4]) (rest := [.int z_0]) ⟨hx, hb, hml, hown, hts⟩ (l_Mo_whole l dC dI  _ hc_12) (va_cwS 2 hts (gwS good_Mq (u_Mq_Mo _ k_Mo_178) (u_Mq_Mo _ k_Mo_179) (u_Mq_Mo _ k_Mo_0) (wcs (u_Mq_Mo _ k_Mo_180) (fun _ h => h))) rfl rfl rfl (by decide +kernel) ⟨Nat.le_of_ble_eq_true rfl, Nat.le_of_ble_eq_true rfl⟩) (ps_of (W := []) (tys := []) (hP.sub (ws' := []) [] rfl) (hK.sub [] rfl) (hD.sub (ws' := []) [] (by decide) rfl)) rfl rfl hl.1 rfl (lv_room (Nat.le_of_ble_eq_true rfl)) d_Mo_folderBlocks_77 ⟨by decide, by decide⟩) hS (fun q _ h => hFc q h) hFc (fun r_ u t H locs ht hvm hw hB hz1 hk1 hS => ?_)
    rw [hw]
    have hP := lx_stat (A := A) hP hk1
    refine lv_iconst (v := 4) hx hb d_Mo_folderBlocks_80 (by decide) ?_
    refine lv_imul hx hb d_Mo_folderBlocks_81 ?_
    refine lv_iadd hx hb d_Mo_folderBlocks_82 ?_
    refine lv_topi (fun x_13 ex_13 => ?_)
    have h := lf_lE h ex_13
    refine lv_istore (lv' := [(6, .int x_13), (0, .ref M.o), (1, .int y_1), (2, .int y_2), (3, .int y_3), (4, .int y_4), (5, .int y_5)]) hx hb d_Mo_folderBlocks_83 hl (by decide) rfl (fun ls hl => ?_)
    refine lv_iload_n hx hb d_Mo_folderBlocks_85 rfl (lv_at hl 4 rfl) ?_
    refine lv_iload hx hb d_Mo_folderBlocks_86 (lv_at hl 0 rfl) ?_
    refine lv_iadd hx hb d_Mo_folderBlocks_88 ?_
    refine lv_sipush (v := 1024) hx hb d_Mo_folderBlocks_89 (by decide) ?_
    refine lv_icmp_le (tgt := 100) hx hb d_Mo_folderBlocks_92 (by decide) (fun c_14 => ?_) (fun c_14 => ?_)
    · have h := lf_t h c_14
      exact hB_100 _ hr_38 y_1 y_2 y_3 y_4 y_5 x_13 S _ _ _ h hP hD hS (lv_sub hl [1, 2, 3, 4, 5, 6, 0] rfl)
    · have h := lf_f h c_14
      obtain ⟨x_15, ex_15, h⟩ := lf_lX h
      refine lv_iinc (v := x_15) (lv' := [(2, .int x_15), (6, .int x_13), (0, .ref M.o), (1, .int y_1), (3, .int y_3), (4, .int y_4), (5, .int y_5)]) hx hb d_Mo_folderBlocks_95 hl (k := 3) rfl (by rw [ex_15]; rfl) (by decide) rfl (fun ls hl => ?_)
      refine lv_iconst (v := 0) hx hb d_Mo_folderBlocks_98 (by decide) ?_
      refine lv_istore_n (lv' := [(3, .int 0), (2, .int x_15), (6, .int x_13), (0, .ref M.o), (1, .int y_1), (4, .int y_4), (5, .int y_5)]) hx hb d_Mo_folderBlocks_99 rfl hl (by decide) rfl (fun ls hl => ?_)
      exact hB_100 _ hr_38 y_1 x_15 0 y_4 y_5 x_13 S _ _ _ h hP hD hS (lv_sub hl [3, 4, 1, 0, 5, 6, 2] rfl)
  have hB_38 : ∀ (k : Nat), ∀ (y_1 : Int32) (y_2 : Int32) (y_3 : Int32) (y_4 : Int32) (y_5 : Int32) (S : MS) (H : Heap) (locs : List Loc) (ls : Array Slot), f_Mo_folderBlocks_38 K k y_1 y_2 y_3 y_4 y_5 S = some (r, S') → va_P (dC, dI) classes (wM M S) H → va_D A (wM M S) → va_S A s.heap H locs → lv_has ls 7 [(0, .ref M.o), (1, .int y_1), (2, .int y_2), (3, .int y_3), (4, .int y_4), (5, .int y_5)] → W p l e ({ frames := 2, cells := 0, slots := 0, locals := 43 }) s m ([.ref M.o, .int p0] : List Value).toArray below meth c H locs 0 0 Q (F0 m 38 ls []) := by
    intro k
    induction k with
    | zero => intro y_1 y_2 y_3 y_4 y_5 S H locs ls h; exact lf_no h
    | succ k hr_38 =>
      intro y_1 y_2 y_3 y_4 y_5 S H locs ls h hP hD hS hl
      rw [f_Mo_folderBlocks_38] at h
      refine lv_iload hx hb d_Mo_folderBlocks_38 (lv_at hl 5 rfl) ?_
      refine lv_iload hx hb d_Mo_folderBlocks_40 (lv_at hl 4 rfl) ?_
      refine lv_icmp_ge (tgt := 111) hx hb d_Mo_folderBlocks_42 (by decide) (fun c_7 => ?_) (fun c_7 => ?_)
      · have h := lf_t h c_7
        refine lv_iload_n hx hb d_Mo_folderBlocks_111 rfl (lv_at hl 2 rfl) ?_
        rw [hQ]
        have e1 : y_2 = r := congrArg Prod.fst (Option.some.inj h)
        have e2 : S = S' := congrArg Prod.snd (Option.some.inj h)
        have hP := lx_newP e2.symm hP
        have hD := lx_newD e2.symm hD
        exact W.iret (v := y_2) hx hb hr (fun t ht hW => ⟨⟨y_2, (), rfl, e1, by rw [ht]; exact hP, va_K.moved hW.alike hK, hD⟩, hS.F ht⟩) hS.2.2 d_Mo_folderBlocks_112
      · have h := lf_f h c_7
        refine lv_bipush (v := 8) hx hb d_Mo_folderBlocks_45 (by decide) ?_
        refine lv_iload hx hb d_Mo_folderBlocks_47 (lv_at hl 5 rfl) ?_
        refine lv_aload_n hx hb d_Mo_folderBlocks_49 rfl (lv_at hl 0 rfl) ?_
        refine va_get (D := (dC, dI)) (ci := 12) (v := .ref M.a_firstKid) (C := R_Mo) (T := F_Mo) (N := 66) hx hb hts (fun w h => u_Mq_Mo w (i_Mo w h)) hown hK hP 0 rfl rfl 29 (by decide) (hts _ (u_Mq_Mo _ k_Mo_36)) (fun _ h9 => h9) rfl d_Mo_folderBlocks_50 ?_
        refine lv_iload_n hx hb d_Mo_folderBlocks_53 rfl (lv_at hl 1 rfl) ?_
        obtain ⟨g_8, h⟩ := lf_gE h
        refine va_iald hx hb hK hP 11 10 rfl rfl g_8 d_Mo_folderBlocks_54 ?_
        refine lv_aload_n hx hb d_Mo_folderBlocks_55 rfl (lv_at hl 0 rfl) ?_
        refine va_get (D := (dC, dI)) (ci := 12) (v := .ref M.a_kids) (C := R_Mo) (T := F_Mo) (N := 66) hx hb hts (fun w h => u_Mq_Mo w (i_Mo w h)) hown hK hP 0 rfl rfl 28 (by decide) (hts _ (u_Mq_Mo _ k_Mo_35)) (fun _ h9 => h9) rfl d_Mo_folderBlocks_56 ?_
        refine lv_iload_n hx hb d_Mo_folderBlocks_59 rfl (lv_at hl 1 rfl) ?_
        obtain ⟨g_9, h⟩ := lf_gE h
        refine va_iald hx hb hK hP 10 9 rfl rfl g_9 d_Mo_folderBlocks_60 ?_
        refine lv_iadd hx hb d_Mo_folderBlocks_61 ?_
        refine lv_icmp_ge (tgt := 74) hx hb d_Mo_folderBlocks_62 (by decide) (fun c_10 => ?_) (fun c_10 => ?_)
        · have h := lf_t h c_10
          refine lv_bipush (v := 7) hx hb d_Mo_folderBlocks_74 (by decide) ?_
          exact hB_76 _ hr_38 y_1 y_2 y_3 y_4 y_5 8 7 S _ _ _ h hP hD hS (lv_sub hl [0, 1, 2, 3, 4, 5] rfl)
        · have h := lf_f h c_10
          refine lv_aload_n hx hb d_Mo_folderBlocks_65 rfl (lv_at hl 0 rfl) ?_
          refine lv_iload hx hb d_Mo_folderBlocks_66 (lv_at hl 5 rfl) ?_
          obtain ⟨r_11, S_11, hc_11, h⟩ := lf_cE h
          have hFc := lx_free hD hS hA
          refine va_calli (va_runV (As := [.int y_5]) (rest := [.int 8]) ⟨hx, hb, hml, hown, hts⟩ (l_Mo_textSize l dC dI X _ hc_11) (cwV 1 hts (gwV good_Mq (u_Mq_Mo _ k_Mo_292) (u_Mq_Mo _ k_Mo_293) (u_Mq_Mo _ k_Mo_512) (u_Mq_Mo _ k_Mo_0) (wcs (u_Mq_Mo _ k_Mo_294) (fun _ h => h))) rfl rfl rfl (by decide +kernel) ⟨Nat.le_of_ble_eq_true rfl, Nat.le_of_ble_eq_true rfl⟩) (pv_ofE (X.same _) (fun U z1 z2 => X.mono _ _ U hFc (hEw _ _ hS U z1 z2)) hP hK hD (va_recv hK hP (ci := 12) (q0 := 0) rfl rfl)) rfl rfl hl.1 rfl (lv_room (Nat.le_of_ble_eq_true rfl)) d_Mo_folderBlocks_68 ⟨by decide, by decide⟩) hS (fun q _ h => hFc q h) hFc (fun r_ u t H locs ht hvm hw hB hz1 hk1 hS => ?_)
          rw [hw]
          obtain ⟨hP, -, hD⟩ := hB
          rw [ht] at hP
          have hD := lx_dj hD hFc
          refine lv_goto (tgt := 76) hx hb d_Mo_folderBlocks_71 (by decide) ?_
          exact hB_76 _ hr_38 y_1 y_2 y_3 y_4 y_5 8 r_11 S_11 _ _ _ h hP hD hS (lv_sub hl [0, 1, 2, 3, 4, 5] rfl)
  have hB_27 : ∀ (y_1 : Int32) (y_2 : Int32) (y_3 : Int32) (z_0 : Int32) (z_1 : Int32) (S : MS) (H : Heap) (locs : List Loc) (ls : Array Slot), f_Mo_folderBlocks_27 K y_1 y_2 y_3 z_0 z_1 S = some (r, S') → va_P (dC, dI) classes (wM M S) H → va_D A (wM M S) → va_S A s.heap H locs → lv_has ls 7 [(0, .ref M.o), (1, .int y_1), (2, .int y_2), (3, .int y_3)] → W p l e ({ frames := 2, cells := 0, slots := 0, locals := 43 }) s m ([.ref M.o, .int p0] : List Value).toArray below meth c H locs 0 0 Q (F0 m 27 ls [.int z_1, .int z_0]) := by
    intro y_1 y_2 y_3 z_0 z_1 S H locs ls h hP hD hS hl
    rw [f_Mo_folderBlocks_27] at h
    refine lv_iadd hx hb d_Mo_folderBlocks_27 ?_
    refine lv_topi (fun x_4 ex_4 => ?_)
    have h := lf_lE h ex_4
    refine lv_istore (lv' := [(4, .int x_4), (0, .ref M.o), (1, .int y_1), (2, .int y_2), (3, .int y_3)]) hx hb d_Mo_folderBlocks_28 hl (by decide) rfl (fun ls hl => ?_)
    refine lv_aload_n hx hb d_Mo_folderBlocks_30 rfl (lv_at hl 1 rfl) ?_
    refine va_get (D := (dC, dI)) (ci := 12) (v := .ref M.a_firstKid) (C := R_Mo) (T := F_Mo) (N := 66) hx hb hts (fun w h => u_Mq_Mo w (i_Mo w h)) hown hK hP 0 rfl rfl 29 (by decide) (hts _ (u_Mq_Mo _ k_Mo_36)) (fun _ h9 => h9) rfl d_Mo_folderBlocks_31 ?_
    refine lv_iload_n hx hb d_Mo_folderBlocks_34 rfl (lv_at hl 2 rfl) ?_
    obtain ⟨g_5, h⟩ := lf_gE h
    refine va_iald hx hb hK hP 11 10 rfl rfl g_5 d_Mo_folderBlocks_35 ?_
    refine lv_topi (fun x_6 ex_6 => ?_)
    have h := lf_lE h ex_6
    refine lv_istore (lv' := [(5, .int x_6), (4, .int x_4), (0, .ref M.o), (1, .int y_1), (2, .int y_2), (3, .int y_3)]) hx hb d_Mo_folderBlocks_36 hl (by decide) rfl (fun ls hl => ?_)
    exact hB_38 K y_1 y_2 y_3 x_4 x_6 S _ _ _ h hP hD hS (lv_sub hl [2, 3, 4, 5, 1, 0] rfl)
  rw [f_Mo_folderBlocks] at h
  refine lv_iconst (v := 1) hx hb d_Mo_folderBlocks_0 (by decide) ?_
  refine lv_istore_n (lv' := [(2, .int 1), (0, .ref M.o), (1, .int p0)]) hx hb d_Mo_folderBlocks_1 rfl hl (by decide) rfl (fun ls hl => ?_)
  refine lv_bipush (v := 24) hx hb d_Mo_folderBlocks_2 (by decide) ?_
  refine lv_istore_n (lv' := [(3, .int 24), (2, .int 1), (0, .ref M.o), (1, .int p0)]) hx hb d_Mo_folderBlocks_4 rfl hl (by decide) rfl (fun ls hl => ?_)
  refine lv_aload_n hx hb d_Mo_folderBlocks_5 rfl (lv_at hl 2 rfl) ?_
  refine va_get (D := (dC, dI)) (ci := 12) (v := .ref M.a_firstKid) (C := R_Mo) (T := F_Mo) (N := 66) hx hb hts (fun w h => u_Mq_Mo w (i_Mo w h)) hown hK hP 0 rfl rfl 29 (by decide) (hts _ (u_Mq_Mo _ k_Mo_36)) (fun _ h9 => h9) rfl d_Mo_folderBlocks_6 ?_
  refine lv_iload_n hx hb d_Mo_folderBlocks_9 rfl (lv_at hl 3 rfl) ?_
  obtain ⟨g_1, h⟩ := lf_gE h
  refine va_iald hx hb hK hP 11 10 rfl rfl g_1 d_Mo_folderBlocks_10 ?_
  refine lv_aload_n hx hb d_Mo_folderBlocks_11 rfl (lv_at hl 2 rfl) ?_
  refine va_get (D := (dC, dI)) (ci := 12) (v := .ref M.a_kids) (C := R_Mo) (T := F_Mo) (N := 66) hx hb hts (fun w h => u_Mq_Mo w (i_Mo w h)) hown hK hP 0 rfl rfl 28 (by decide) (hts _ (u_Mq_Mo _ k_Mo_35)) (fun _ h9 => h9) rfl d_Mo_folderBlocks_12 ?_
  refine lv_iload_n hx hb d_Mo_folderBlocks_15 rfl (lv_at hl 3 rfl) ?_
  obtain ⟨g_2, h⟩ := lf_gE h
  refine va_iald hx hb hK hP 10 9 rfl rfl g_2 d_Mo_folderBlocks_16 ?_
  refine lv_iadd hx hb d_Mo_folderBlocks_17 ?_
  refine lv_iload_n hx hb d_Mo_folderBlocks_18 rfl (lv_at hl 3 rfl) ?_
  refine lv_if_ne (tgt := 26) hx hb d_Mo_folderBlocks_19 (by decide) (fun c_3 => ?_) (fun c_3 => ?_)
  · have h := lf_f h c_3
    refine lv_iconst (v := 0) hx hb d_Mo_folderBlocks_26 (by decide) ?_
    exact hB_27 p0 1 24 ((S.v_firstKid p0.toNatClampNeg) + (S.v_kids p0.toNatClampNeg)) 0 S _ _ _ h hP hD hS (lv_sub hl [2, 3, 1, 0] rfl)
  · have h := lf_t h c_3
    refine lv_iconst (v := 1) hx hb d_Mo_folderBlocks_22 (by decide) ?_
    refine lv_goto (tgt := 27) hx hb d_Mo_folderBlocks_23 (by decide) ?_
    exact hB_27 p0 1 24 ((S.v_firstKid p0.toNatClampNeg) + (S.v_kids p0.toNatClampNeg)) 1 S _ _ _ h hP hD hS (lv_sub hl [2, 3, 1, 0] rfl)
set_option maxHeartbeats 4000000 in
set_option maxRecDepth 100000 in
theorem l_Mo_about (l : Launch) (dC : Nat → ClassId) (dI : Nat → Nat → Nat) {K : Nat} {M : MA} {E : (Nat → Prop) → State → Prop} (X : lx_X l dC dI K M E) (sz : Nat) {S S' : MS} {p0 : Int32} {p1 : Int32} {r : Int64} (h : f_Mo_about K S p0 p1 = some (r, S')) : Met l y_Mo_about (.code y_Mo_about b_Mo_about 4 (some .long) :: V_Mq) ({ frames := 14, cells := 0, slots := 0, locals := 380 }) (va_Pc [.ref M.o, .int p0, .int p1] (fun U => U.heap.size = sz ∧ at_ (dC, dI) (fun _ => True) (wM M S) (tM M) U ∧ E (va_A (wM M S) sz) U)) (va_Ql (fun (r_ : Int64) (u : Unit) => r_ = r) (fun (u : Unit) t => at_ (dC, dI) (va_A (wM M S) sz) (wM M S') (tM M) t) (va_A (wM M S) sz)) 0 0 (va_A (wM M S) sz) := by
  refine Met.ofW (cc := b_Mo_about) (maxL := 4) (ret := (some .long)) (by decide) rfl ?_
  intro p e s m args below meth c s₁ B hml hv
  obtain ⟨rfl, hsz, ⟨hP, hK, hD0⟩, hE⟩ := hv
  have hx := B.exec
  have hb := B.bytes
  have hr := B.returns
  have hts0 := atoms_spec (ws := .code y_Mo_about b_Mo_about 4 (some .long) :: V_Mq) B.pre
  have hts : ∀ w ∈ V_Mq, w.before ([.ref M.o, .int p0, .int p1] : List Value).toArray s = true := fun w h => hts0 w (List.mem_cons_of_mem _ h)
  have hown : s.vm.findClass R_Mo = some m.cls := findClass_of_methodNamed B.named
  subst hsz
  have hD := hD0.self (sz := s.heap.size)
  generalize hAe : va_A (wM M S) s.heap.size = A at hD hE ⊢
  have hA : ∀ q : Nat, s.heap.size ≤ q → A q := fun q h => by rw [← hAe]; exact Or.inr h
  have hS : va_S A s.heap s.heap [] := va_S.rf
  have hP : va_P (dC, dI) classes (wM M S) s.heap := hP
  have hK : va_K (dC, dI) classes (tM M) s := hK
  have hEw : ∀ (H : Heap) (locs : List Loc), va_S A s.heap H locs → ∀ U : State, U.heap = H → s.WarmedH U.vm → E A U := fun H locs hS U hU hW => X.kept A s U H locs hE hS hU hW
  have hl := lv_entry ([.ref M.o, .int p0, .int p1]) (n := 4) (Nat.le_of_ble_eq_true rfl)
  rw [lg_entry_eq]
  generalize (lg_sl ([.ref M.o, .int p0, .int p1]) ++ List.replicate (4 - (lg_sl ([.ref M.o, .int p0, .int p1])).length) Slot.unset).toArray = ls at hl ⊢
  have hl : lv_has ls 4 [(0, .ref M.o), (1, .int p0), (2, .int p1)] := hl
  refine qabs (fun Q hQ => ?_)
  have hB_30 : ∀ (S : MS) (H : Heap) (locs : List Loc) (ls : Array Slot), f_Mo_about_30 K S = some (r, S') → va_P (dC, dI) classes (wM M S) H → va_D A (wM M S) → va_S A s.heap H locs → lv_has ls 4 [] → W p l e ({ frames := 14, cells := 0, slots := 0, locals := 380 }) s m ([.ref M.o, .int p0, .int p1] : List Value).toArray below meth c H locs 0 0 Q (F0 m 30 ls []) := by
    intro S H locs ls h hP hD hS hl
    rw [f_Mo_about_30] at h
    refine lv_lconst (v := 0) hx hb d_Mo_about_30 (by decide) ?_
    rw [hQ]
    have e1 : (0 : Int64) = r := congrArg Prod.fst (Option.some.inj h)
    have e2 : S = S' := congrArg Prod.snd (Option.some.inj h)
    have hP := lx_newP e2.symm hP
    have hD := lx_newD e2.symm hD
    exact W.lret (v := 0) hx hb hr (fun t ht hW => ⟨⟨0, (), rfl, e1, by rw [ht]; exact hP, va_K.moved hW.alike hK, hD⟩, hS.F ht⟩) hS.2.2 d_Mo_about_31
  have hB_23 : ∀ (y_1 : Int32) (y_2 : Int32) (z_1 : Int32) (S : MS) (H : Heap) (locs : List Loc) (ls : Array Slot), f_Mo_about_23 K y_1 y_2 z_1 S = some (r, S') → va_P (dC, dI) classes (wM M S) H → va_D A (wM M S) → va_S A s.heap H locs → lv_has ls 4 [(0, .ref M.o), (1, .int y_1), (2, .int y_2)] → W p l e ({ frames := 14, cells := 0, slots := 0, locals := 380 }) s m ([.ref M.o, .int p0, .int p1] : List Value).toArray below meth c H locs 0 0 Q (F0 m 23 ls [.int z_1, .ref M.o]) := by
    intro y_1 y_2 z_1 S H locs ls h hP hD hS hl
    rw [f_Mo_about_23] at h
    refine lv_iconst (v := 3) hx hb d_Mo_about_23 (by decide) ?_
    obtain ⟨r_5, S_5, hc_5, h⟩ := lf_cE h
    have hFc := lx_free hD hS hA
    refine va_calli (va_runV (As := [.int z_1, .int 3]) (rest := []) ⟨hx, hb, hml, hown, hts⟩ (l_Mo_fails l dC dI X _ hc_5) (cwV 2 hts (gwV good_Mq (u_Mq_Mo _ k_Mo_217) (u_Mq_Mo _ k_Mo_218) (u_Mq_Mo _ k_Mo_474) (u_Mq_Mo _ k_Mo_0) (wcs (u_Mq_Mo _ k_Mo_219) (fun _ h => h))) rfl rfl rfl (by decide +kernel) ⟨Nat.le_of_ble_eq_true rfl, Nat.le_of_ble_eq_true rfl⟩) (pv_ofE (X.same _) (fun U z1 z2 => X.mono _ _ U hFc (hEw _ _ hS U z1 z2)) hP hK hD (va_recv hK hP (ci := 12) (q0 := 0) rfl rfl)) rfl rfl hl.1 rfl (lv_room (Nat.le_of_ble_eq_true rfl)) d_Mo_about_24 ⟨by decide, by decide⟩) hS (fun q _ h => hFc q h) hFc (fun r_ u t H locs ht hvm hw hB hz1 hk1 hS => ?_)
    rw [hw]
    obtain ⟨hP, -, hD⟩ := hB
    rw [ht] at hP
    have hD := lx_dj hD hFc
    refine lv_if_eq (tgt := 32) hx hb d_Mo_about_27 (by decide) (fun c_6 => ?_) (fun c_6 => ?_)
    · have h := lf_t h c_6
      refine lv_aload_n hx hb d_Mo_about_32 rfl (lv_at hl 0 rfl) ?_
      refine lv_iload_n hx hb d_Mo_about_33 rfl (lv_at hl 1 rfl) ?_
      obtain ⟨r_7, S_7, hc_7, h⟩ := lf_cE h
      have hFc := lx_free hD hS hA
      refine va_calli (va_runV (As := [.int y_1]) (rest := []) ⟨hx, hb, hml, hown, hts⟩ (l_Mo_item l dC dI X _ hc_7) (cwV 1 hts (gwV good_Mq (u_Mq_Mo _ k_Mo_255) (u_Mq_Mo _ k_Mo_256) (u_Mq_Mo _ k_Mo_511) (u_Mq_Mo _ k_Mo_0) (wcs (u_Mq_Mo _ k_Mo_257) (fun _ h => h))) rfl rfl rfl (by decide +kernel) ⟨Nat.le_of_ble_eq_true rfl, Nat.le_of_ble_eq_true rfl⟩) (pv_ofE (X.same _) (fun U z1 z2 => X.mono _ _ U hFc (hEw _ _ hS U z1 z2)) hP hK hD (va_recv hK hP (ci := 12) (q0 := 0) rfl rfl)) rfl rfl hl.1 rfl (lv_room (Nat.le_of_ble_eq_true rfl)) d_Mo_about_34 ⟨by decide, by decide⟩) hS (fun q _ h => hFc q h) hFc (fun r_ u t H locs ht hvm hw hB hz1 hk1 hS => ?_)
      rw [hw]
      obtain ⟨hP, -, hD⟩ := hB
      rw [ht] at hP
      have hD := lx_dj hD hFc
      refine lv_istore_n (lv' := [(3, .int r_7), (0, .ref M.o), (1, .int y_1), (2, .int y_2)]) hx hb d_Mo_about_37 rfl hl (by decide) rfl (fun ls hl => ?_)
      refine lv_iload_n hx hb d_Mo_about_38 rfl (lv_at hl 0 rfl) ?_
      refine lv_iconst (v := (-1)) hx hb d_Mo_about_39 (by decide) ?_
      refine lv_icmp_ne (tgt := 71) hx hb d_Mo_about_40 (by decide) (fun c_8 => ?_) (fun c_8 => ?_)
      · have h := lf_f h c_8
        refine lv_iload_n hx hb d_Mo_about_71 rfl (lv_at hl 3 rfl) ?_
        refine lv_if_ne (tgt := 89) hx hb d_Mo_about_72 (by decide) (fun c_9 => ?_) (fun c_9 => ?_)
        · have h := lf_f h c_9
          refine lv_iload_n hx hb d_Mo_about_89 rfl (lv_at hl 3 rfl) ?_
          refine lv_iconst (v := 1) hx hb d_Mo_about_90 (by decide) ?_
          refine lv_icmp_ne (tgt := 111) hx hb d_Mo_about_91 (by decide) (fun c_10 => ?_) (fun c_10 => ?_)
          · have h := lf_f h c_10
            refine lv_iload_n hx hb d_Mo_about_111 rfl (lv_at hl 3 rfl) ?_
            refine lv_iconst (v := 5) hx hb d_Mo_about_112 (by decide) ?_
            refine lv_icmp_ge (tgt := 129) hx hb d_Mo_about_113 (by decide) (fun c_11 => ?_) (fun c_11 => ?_)
            · have h := lf_t h c_11
              refine lv_aload_n hx hb d_Mo_about_129 rfl (lv_at hl 1 rfl) ?_
              refine lv_iload_n hx hb d_Mo_about_130 rfl (lv_at hl 0 rfl) ?_
              obtain ⟨r_12, S_12, hc_12, h⟩ := lf_cE h
              have hFc := lx_free hD hS hA
              refine va_calli (va_runV (As := [.int r_7]) (rest := []) ⟨hx, hb, hml, hown, hts⟩ (l_Mo_isFolder l dC dI X _ hc_12) (cwV 1 hts (gwV good_Mq (u_Mq_Mo _ k_Mo_118) (u_Mq_Mo _ k_Mo_119) (u_Mq_Mo _ k_Mo_489) (u_Mq_Mo _ k_Mo_0) (wcs (u_Mq_Mo _ k_Mo_120) (fun _ h => h))) rfl rfl rfl (by decide +kernel) ⟨Nat.le_of_ble_eq_true rfl, Nat.le_of_ble_eq_true rfl⟩) (pv_ofE (X.same _) (fun U z1 z2 => X.mono _ _ U hFc (hEw _ _ hS U z1 z2)) hP hK hD (va_recv hK hP (ci := 12) (q0 := 0) rfl rfl)) rfl rfl hl.1 rfl (lv_room (Nat.le_of_ble_eq_true rfl)) d_Mo_about_131 ⟨by decide, by decide⟩) hS (fun q _ h => hFc q h) hFc (fun r_ u t H locs ht hvm hw hB hz1 hk1 hS => ?_)
              rw [hw]
              obtain ⟨hP, -, hD⟩ := hB
              rw [ht] at hP
              have hD := lx_dj hD hFc
              refine lv_if_ne (tgt := 154) hx hb d_Mo_about_134 (by decide) (fun c_13 => ?_) (fun c_13 => ?_)
              · have h := lf_f h c_13
                refine lv_aload_n hx hb d_Mo_about_154 rfl (lv_at hl 1 rfl) ?_
                refine va_get (D := (dC, dI)) (ci := 12) (v := .int S_12.v_turned) (C := R_Mo) (T := F_Mo) (N := 66) hx hb hts (fun w h => u_Mq_Mo w (i_Mo w h)) hown hK hP 0 rfl rfl 9 (by decide) (hts _ (u_Mq_Mo _ k_Mo_16)) (fun _ h9 => h9) rfl d_Mo_about_155 ?_
                refine lv_if_eq (tgt := 174) hx hb d_Mo_about_158 (by decide) (fun c_14 => ?_) (fun c_14 => ?_)
                · have h := lf_t h c_14
                  refine lv_lconst (v := 0) hx hb d_Mo_about_174 (by decide) ?_
                  rw [hQ]
                  have e1 : (0 : Int64) = r := congrArg Prod.fst (Option.some.inj h)
                  have e2 : S_12 = S' := congrArg Prod.snd (Option.some.inj h)
                  have hP := lx_newP e2.symm hP
                  have hD := lx_newD e2.symm hD
                  exact W.lret (v := 0) hx hb hr (fun t ht hW => ⟨⟨0, (), rfl, e1, by rw [ht]; exact hP, va_K.moved hW.alike hK, hD⟩, hS.F ht⟩) hS.2.2 d_Mo_about_175
                · have h := lf_f h c_14
                  refine lv_ldc2 (v := 1024) hx hb hown (hts _ (u_Mq_Mo _ k_Mo_268)) d_Mo_about_161 ?_
                  refine lv_aload_n hx hb d_Mo_about_164 rfl (lv_at hl 1 rfl) ?_
                  refine lv_iload_n hx hb d_Mo_about_165 rfl (lv_at hl 0 rfl) ?_
                  obtain ⟨r_15, S_15, hc_15, h⟩ := lf_cE h
                  have hFc := lx_free hD hS hA
                  refine va_calli (va_runV (As := [.int r_7]) (rest := [.long 1024]) ⟨hx, hb, hml, hown, hts⟩ (l_Mo_folderBlocks l dC dI X _ hc_15) (cwV 1 hts (gwV good_Mq (u_Mq_Mo _ k_Mo_289) (u_Mq_Mo _ k_Mo_290) (u_Mq_Mo _ k_Mo_525) (u_Mq_Mo _ k_Mo_0) (wcs (u_Mq_Mo _ k_Mo_291) (fun _ h => h))) rfl rfl rfl (by decide +kernel) ⟨Nat.le_of_ble_eq_true rfl, Nat.le_of_ble_eq_true rfl⟩) (pv_ofE (X.same _) (fun U z1 z2 => X.mono _ _ U hFc (hEw _ _ hS U z1 z2)) hP hK hD (va_recv hK hP (ci := 12) (q0 := 0) rfl rfl)) rfl rfl hl.1 rfl (lv_room (Nat.le_of_ble_eq_true rfl)) d_Mo_about_166 ⟨by decide, by decide⟩) hS (fun q _ h => hFc q h) hFc (fun r_ u t H locs ht hvm hw hB hz1 hk1 hS => ?_)
                  rw [hw]
                  obtain ⟨hP, -, hD⟩ := hB
                  rw [ht] at hP
                  have hD := lx_dj hD hFc
                  refine lv_i2l hx hb d_Mo_about_169 rfl ?_
                  refine lv_lmul hx hb d_Mo_about_170 ?_
                  refine lv_goto (tgt := 175) hx hb d_Mo_about_171 (by decide) ?_
                  rw [hQ]
                  have e1 : (1024 * r_15.toInt64 : Int64) = r := congrArg Prod.fst (Option.some.inj h)
                  have e2 : S_15 = S' := congrArg Prod.snd (Option.some.inj h)
                  have hP := lx_newP e2.symm hP
                  have hD := lx_newD e2.symm hD
                  exact W.lret (v := (1024 * r_15.toInt64)) hx hb hr (fun t ht hW => ⟨⟨(1024 * r_15.toInt64), (), rfl, e1, by rw [ht]; exact hP, va_K.moved hW.alike hK, hD⟩, hS.F ht⟩) hS.2.2 d_Mo_about_175
              · have h := lf_t h c_13
                refine lv_aload_n hx hb d_Mo_about_137 rfl (lv_at hl 1 rfl) ?_
                refine lv_aload_n hx hb d_Mo_about_138 rfl (lv_at hl 1 rfl) ?_
                refine va_get (D := (dC, dI)) (ci := 12) (v := .ref M.a_at) (C := R_Mo) (T := F_Mo) (N := 66) hx hb hts (fun w h => u_Mq_Mo w (i_Mo w h)) hown hK hP 0 rfl rfl 24 (by decide) (hts _ (u_Mq_Mo _ k_Mo_31)) (fun _ h9 => h9) rfl d_Mo_about_139 ?_
                refine lv_iload_n hx hb d_Mo_about_142 rfl (lv_at hl 0 rfl) ?_
                obtain ⟨g_16, h⟩ := lf_gE h
                refine va_iald hx hb hK hP 6 5 rfl rfl g_16 d_Mo_about_143 ?_
                refine lv_bipush (v := 28) hx hb d_Mo_about_144 (by decide) ?_
                refine lv_iadd hx hb d_Mo_about_146 ?_
                obtain ⟨r_17, S_17, hc_17, h⟩ := lf_cE h
                have hFc := lx_free hD hS hA
                refine va_calli (va_runV (As := [.int ((S_12.v_at r_7.toNatClampNeg) + 28)]) (rest := []) ⟨hx, hb, hml, hown, hts⟩ (l_Mo_four l dC dI X _ hc_17) (cwV 1 hts (gwV good_Mq (u_Mq_Mo _ k_Mo_100) (u_Mq_Mo _ k_Mo_101) (u_Mq_Mo _ k_Mo_477) (u_Mq_Mo _ k_Mo_0) (wcs (u_Mq_Mo _ k_Mo_102) (fun _ h => h))) rfl rfl rfl (by decide +kernel) ⟨Nat.le_of_ble_eq_true rfl, Nat.le_of_ble_eq_true rfl⟩) (pv_ofE (X.same _) (fun U z1 z2 => X.mono _ _ U hFc (hEw _ _ hS U z1 z2)) hP hK hD (va_recv hK hP (ci := 12) (q0 := 0) rfl rfl)) rfl rfl hl.1 rfl (lv_room (Nat.le_of_ble_eq_true rfl)) d_Mo_about_147 ⟨by decide, by decide⟩) hS (fun q _ h => hFc q h) hFc (fun r_ u t H locs ht hvm hw hB hz1 hk1 hS => ?_)
                rw [hw]
                obtain ⟨hP, -, hD⟩ := hB
                rw [ht] at hP
                have hD := lx_dj hD hFc
                refine lv_i2l hx hb d_Mo_about_150 rfl ?_
                refine lv_goto (tgt := 175) hx hb d_Mo_about_151 (by decide) ?_
                rw [hQ]
                have e1 : (r_17.toInt64 : Int64) = r := congrArg Prod.fst (Option.some.inj h)
                have e2 : S_17 = S' := congrArg Prod.snd (Option.some.inj h)
                have hP := lx_newP e2.symm hP
                have hD := lx_newD e2.symm hD
                exact W.lret (v := r_17.toInt64) hx hb hr (fun t ht hW => ⟨⟨r_17.toInt64, (), rfl, e1, by rw [ht]; exact hP, va_K.moved hW.alike hK, hD⟩, hS.F ht⟩) hS.2.2 d_Mo_about_175
            · have h := lf_f h c_11
              refine lv_aload_n hx hb d_Mo_about_116 rfl (lv_at hl 1 rfl) ?_
              refine lv_iload_n hx hb d_Mo_about_117 rfl (lv_at hl 0 rfl) ?_
              refine lv_iload_n hx hb d_Mo_about_118 rfl (lv_at hl 3 rfl) ?_
              refine lv_iconst (v := 2) hx hb d_Mo_about_119 (by decide) ?_
              refine lv_isub hx hb d_Mo_about_120 ?_
              obtain ⟨r_18, S_18, hc_18, h⟩ := lf_cE h
              have hFc := lx_free hD hS hA
              refine va_calll (va_runV (As := [.int r_7, .int (y_2 - 2)]) (rest := []) ⟨hx, hb, hml, hown, hts⟩ (l_Mo_timeOf l dC dI X _ hc_18) (cwV 2 hts (gwV good_Mq (u_Mq_Mo _ k_Mo_278) (u_Mq_Mo _ k_Mo_279) (u_Mq_Mo _ k_Mo_514) (u_Mq_Mo _ k_Mo_0) (wcs (u_Mq_Mo _ k_Mo_280) (fun _ h => h))) rfl rfl rfl (by decide +kernel) ⟨Nat.le_of_ble_eq_true rfl, Nat.le_of_ble_eq_true rfl⟩) (pv_ofE (X.same _) (fun U z1 z2 => X.mono _ _ U hFc (hEw _ _ hS U z1 z2)) hP hK hD (va_recv hK hP (ci := 12) (q0 := 0) rfl rfl)) rfl rfl hl.1 rfl (lv_room (Nat.le_of_ble_eq_true rfl)) d_Mo_about_121 ⟨by decide, by decide⟩) hS (fun q _ h => hFc q h) hFc (fun r_ u t H locs ht hvm hw hB hz1 hk1 hS => ?_)
              rw [hw]
              obtain ⟨hP, -, hD⟩ := hB
              rw [ht] at hP
              have hD := lx_dj hD hFc
              refine lv_ldc2 (v := 4294967295) hx hb hown (hts _ (u_Mq_Mo _ k_Mo_229)) d_Mo_about_124 ?_
              refine lv_land hx hb d_Mo_about_127 ?_
              rw [hQ]
              have e1 : (r_18 &&& 4294967295 : Int64) = r := congrArg Prod.fst (Option.some.inj h)
              have e2 : S_18 = S' := congrArg Prod.snd (Option.some.inj h)
              have hP := lx_newP e2.symm hP
              have hD := lx_newD e2.symm hD
              exact W.lret (v := (r_18 &&& 4294967295)) hx hb hr (fun t ht hW => ⟨⟨(r_18 &&& 4294967295), (), rfl, e1, by rw [ht]; exact hP, va_K.moved hW.alike hK, hD⟩, hS.F ht⟩) hS.2.2 d_Mo_about_128
          · have h := lf_t h c_10
            refine lv_aload_n hx hb d_Mo_about_94 rfl (lv_at hl 1 rfl) ?_
            refine lv_aload_n hx hb d_Mo_about_95 rfl (lv_at hl 1 rfl) ?_
            refine va_get (D := (dC, dI)) (ci := 12) (v := .ref M.a_at) (C := R_Mo) (T := F_Mo) (N := 66) hx hb hts (fun w h => u_Mq_Mo w (i_Mo w h)) hown hK hP 0 rfl rfl 24 (by decide) (hts _ (u_Mq_Mo _ k_Mo_31)) (fun _ h9 => h9) rfl d_Mo_about_96 ?_
            refine lv_iload_n hx hb d_Mo_about_99 rfl (lv_at hl 0 rfl) ?_
            obtain ⟨g_19, h⟩ := lf_gE h
            refine va_iald hx hb hK hP 6 5 rfl rfl g_19 d_Mo_about_100 ?_
            refine lv_bipush (v := 11) hx hb d_Mo_about_101 (by decide) ?_
            refine lv_iadd hx hb d_Mo_about_103 ?_
            obtain ⟨r_20, S_20, hc_20, h⟩ := lf_cE h
            have hFc := lx_free hD hS hA
            refine va_calli (va_runV (As := [.int ((S_7.v_at r_7.toNatClampNeg) + 11)]) (rest := []) ⟨hx, hb, hml, hown, hts⟩ (l_Mo_one l dC dI X _ hc_20) (cwV 1 hts (gwV good_Mq (u_Mq_Mo _ k_Mo_94) (u_Mq_Mo _ k_Mo_95) (u_Mq_Mo _ k_Mo_475) (u_Mq_Mo _ k_Mo_0) (wcs (u_Mq_Mo _ k_Mo_96) (fun _ h => h))) rfl rfl rfl (by decide +kernel) ⟨Nat.le_of_ble_eq_true rfl, Nat.le_of_ble_eq_true rfl⟩) (pv_ofE (X.same _) (fun U z1 z2 => X.mono _ _ U hFc (hEw _ _ hS U z1 z2)) hP hK hD (va_recv hK hP (ci := 12) (q0 := 0) rfl rfl)) rfl rfl hl.1 rfl (lv_room (Nat.le_of_ble_eq_true rfl)) d_Mo_about_104 ⟨by decide, by decide⟩) hS (fun q _ h => hFc q h) hFc (fun r_ u t H locs ht hvm hw hB hz1 hk1 hS => ?_)
            rw [hw]
            obtain ⟨hP, -, hD⟩ := hB
            rw [ht] at hP
            have hD := lx_dj hD hFc
            refine lv_iconst (v := 1) hx hb d_Mo_about_107 (by decide) ?_
            refine lv_iand hx hb d_Mo_about_108 ?_
            refine lv_i2l hx hb d_Mo_about_109 rfl ?_
            rw [hQ]
            have e1 : ((r_20 &&& 1).toInt64 : Int64) = r := congrArg Prod.fst (Option.some.inj h)
            have e2 : S_20 = S' := congrArg Prod.snd (Option.some.inj h)
            have hP := lx_newP e2.symm hP
            have hD := lx_newD e2.symm hD
            exact W.lret (v := ((r_20 &&& 1).toInt64)) hx hb hr (fun t ht hW => ⟨⟨((r_20 &&& 1).toInt64), (), rfl, e1, by rw [ht]; exact hP, va_K.moved hW.alike hK, hD⟩, hS.F ht⟩) hS.2.2 d_Mo_about_110
        · have h := lf_t h c_9
          refine lv_aload_n hx hb d_Mo_about_75 rfl (lv_at hl 1 rfl) ?_
          refine lv_iload_n hx hb d_Mo_about_76 rfl (lv_at hl 0 rfl) ?_
          obtain ⟨r_21, S_21, hc_21, h⟩ := lf_cE h
          have hFc := lx_free hD hS hA
          refine va_calli (va_runV (As := [.int r_7]) (rest := []) ⟨hx, hb, hml, hown, hts⟩ (l_Mo_isFolder l dC dI X _ hc_21) (cwV 1 hts (gwV good_Mq (u_Mq_Mo _ k_Mo_118) (u_Mq_Mo _ k_Mo_119) (u_Mq_Mo _ k_Mo_489) (u_Mq_Mo _ k_Mo_0) (wcs (u_Mq_Mo _ k_Mo_120) (fun _ h => h))) rfl rfl rfl (by decide +kernel) ⟨Nat.le_of_ble_eq_true rfl, Nat.le_of_ble_eq_true rfl⟩) (pv_ofE (X.same _) (fun U z1 z2 => X.mono _ _ U hFc (hEw _ _ hS U z1 z2)) hP hK hD (va_recv hK hP (ci := 12) (q0 := 0) rfl rfl)) rfl rfl hl.1 rfl (lv_room (Nat.le_of_ble_eq_true rfl)) d_Mo_about_77 ⟨by decide, by decide⟩) hS (fun q _ h => hFc q h) hFc (fun r_ u t H locs ht hvm hw hB hz1 hk1 hS => ?_)
          rw [hw]
          obtain ⟨hP, -, hD⟩ := hB
          rw [ht] at hP
          have hD := lx_dj hD hFc
          refine lv_if_eq (tgt := 87) hx hb d_Mo_about_80 (by decide) (fun c_22 => ?_) (fun c_22 => ?_)
          · have h := lf_t h c_22
            refine lv_lconst (v := 0) hx hb d_Mo_about_87 (by decide) ?_
            rw [hQ]
            have e1 : (0 : Int64) = r := congrArg Prod.fst (Option.some.inj h)
            have e2 : S_21 = S' := congrArg Prod.snd (Option.some.inj h)
            have hP := lx_newP e2.symm hP
            have hD := lx_newD e2.symm hD
            exact W.lret (v := 0) hx hb hr (fun t ht hW => ⟨⟨0, (), rfl, e1, by rw [ht]; exact hP, va_K.moved hW.alike hK, hD⟩, hS.F ht⟩) hS.2.2 d_Mo_about_88
          · have h := lf_f h c_22
            refine lv_lconst (v := 1) hx hb d_Mo_about_83 (by decide) ?_
            refine lv_goto (tgt := 88) hx hb d_Mo_about_84 (by decide) ?_
            rw [hQ]
            have e1 : (1 : Int64) = r := congrArg Prod.fst (Option.some.inj h)
            have e2 : S_21 = S' := congrArg Prod.snd (Option.some.inj h)
            have hP := lx_newP e2.symm hP
            have hD := lx_newD e2.symm hD
            exact W.lret (v := 1) hx hb hr (fun t ht hW => ⟨⟨1, (), rfl, e1, by rw [ht]; exact hP, va_K.moved hW.alike hK, hD⟩, hS.F ht⟩) hS.2.2 d_Mo_about_88
      · have h := lf_t h c_8
        refine lv_iload_n hx hb d_Mo_about_43 rfl (lv_at hl 3 rfl) ?_
        refine lv_iconst (v := 1) hx hb d_Mo_about_44 (by decide) ?_
        refine lv_icmp_ne (tgt := 52) hx hb d_Mo_about_45 (by decide) (fun c_23 => ?_) (fun c_23 => ?_)
        · have h := lf_f h c_23
          refine lv_iload_n hx hb d_Mo_about_52 rfl (lv_at hl 3 rfl) ?_
          refine lv_iconst (v := 5) hx hb d_Mo_about_53 (by decide) ?_
          refine lv_icmp_ne (tgt := 69) hx hb d_Mo_about_54 (by decide) (fun c_24 => ?_) (fun c_24 => ?_)
          · have h := lf_f h c_24
            refine lv_lconst (v := 0) hx hb d_Mo_about_69 (by decide) ?_
            rw [hQ]
            have e1 : (0 : Int64) = r := congrArg Prod.fst (Option.some.inj h)
            have e2 : S_7 = S' := congrArg Prod.snd (Option.some.inj h)
            have hP := lx_newP e2.symm hP
            have hD := lx_newD e2.symm hD
            exact W.lret (v := 0) hx hb hr (fun t ht hW => ⟨⟨0, (), rfl, e1, by rw [ht]; exact hP, va_K.moved hW.alike hK, hD⟩, hS.F ht⟩) hS.2.2 d_Mo_about_70
          · have h := lf_t h c_24
            refine lv_ldc2 (v := 1024) hx hb hown (hts _ (u_Mq_Mo _ k_Mo_268)) d_Mo_about_57 ?_
            refine lv_aload_n hx hb d_Mo_about_60 rfl (lv_at hl 1 rfl) ?_
            obtain ⟨r_25, S_25, hc_25, h⟩ := lf_cE h
            have hFc := lx_free hD hS hA
            refine va_calli (va_runV (As := []) (rest := [.long 1024]) ⟨hx, hb, hml, hown, hts⟩ (l_Mo_recordBlocks l dC dI X _ hc_25) (cwV 0 hts (gwV good_Mq (u_Mq_Mo _ k_Mo_269) (u_Mq_Mo _ k_Mo_270) (u_Mq_Mo _ k_Mo_527) (u_Mq_Mo _ k_Mo_0) (wcs (u_Mq_Mo _ k_Mo_271) (fun _ h => h))) rfl rfl rfl (by decide +kernel) ⟨Nat.le_of_ble_eq_true rfl, Nat.le_of_ble_eq_true rfl⟩) (pv_ofE (X.same _) (fun U z1 z2 => X.mono _ _ U hFc (hEw _ _ hS U z1 z2)) hP hK hD (va_recv hK hP (ci := 12) (q0 := 0) rfl rfl)) rfl rfl hl.1 rfl (lv_room (Nat.le_of_ble_eq_true rfl)) d_Mo_about_61 ⟨by decide, by decide⟩) hS (fun q _ h => hFc q h) hFc (fun r_ u t H locs ht hvm hw hB hz1 hk1 hS => ?_)
            rw [hw]
            obtain ⟨hP, -, hD⟩ := hB
            rw [ht] at hP
            have hD := lx_dj hD hFc
            refine lv_i2l hx hb d_Mo_about_64 rfl ?_
            refine lv_lmul hx hb d_Mo_about_65 ?_
            refine lv_goto (tgt := 70) hx hb d_Mo_about_66 (by decide) ?_
            rw [hQ]
            have e1 : (1024 * r_25.toInt64 : Int64) = r := congrArg Prod.fst (Option.some.inj h)
            have e2 : S_25 = S' := congrArg Prod.snd (Option.some.inj h)
            have hP := lx_newP e2.symm hP
            have hD := lx_newD e2.symm hD
            exact W.lret (v := (1024 * r_25.toInt64)) hx hb hr (fun t ht hW => ⟨⟨(1024 * r_25.toInt64), (), rfl, e1, by rw [ht]; exact hP, va_K.moved hW.alike hK, hD⟩, hS.F ht⟩) hS.2.2 d_Mo_about_70
        · have h := lf_t h c_23
          refine lv_lconst (v := 1) hx hb d_Mo_about_48 (by decide) ?_
          refine lv_goto (tgt := 70) hx hb d_Mo_about_49 (by decide) ?_
          rw [hQ]
          have e1 : (1 : Int64) = r := congrArg Prod.fst (Option.some.inj h)
          have e2 : S_7 = S' := congrArg Prod.snd (Option.some.inj h)
          have hP := lx_newP e2.symm hP
          have hD := lx_newD e2.symm hD
          exact W.lret (v := 1) hx hb hr (fun t ht hW => ⟨⟨1, (), rfl, e1, by rw [ht]; exact hP, va_K.moved hW.alike hK, hD⟩, hS.F ht⟩) hS.2.2 d_Mo_about_70
    · have h := lf_f h c_6
      exact hB_30 S_5 _ _ _ h hP hD hS (lv_sub hl [] rfl)
  have hB_18 : ∀ (y_1 : Int32) (y_2 : Int32) (S : MS) (H : Heap) (locs : List Loc) (ls : Array Slot), f_Mo_about_18 K y_1 y_2 S = some (r, S') → va_P (dC, dI) classes (wM M S) H → va_D A (wM M S) → va_S A s.heap H locs → lv_has ls 4 [(0, .ref M.o), (1, .int y_1), (2, .int y_2)] → W p l e ({ frames := 14, cells := 0, slots := 0, locals := 380 }) s m ([.ref M.o, .int p0, .int p1] : List Value).toArray below meth c H locs 0 0 Q (F0 m 18 ls [.ref M.o]) := by
    intro y_1 y_2 S H locs ls h hP hD hS hl
    rw [f_Mo_about_18] at h
    refine lv_iconst (v := 1) hx hb d_Mo_about_18 (by decide) ?_
    refine lv_goto (tgt := 23) hx hb d_Mo_about_19 (by decide) ?_
    exact hB_23 y_1 y_2 1 S _ _ _ h hP hD hS (lv_sub hl [0, 1, 2] rfl)
  rw [f_Mo_about] at h
  refine lv_aload_n hx hb d_Mo_about_0 rfl (lv_at hl 0 rfl) ?_
  refine lv_iload_n hx hb d_Mo_about_1 rfl (lv_at hl 1 rfl) ?_
  obtain ⟨r_1, S_1, hc_1, h⟩ := lf_cE h
  have hFc := lx_free hD hS hA
  refine va_calli (va_runV (As := [.int p0]) (rest := []) ⟨hx, hb, hml, hown, hts⟩ (l_Mo_no l dC dI X _ hc_1) (cwV 1 hts (gwV good_Mq (u_Mq_Mo _ k_Mo_252) (u_Mq_Mo _ k_Mo_253) (u_Mq_Mo _ k_Mo_510) (u_Mq_Mo _ k_Mo_0) (wcs (u_Mq_Mo _ k_Mo_254) (fun _ h => h))) rfl rfl rfl (by decide +kernel) ⟨Nat.le_of_ble_eq_true rfl, Nat.le_of_ble_eq_true rfl⟩) (pv_ofE (X.same _) (fun U z1 z2 => X.mono _ _ U hFc (hEw _ _ hS U z1 z2)) hP hK hD (va_recv hK hP (ci := 12) (q0 := 0) rfl rfl)) rfl rfl hl.1 rfl (lv_room (Nat.le_of_ble_eq_true rfl)) d_Mo_about_2 ⟨by decide, by decide⟩) hS (fun q _ h => hFc q h) hFc (fun r_ u t H locs ht hvm hw hB hz1 hk1 hS => ?_)
  rw [hw]
  obtain ⟨hP, -, hD⟩ := hB
  rw [ht] at hP
  have hD := lx_dj hD hFc
  refine lv_if_ne (tgt := 30) hx hb d_Mo_about_5 (by decide) (fun c_2 => ?_) (fun c_2 => ?_)
  · have h := lf_f h c_2
    exact hB_30 S_1 _ _ _ h hP hD hS (lv_sub hl [] rfl)
  · have h := lf_t h c_2
    refine lv_aload_n hx hb d_Mo_about_8 rfl (lv_at hl 0 rfl) ?_
    refine lv_iload_n hx hb d_Mo_about_9 rfl (lv_at hl 2 rfl) ?_
    refine lv_if_lt (tgt := 18) hx hb d_Mo_about_10 (by decide) (fun c_3 => ?_) (fun c_3 => ?_)
    · have h := lf_t h c_3
      exact hB_18 p0 p1 S_1 _ _ _ h hP hD hS (lv_sub hl [0, 1, 2] rfl)
    · have h := lf_f h c_3
      refine lv_iload_n hx hb d_Mo_about_13 rfl (lv_at hl 2 rfl) ?_
      refine lv_iconst (v := 5) hx hb d_Mo_about_14 (by decide) ?_
      refine lv_icmp_le (tgt := 22) hx hb d_Mo_about_15 (by decide) (fun c_4 => ?_) (fun c_4 => ?_)
      · have h := lf_t h c_4
        refine lv_iconst (v := 0) hx hb d_Mo_about_22 (by decide) ?_
        exact hB_23 p0 p1 0 S_1 _ _ _ h hP hD hS (lv_sub hl [0, 1, 2] rfl)
      · have h := lf_f h c_4
        exact hB_18 p0 p1 S_1 _ _ _ h hP hD hS (lv_sub hl [0, 1, 2] rfl)
set_option maxHeartbeats 4000000 in
set_option maxRecDepth 100000 in
theorem l_Mo_content (l : Launch) (dC : Nat → ClassId) (dI : Nat → Nat → Nat) {K : Nat} {M : MA} {E : (Nat → Prop) → State → Prop} (X : lx_X l dC dI K M E) (sz : Nat) {S S' : MS} {p0 : Int32} {p1 : Int32} {r : Int32} (h : f_Mo_content K S p0 p1 = some (r, S')) : Met l y_Mo_content (.code y_Mo_content b_Mo_content 4 (some .int) :: V_Mq) ({ frames := 14, cells := 0, slots := 0, locals := 380 }) (va_Pc [.ref M.o, .int p0, .int p1] (fun U => U.heap.size = sz ∧ at_ (dC, dI) (fun _ => True) (wM M S) (tM M) U ∧ E (va_A (wM M S) sz) U)) (va_Qi (fun (r_ : Int32) (u : Unit) => r_ = r) (fun (u : Unit) t => at_ (dC, dI) (va_A (wM M S) sz) (wM M S') (tM M) t) (va_A (wM M S) sz)) 0 0 (va_A (wM M S) sz) := by
  refine Met.ofW (cc := b_Mo_content) (maxL := 4) (ret := (some .int)) (by decide) rfl ?_
  intro p e s m args below meth c s₁ B hml hv
  obtain ⟨rfl, hsz, ⟨hP, hK, hD0⟩, hE⟩ := hv
  have hx := B.exec
  have hb := B.bytes
  have hr := B.returns
  have hts0 := atoms_spec (ws := .code y_Mo_content b_Mo_content 4 (some .int) :: V_Mq) B.pre
  have hts : ∀ w ∈ V_Mq, w.before ([.ref M.o, .int p0, .int p1] : List Value).toArray s = true := fun w h => hts0 w (List.mem_cons_of_mem _ h)
  have hown : s.vm.findClass R_Mo = some m.cls := findClass_of_methodNamed B.named
  subst hsz
  have hD := hD0.self (sz := s.heap.size)
  generalize hAe : va_A (wM M S) s.heap.size = A at hD hE ⊢
  have hA : ∀ q : Nat, s.heap.size ≤ q → A q := fun q h => by rw [← hAe]; exact Or.inr h
  have hS : va_S A s.heap s.heap [] := va_S.rf
  have hP : va_P (dC, dI) classes (wM M S) s.heap := hP
  have hK : va_K (dC, dI) classes (tM M) s := hK
  have hEw : ∀ (H : Heap) (locs : List Loc), va_S A s.heap H locs → ∀ U : State, U.heap = H → s.WarmedH U.vm → E A U := fun H locs hS U hU hW => X.kept A s U H locs hE hS hU hW
  have hl := lv_entry ([.ref M.o, .int p0, .int p1]) (n := 4) (Nat.le_of_ble_eq_true rfl)
  rw [lg_entry_eq]
  generalize (lg_sl ([.ref M.o, .int p0, .int p1]) ++ List.replicate (4 - (lg_sl ([.ref M.o, .int p0, .int p1])).length) Slot.unset).toArray = ls at hl ⊢
  have hl : lv_has ls 4 [(0, .ref M.o), (1, .int p0), (2, .int p1)] := hl
  refine qabs (fun Q hQ => ?_)
  have hB_37 : ∀ (S : MS) (H : Heap) (locs : List Loc) (ls : Array Slot), f_Mo_content_37 K S = some (r, S') → va_P (dC, dI) classes (wM M S) H → va_D A (wM M S) → va_S A s.heap H locs → lv_has ls 4 [] → W p l e ({ frames := 14, cells := 0, slots := 0, locals := 380 }) s m ([.ref M.o, .int p0, .int p1] : List Value).toArray below meth c H locs 0 0 Q (F0 m 37 ls []) := by
    intro S H locs ls h hP hD hS hl
    rw [f_Mo_content_37] at h
    refine lv_iconst (v := (-1)) hx hb d_Mo_content_37 (by decide) ?_
    refine lv_goto (tgt := 70) hx hb d_Mo_content_38 (by decide) ?_
    rw [hQ]
    have e1 : ((-1)) = r := congrArg Prod.fst (Option.some.inj h)
    have e2 : S = S' := congrArg Prod.snd (Option.some.inj h)
    have hP := lx_newP e2.symm hP
    have hD := lx_newD e2.symm hD
    exact W.iret (v := ((-1))) hx hb hr (fun t ht hW => ⟨⟨((-1)), (), rfl, e1, by rw [ht]; exact hP, va_K.moved hW.alike hK, hD⟩, hS.F ht⟩) hS.2.2 d_Mo_content_70
  have hB_100 : ∀ (S : MS) (H : Heap) (locs : List Loc) (ls : Array Slot), f_Mo_content_100 K S = some (r, S') → va_P (dC, dI) classes (wM M S) H → va_D A (wM M S) → va_S A s.heap H locs → lv_has ls 4 [] → W p l e ({ frames := 14, cells := 0, slots := 0, locals := 380 }) s m ([.ref M.o, .int p0, .int p1] : List Value).toArray below meth c H locs 0 0 Q (F0 m 100 ls []) := by
    intro S H locs ls h hP hD hS hl
    rw [f_Mo_content_100] at h
    refine lv_iconst (v := (-1)) hx hb d_Mo_content_100 (by decide) ?_
    rw [hQ]
    have e1 : ((-1)) = r := congrArg Prod.fst (Option.some.inj h)
    have e2 : S = S' := congrArg Prod.snd (Option.some.inj h)
    have hP := lx_newP e2.symm hP
    have hD := lx_newD e2.symm hD
    exact W.iret (v := ((-1))) hx hb hr (fun t ht hW => ⟨⟨((-1)), (), rfl, e1, by rw [ht]; exact hP, va_K.moved hW.alike hK, hD⟩, hS.F ht⟩) hS.2.2 d_Mo_content_101
  rw [f_Mo_content] at h
  refine lv_aload_n hx hb d_Mo_content_0 rfl (lv_at hl 0 rfl) ?_
  refine lv_iload_n hx hb d_Mo_content_1 rfl (lv_at hl 1 rfl) ?_
  obtain ⟨r_1, S_1, hc_1, h⟩ := lf_cE h
  have hFc := lx_free hD hS hA
  refine va_calli (va_runV (As := [.int p0]) (rest := []) ⟨hx, hb, hml, hown, hts⟩ (l_Mo_no l dC dI X _ hc_1) (cwV 1 hts (gwV good_Mq (u_Mq_Mo _ k_Mo_252) (u_Mq_Mo _ k_Mo_253) (u_Mq_Mo _ k_Mo_510) (u_Mq_Mo _ k_Mo_0) (wcs (u_Mq_Mo _ k_Mo_254) (fun _ h => h))) rfl rfl rfl (by decide +kernel) ⟨Nat.le_of_ble_eq_true rfl, Nat.le_of_ble_eq_true rfl⟩) (pv_ofE (X.same _) (fun U z1 z2 => X.mono _ _ U hFc (hEw _ _ hS U z1 z2)) hP hK hD (va_recv hK hP (ci := 12) (q0 := 0) rfl rfl)) rfl rfl hl.1 rfl (lv_room (Nat.le_of_ble_eq_true rfl)) d_Mo_content_2 ⟨by decide, by decide⟩) hS (fun q _ h => hFc q h) hFc (fun r_ u t H locs ht hvm hw hB hz1 hk1 hS => ?_)
  rw [hw]
  obtain ⟨hP, -, hD⟩ := hB
  rw [ht] at hP
  have hD := lx_dj hD hFc
  refine lv_if_eq (tgt := 10) hx hb d_Mo_content_5 (by decide) (fun c_2 => ?_) (fun c_2 => ?_)
  · have h := lf_t h c_2
    refine lv_aload_n hx hb d_Mo_content_10 rfl (lv_at hl 0 rfl) ?_
    refine lv_iload_n hx hb d_Mo_content_11 rfl (lv_at hl 1 rfl) ?_
    obtain ⟨r_3, S_3, hc_3, h⟩ := lf_cE h
    have hFc := lx_free hD hS hA
    refine va_calli (va_runV (As := [.int p0]) (rest := []) ⟨hx, hb, hml, hown, hts⟩ (l_Mo_item l dC dI X _ hc_3) (cwV 1 hts (gwV good_Mq (u_Mq_Mo _ k_Mo_255) (u_Mq_Mo _ k_Mo_256) (u_Mq_Mo _ k_Mo_511) (u_Mq_Mo _ k_Mo_0) (wcs (u_Mq_Mo _ k_Mo_257) (fun _ h => h))) rfl rfl rfl (by decide +kernel) ⟨Nat.le_of_ble_eq_true rfl, Nat.le_of_ble_eq_true rfl⟩) (pv_ofE (X.same _) (fun U z1 z2 => X.mono _ _ U hFc (hEw _ _ hS U z1 z2)) hP hK hD (va_recv hK hP (ci := 12) (q0 := 0) rfl rfl)) rfl rfl hl.1 rfl (lv_room (Nat.le_of_ble_eq_true rfl)) d_Mo_content_12 ⟨by decide, by decide⟩) hS (fun q _ h => hFc q h) hFc (fun r_ u t H locs ht hvm hw hB hz1 hk1 hS => ?_)
    rw [hw]
    obtain ⟨hP, -, hD⟩ := hB
    rw [ht] at hP
    have hD := lx_dj hD hFc
    refine lv_istore_n (lv' := [(3, .int r_3), (0, .ref M.o), (1, .int p0), (2, .int p1)]) hx hb d_Mo_content_15 rfl hl (by decide) rfl (fun ls hl => ?_)
    refine lv_iload_n hx hb d_Mo_content_16 rfl (lv_at hl 0 rfl) ?_
    refine lv_iconst (v := (-1)) hx hb d_Mo_content_17 (by decide) ?_
    refine lv_icmp_ne (tgt := 71) hx hb d_Mo_content_18 (by decide) (fun c_4 => ?_) (fun c_4 => ?_)
    · have h := lf_f h c_4
      refine lv_aload_n hx hb d_Mo_content_71 rfl (lv_at hl 1 rfl) ?_
      refine lv_iload_n hx hb d_Mo_content_72 rfl (lv_at hl 0 rfl) ?_
      obtain ⟨r_5, S_5, hc_5, h⟩ := lf_cE h
      have hFc := lx_free hD hS hA
      refine va_calli (va_runV (As := [.int r_3]) (rest := []) ⟨hx, hb, hml, hown, hts⟩ (l_Mo_isFolder l dC dI X _ hc_5) (cwV 1 hts (gwV good_Mq (u_Mq_Mo _ k_Mo_118) (u_Mq_Mo _ k_Mo_119) (u_Mq_Mo _ k_Mo_489) (u_Mq_Mo _ k_Mo_0) (wcs (u_Mq_Mo _ k_Mo_120) (fun _ h => h))) rfl rfl rfl (by decide +kernel) ⟨Nat.le_of_ble_eq_true rfl, Nat.le_of_ble_eq_true rfl⟩) (pv_ofE (X.same _) (fun U z1 z2 => X.mono _ _ U hFc (hEw _ _ hS U z1 z2)) hP hK hD (va_recv hK hP (ci := 12) (q0 := 0) rfl rfl)) rfl rfl hl.1 rfl (lv_room (Nat.le_of_ble_eq_true rfl)) d_Mo_content_73 ⟨by decide, by decide⟩) hS (fun q _ h => hFc q h) hFc (fun r_ u t H locs ht hvm hw hB hz1 hk1 hS => ?_)
      rw [hw]
      obtain ⟨hP, -, hD⟩ := hB
      rw [ht] at hP
      have hD := lx_dj hD hFc
      refine lv_if_ne (tgt := 100) hx hb d_Mo_content_76 (by decide) (fun c_6 => ?_) (fun c_6 => ?_)
      · have h := lf_f h c_6
        exact hB_100 S_5 _ _ _ h hP hD hS (lv_sub hl [] rfl)
      · have h := lf_t h c_6
        refine lv_iload_n hx hb d_Mo_content_79 rfl (lv_at hl 3 rfl) ?_
        refine lv_if_lt (tgt := 100) hx hb d_Mo_content_80 (by decide) (fun c_7 => ?_) (fun c_7 => ?_)
        · have h := lf_t h c_7
          exact hB_100 S_5 _ _ _ h hP hD hS (lv_sub hl [] rfl)
        · have h := lf_f h c_7
          refine lv_iload_n hx hb d_Mo_content_83 rfl (lv_at hl 3 rfl) ?_
          refine lv_aload_n hx hb d_Mo_content_84 rfl (lv_at hl 1 rfl) ?_
          refine lv_aload_n hx hb d_Mo_content_85 rfl (lv_at hl 1 rfl) ?_
          refine va_get (D := (dC, dI)) (ci := 12) (v := .ref M.a_at) (C := R_Mo) (T := F_Mo) (N := 66) hx hb hts (fun w h => u_Mq_Mo w (i_Mo w h)) hown hK hP 0 rfl rfl 24 (by decide) (hts _ (u_Mq_Mo _ k_Mo_31)) (fun _ h9 => h9) rfl d_Mo_content_86 ?_
          refine lv_iload_n hx hb d_Mo_content_89 rfl (lv_at hl 0 rfl) ?_
          obtain ⟨g_8, h⟩ := lf_gE h
          refine va_iald hx hb hK hP 6 5 rfl rfl g_8 d_Mo_content_90 ?_
          refine lv_bipush (v := 28) hx hb d_Mo_content_91 (by decide) ?_
          refine lv_iadd hx hb d_Mo_content_93 ?_
          obtain ⟨r_9, S_9, hc_9, h⟩ := lf_cE h
          have hFc := lx_free hD hS hA
          refine va_calli (va_runV (As := [.int ((S_5.v_at r_3.toNatClampNeg) + 28)]) (rest := [.int p1]) ⟨hx, hb, hml, hown, hts⟩ (l_Mo_four l dC dI X _ hc_9) (cwV 1 hts (gwV good_Mq (u_Mq_Mo _ k_Mo_100) (u_Mq_Mo _ k_Mo_101) (u_Mq_Mo _ k_Mo_477) (u_Mq_Mo _ k_Mo_0) (wcs (u_Mq_Mo _ k_Mo_102) (fun _ h => h))) rfl rfl rfl (by decide +kernel) ⟨Nat.le_of_ble_eq_true rfl, Nat.le_of_ble_eq_true rfl⟩) (pv_ofE (X.same _) (fun U z1 z2 => X.mono _ _ U hFc (hEw _ _ hS U z1 z2)) hP hK hD (va_recv hK hP (ci := 12) (q0 := 0) rfl rfl)) rfl rfl hl.1 rfl (lv_room (Nat.le_of_ble_eq_true rfl)) d_Mo_content_94 ⟨by decide, by decide⟩) hS (fun q _ h => hFc q h) hFc (fun r_ u t H locs ht hvm hw hB hz1 hk1 hS => ?_)
          rw [hw]
          obtain ⟨hP, -, hD⟩ := hB
          rw [ht] at hP
          have hD := lx_dj hD hFc
          refine lv_icmp_lt (tgt := 102) hx hb d_Mo_content_97 (by decide) (fun c_10 => ?_) (fun c_10 => ?_)
          · have h := lf_t h c_10
            refine lv_aload_n hx hb d_Mo_content_102 rfl (lv_at hl 1 rfl) ?_
            refine lv_aload_n hx hb d_Mo_content_103 rfl (lv_at hl 1 rfl) ?_
            refine lv_iload_n hx hb d_Mo_content_104 rfl (lv_at hl 0 rfl) ?_
            obtain ⟨r_11, S_11, hc_11, h⟩ := lf_cE h
            have hFc := lx_free hD hS hA
            refine va_calli (va_runV (As := [.int r_3]) (rest := [.ref M.o]) ⟨hx, hb, hml, hown, hts⟩ (l_Mo_beginOf l dC dI X _ hc_11) (cwV 1 hts (gwV good_Mq (u_Mq_Mo _ k_Mo_124) (u_Mq_Mo _ k_Mo_125) (u_Mq_Mo _ k_Mo_490) (u_Mq_Mo _ k_Mo_0) (wcs (u_Mq_Mo _ k_Mo_126) (fun _ h => h))) rfl rfl rfl (by decide +kernel) ⟨Nat.le_of_ble_eq_true rfl, Nat.le_of_ble_eq_true rfl⟩) (pv_ofE (X.same _) (fun U z1 z2 => X.mono _ _ U hFc (hEw _ _ hS U z1 z2)) hP hK hD (va_recv hK hP (ci := 12) (q0 := 0) rfl rfl)) rfl rfl hl.1 rfl (lv_room (Nat.le_of_ble_eq_true rfl)) d_Mo_content_105 ⟨by decide, by decide⟩) hS (fun q _ h => hFc q h) hFc (fun r_ u t H locs ht hvm hw hB hz1 hk1 hS => ?_)
            rw [hw]
            obtain ⟨hP, -, hD⟩ := hB
            rw [ht] at hP
            have hD := lx_dj hD hFc
            obtain ⟨S_12, hc_12, h⟩ := lf_bE h
            have hFc := lx_free hD hS hA
            refine va_callv (va_runV (As := [.int r_11]) (rest := []) ⟨hx, hb, hml, hown, hts⟩ (l_Mo_walk l dC dI X _ hc_12) (cwV 1 hts (gwV good_Mq (u_Mq_Mo _ k_Mo_275) (u_Mq_Mo _ k_Mo_276) (u_Mq_Mo _ k_Mo_487) (u_Mq_Mo _ k_Mo_0) (wcs (u_Mq_Mo _ k_Mo_277) (fun _ h => h))) rfl rfl rfl (by decide +kernel) ⟨Nat.le_of_ble_eq_true rfl, Nat.le_of_ble_eq_true rfl⟩) (pv_ofE (X.same _) (fun U z1 z2 => X.mono _ _ U hFc (hEw _ _ hS U z1 z2)) hP hK hD (va_recv hK hP (ci := 12) (q0 := 0) rfl rfl)) rfl rfl hl.1 rfl (lv_room (Nat.le_of_ble_eq_true rfl)) d_Mo_content_108 ⟨by decide, by decide⟩) hS (fun q _ h => hFc q h) hFc (fun u t H locs ht hvm hw hB hz1 hk1 hS => ?_)
            obtain ⟨hP, -, hD⟩ := hB
            rw [ht] at hP
            have hD := lx_dj hD hFc
            refine lv_aload_n hx hb d_Mo_content_111 rfl (lv_at hl 1 rfl) ?_
            refine lv_aload_n hx hb d_Mo_content_112 rfl (lv_at hl 1 rfl) ?_
            refine lv_aload_n hx hb d_Mo_content_113 rfl (lv_at hl 1 rfl) ?_
            refine va_get (D := (dC, dI)) (ci := 12) (v := .ref M.a_chain) (C := R_Mo) (T := F_Mo) (N := 66) hx hb hts (fun w h => u_Mq_Mo w (i_Mo w h)) hown hK hP 0 rfl rfl 33 (by decide) (hts _ (u_Mq_Mo _ k_Mo_40)) (fun _ h9 => h9) rfl d_Mo_content_114 ?_
            refine lv_iload_n hx hb d_Mo_content_117 rfl (lv_at hl 3 rfl) ?_
            refine lv_sipush (v := 512) hx hb d_Mo_content_118 (by decide) ?_
            refine lv_aload_n hx hb d_Mo_content_121 rfl (lv_at hl 1 rfl) ?_
            refine va_get (D := (dC, dI)) (ci := 12) (v := .int S_12.v_c) (C := R_Mo) (T := F_Mo) (N := 66) hx hb hts (fun w h => u_Mq_Mo w (i_Mo w h)) hown hK hP 0 rfl rfl 11 (by decide) (hts _ (u_Mq_Mo _ k_Mo_18)) (fun _ h9 => h9) rfl d_Mo_content_122 ?_
            refine lv_imul hx hb d_Mo_content_125 ?_
            obtain ⟨g_13, h⟩ := lf_gE h
            refine lv_idiv hx hb d_Mo_content_126 g_13 ?_
            obtain ⟨g_14, h⟩ := lf_gE h
            refine va_iald hx hb hK hP 15 14 rfl rfl g_14 d_Mo_content_127 ?_
            obtain ⟨r_15, S_15, hc_15, h⟩ := lf_cE h
            have hFc := lx_free hD hS hA
            refine va_calli (va_runV (As := [.int (S_12.v_chain (p1 / (512 * S_12.v_c)).toNatClampNeg)]) (rest := [.ref M.o]) ⟨hx, hb, hml, hown, hts⟩ (l_Mo_place l dC dI X _ hc_15) (cwV 1 hts (gwV good_Mq (u_Mq_Mo _ k_Mo_136) (u_Mq_Mo _ k_Mo_137) (u_Mq_Mo _ k_Mo_483) (u_Mq_Mo _ k_Mo_0) (wcs (u_Mq_Mo _ k_Mo_138) (fun _ h => h))) rfl rfl rfl (by decide +kernel) ⟨Nat.le_of_ble_eq_true rfl, Nat.le_of_ble_eq_true rfl⟩) (pv_ofE (X.same _) (fun U z1 z2 => X.mono _ _ U hFc (hEw _ _ hS U z1 z2)) hP hK hD (va_recv hK hP (ci := 12) (q0 := 0) rfl rfl)) rfl rfl hl.1 rfl (lv_room (Nat.le_of_ble_eq_true rfl)) d_Mo_content_128 ⟨by decide, by decide⟩) hS (fun q _ h => hFc q h) hFc (fun r_ u t H locs ht hvm hw hB hz1 hk1 hS => ?_)
            rw [hw]
            obtain ⟨hP, -, hD⟩ := hB
            rw [ht] at hP
            have hD := lx_dj hD hFc
            refine lv_iload_n hx hb d_Mo_content_131 rfl (lv_at hl 3 rfl) ?_
            refine lv_sipush (v := 512) hx hb d_Mo_content_132 (by decide) ?_
            refine lv_aload_n hx hb d_Mo_content_135 rfl (lv_at hl 1 rfl) ?_
            refine va_get (D := (dC, dI)) (ci := 12) (v := .int S_15.v_c) (C := R_Mo) (T := F_Mo) (N := 66) hx hb hts (fun w h => u_Mq_Mo w (i_Mo w h)) hown hK hP 0 rfl rfl 11 (by decide) (hts _ (u_Mq_Mo _ k_Mo_18)) (fun _ h9 => h9) rfl d_Mo_content_136 ?_
            refine lv_imul hx hb d_Mo_content_139 ?_
            obtain ⟨g_16, h⟩ := lf_gE h
            refine lv_irem hx hb d_Mo_content_140 g_16 ?_
            refine lv_iadd hx hb d_Mo_content_141 ?_
            obtain ⟨r_17, S_17, hc_17, h⟩ := lf_cE h
            have hFc := lx_free hD hS hA
            refine va_calli (va_runV (As := [.int (r_15 + (p1 - p1 / (512 * S_15.v_c) * (512 * S_15.v_c)))]) (rest := []) ⟨hx, hb, hml, hown, hts⟩ (l_Mo_one l dC dI X _ hc_17) (cwV 1 hts (gwV good_Mq (u_Mq_Mo _ k_Mo_94) (u_Mq_Mo _ k_Mo_95) (u_Mq_Mo _ k_Mo_475) (u_Mq_Mo _ k_Mo_0) (wcs (u_Mq_Mo _ k_Mo_96) (fun _ h => h))) rfl rfl rfl (by decide +kernel) ⟨Nat.le_of_ble_eq_true rfl, Nat.le_of_ble_eq_true rfl⟩) (pv_ofE (X.same _) (fun U z1 z2 => X.mono _ _ U hFc (hEw _ _ hS U z1 z2)) hP hK hD (va_recv hK hP (ci := 12) (q0 := 0) rfl rfl)) rfl rfl hl.1 rfl (lv_room (Nat.le_of_ble_eq_true rfl)) d_Mo_content_142 ⟨by decide, by decide⟩) hS (fun q _ h => hFc q h) hFc (fun r_ u t H locs ht hvm hw hB hz1 hk1 hS => ?_)
            rw [hw]
            obtain ⟨hP, -, hD⟩ := hB
            rw [ht] at hP
            have hD := lx_dj hD hFc
            rw [hQ]
            have e1 : r_17 = r := congrArg Prod.fst (Option.some.inj h)
            have e2 : S_17 = S' := congrArg Prod.snd (Option.some.inj h)
            have hP := lx_newP e2.symm hP
            have hD := lx_newD e2.symm hD
            exact W.iret (v := r_17) hx hb hr (fun t ht hW => ⟨⟨r_17, (), rfl, e1, by rw [ht]; exact hP, va_K.moved hW.alike hK, hD⟩, hS.F ht⟩) hS.2.2 d_Mo_content_145
          · have h := lf_f h c_10
            exact hB_100 S_9 _ _ _ h hP hD hS (lv_sub hl [] rfl)
    · have h := lf_t h c_4
      refine lv_iload_n hx hb d_Mo_content_21 rfl (lv_at hl 3 rfl) ?_
      refine lv_if_lt (tgt := 37) hx hb d_Mo_content_22 (by decide) (fun c_18 => ?_) (fun c_18 => ?_)
      · have h := lf_t h c_18
        exact hB_37 S_3 _ _ _ h hP hD hS (lv_sub hl [] rfl)
      · have h := lf_f h c_18
        refine lv_iload_n hx hb d_Mo_content_25 rfl (lv_at hl 3 rfl) ?_
        refine lv_sipush (v := 1024) hx hb d_Mo_content_26 (by decide) ?_
        refine lv_aload_n hx hb d_Mo_content_29 rfl (lv_at hl 1 rfl) ?_
        obtain ⟨r_19, S_19, hc_19, h⟩ := lf_cE h
        have hFc := lx_free hD hS hA
        refine va_calli (va_runV (As := []) (rest := [.int 1024, .int p1]) ⟨hx, hb, hml, hown, hts⟩ (l_Mo_recordBlocks l dC dI X _ hc_19) (cwV 0 hts (gwV good_Mq (u_Mq_Mo _ k_Mo_269) (u_Mq_Mo _ k_Mo_270) (u_Mq_Mo _ k_Mo_527) (u_Mq_Mo _ k_Mo_0) (wcs (u_Mq_Mo _ k_Mo_271) (fun _ h => h))) rfl rfl rfl (by decide +kernel) ⟨Nat.le_of_ble_eq_true rfl, Nat.le_of_ble_eq_true rfl⟩) (pv_ofE (X.same _) (fun U z1 z2 => X.mono _ _ U hFc (hEw _ _ hS U z1 z2)) hP hK hD (va_recv hK hP (ci := 12) (q0 := 0) rfl rfl)) rfl rfl hl.1 rfl (lv_room (Nat.le_of_ble_eq_true rfl)) d_Mo_content_30 ⟨by decide, by decide⟩) hS (fun q _ h => hFc q h) hFc (fun r_ u t H locs ht hvm hw hB hz1 hk1 hS => ?_)
        rw [hw]
        obtain ⟨hP, -, hD⟩ := hB
        rw [ht] at hP
        have hD := lx_dj hD hFc
        refine lv_imul hx hb d_Mo_content_33 ?_
        refine lv_icmp_lt (tgt := 41) hx hb d_Mo_content_34 (by decide) (fun c_20 => ?_) (fun c_20 => ?_)
        · have h := lf_t h c_20
          refine lv_aload_n hx hb d_Mo_content_41 rfl (lv_at hl 1 rfl) ?_
          refine va_get (D := (dC, dI)) (ci := 12) (v := .ref M.a_fresh) (C := R_Mo) (T := F_Mo) (N := 66) hx hb hts (fun w h => u_Mq_Mo w (i_Mo w h)) hown hK hP 0 rfl rfl 2 (by decide) (hts _ (u_Mq_Mo _ k_Mo_9)) (fun _ h9 => h9) rfl d_Mo_content_42 ?_
          refine lv_sipush (v := 1024) hx hb d_Mo_content_45 (by decide) ?_
          refine lv_aload_n hx hb d_Mo_content_48 rfl (lv_at hl 1 rfl) ?_
          refine va_get (D := (dC, dI)) (ci := 12) (v := .ref M.a_record) (C := R_Mo) (T := F_Mo) (N := 66) hx hb hts (fun w h => u_Mq_Mo w (i_Mo w h)) hown hK hP 0 rfl rfl 61 (by decide) (hts _ (u_Mq_Mo _ k_Mo_68)) (fun _ h9 => h9) rfl d_Mo_content_49 ?_
          refine lv_iload_n hx hb d_Mo_content_52 rfl (lv_at hl 3 rfl) ?_
          refine lv_sipush (v := 1024) hx hb d_Mo_content_53 (by decide) ?_
          refine lv_idiv hx hb d_Mo_content_56 (by decide) ?_
          obtain ⟨g_21, h⟩ := lf_gE h
          refine va_iald hx hb hK hP 26 25 rfl rfl g_21 d_Mo_content_57 ?_
          refine lv_imul hx hb d_Mo_content_58 ?_
          refine lv_iload_n hx hb d_Mo_content_59 rfl (lv_at hl 3 rfl) ?_
          refine lv_sipush (v := 1024) hx hb d_Mo_content_60 (by decide) ?_
          refine lv_irem hx hb d_Mo_content_63 (by decide) ?_
          refine lv_iadd hx hb d_Mo_content_64 ?_
          obtain ⟨g_22, h⟩ := lf_gE h
          refine va_bald hx hb hK hP 2 1 rfl rfl g_22 d_Mo_content_65 ?_
          refine lv_sipush (v := 255) hx hb d_Mo_content_66 (by decide) ?_
          refine lv_iand hx hb d_Mo_content_69 ?_
          rw [hQ]
          have e1 : ((S_19.v_fresh ((1024 * (S_19.v_record (p1 / 1024).toNatClampNeg)) + (p1 - p1 / 1024 * 1024)).toNatClampNeg) &&& 255) = r := congrArg Prod.fst (Option.some.inj h)
          have e2 : S_19 = S' := congrArg Prod.snd (Option.some.inj h)
          have hP := lx_newP e2.symm hP
          have hD := lx_newD e2.symm hD
          exact W.iret (v := ((S_19.v_fresh ((1024 * (S_19.v_record (p1 / 1024).toNatClampNeg)) + (p1 - p1 / 1024 * 1024)).toNatClampNeg) &&& 255)) hx hb hr (fun t ht hW => ⟨⟨((S_19.v_fresh ((1024 * (S_19.v_record (p1 / 1024).toNatClampNeg)) + (p1 - p1 / 1024 * 1024)).toNatClampNeg) &&& 255), (), rfl, e1, by rw [ht]; exact hP, va_K.moved hW.alike hK, hD⟩, hS.F ht⟩) hS.2.2 d_Mo_content_70
        · have h := lf_f h c_20
          exact hB_37 S_19 _ _ _ h hP hD hS (lv_sub hl [] rfl)
  · have h := lf_f h c_2
    refine lv_iconst (v := 0) hx hb d_Mo_content_8 (by decide) ?_
    rw [hQ]
    have e1 : (0 : Int32) = r := congrArg Prod.fst (Option.some.inj h)
    have e2 : S_1 = S' := congrArg Prod.snd (Option.some.inj h)
    have hP := lx_newP e2.symm hP
    have hD := lx_newD e2.symm hD
    exact W.iret (v := 0) hx hb hr (fun t ht hW => ⟨⟨0, (), rfl, e1, by rw [ht]; exact hP, va_K.moved hW.alike hK, hD⟩, hS.F ht⟩) hS.2.2 d_Mo_content_9
