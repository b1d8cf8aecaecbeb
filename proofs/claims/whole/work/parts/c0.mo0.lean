set_option maxHeartbeats 4000000 in
set_option maxRecDepth 100000 in
theorem l_Mo_thrown (l : Launch) (dC : Nat → ClassId) (dI : Nat → Nat → Nat) {K : Nat} {M : MA} {E : (Nat → Prop) → State → Prop} (X : lx_X l dC dI K M E) (sz : Nat) {S S' : MS} {r : Int32} (h : f_Mo_thrown K S = some (r, S')) : Met l y_Mo_thrown (.code y_Mo_thrown b_Mo_thrown 1 (some .int) :: V_Mq) ({ frames := 0, cells := 0, slots := 0, locals := 0 }) (va_Pc [.ref M.o] (fun U => U.heap.size = sz ∧ at_ (dC, dI) (fun _ => True) (wM M S) (tM M) U ∧ E (va_A (wM M S) sz) U)) (va_Qi (fun (r_ : Int32) (u : Unit) => r_ = r) (fun (u : Unit) t => at_ (dC, dI) (va_A (wM M S) sz) (wM M S') (tM M) t) (va_A (wM M S) sz)) 0 0 (va_A (wM M S) sz) := by
  refine Met.ofW (cc := b_Mo_thrown) (maxL := 1) (ret := (some .int)) (by decide) rfl ?_
  intro p e s m args below meth c s₁ B hml hv
  obtain ⟨rfl, hsz, ⟨hP, hK, hD0⟩, hE⟩ := hv
  have hx := B.exec
  have hb := B.bytes
  have hr := B.returns
  have hts0 := atoms_spec (ws := .code y_Mo_thrown b_Mo_thrown 1 (some .int) :: V_Mq) B.pre
  have hts : ∀ w ∈ V_Mq, w.before ([.ref M.o] : List Value).toArray s = true := fun w h => hts0 w (List.mem_cons_of_mem _ h)
  have hown : s.vm.findClass R_Mo = some m.cls := findClass_of_methodNamed B.named
  subst hsz
  have hD := hD0.self (sz := s.heap.size)
  generalize hAe : va_A (wM M S) s.heap.size = A at hD hE ⊢
  have hA : ∀ q : Nat, s.heap.size ≤ q → A q := fun q h => by rw [← hAe]; exact Or.inr h
  have hS : va_S A s.heap s.heap [] := va_S.rf
  have hP : va_P (dC, dI) classes (wM M S) s.heap := hP
  have hK : va_K (dC, dI) classes (tM M) s := hK
  have hEw : ∀ (H : Heap) (locs : List Loc), va_S A s.heap H locs → ∀ U : State, U.heap = H → s.WarmedH U.vm → E A U := fun H locs hS U hU hW => X.kept A s U H locs hE hS hU hW
  have hl := lv_entry ([.ref M.o]) (n := 1) (Nat.le_of_ble_eq_true rfl)
  rw [lg_entry_eq]
  generalize (lg_sl ([.ref M.o]) ++ List.replicate (1 - (lg_sl ([.ref M.o])).length) Slot.unset).toArray = ls at hl ⊢
  have hl : lv_has ls 1 [(0, .ref M.o)] := hl
  refine qabs (fun Q hQ => ?_)
  rw [f_Mo_thrown] at h
  refine lv_aload_n hx hb d_Mo_thrown_0 rfl (lv_at hl 0 rfl) ?_
  refine va_get (D := (dC, dI)) (ci := 12) (v := .int S.v_thrown) (C := R_Mo) (T := F_Mo) (N := 66) hx hb hts (fun w h => u_Mq_Mo w (i_Mo w h)) hown hK hP 0 rfl rfl 6 (by decide) (hts _ (u_Mq_Mo _ k_Mo_13)) (fun _ h9 => h9) rfl d_Mo_thrown_1 ?_
  rw [hQ]
  have e1 : S.v_thrown = r := congrArg Prod.fst (Option.some.inj h)
  have e2 : S = S' := congrArg Prod.snd (Option.some.inj h)
  have hP := lx_newP e2.symm hP
  have hD := lx_newD e2.symm hD
  exact W.iret (v := S.v_thrown) hx hb hr (fun t ht hW => ⟨⟨S.v_thrown, (), rfl, e1, by rw [ht]; exact hP, va_K.moved hW.alike hK, hD⟩, hS.F ht⟩) hS.2.2 d_Mo_thrown_4
set_option maxHeartbeats 4000000 in
set_option maxRecDepth 100000 in
theorem l_Mo_fails (l : Launch) (dC : Nat → ClassId) (dI : Nat → Nat → Nat) {K : Nat} {M : MA} {E : (Nat → Prop) → State → Prop} (X : lx_X l dC dI K M E) (sz : Nat) {S S' : MS} {p0 : Int32} {p1 : Int32} {r : Int32} (h : f_Mo_fails K S p0 p1 = some (r, S')) : Met l y_Mo_fails (.code y_Mo_fails b_Mo_fails 3 (some .boolean) :: V_Mq) ({ frames := 0, cells := 0, slots := 0, locals := 0 }) (va_Pc [.ref M.o, .int p0, .int p1] (fun U => U.heap.size = sz ∧ at_ (dC, dI) (fun _ => True) (wM M S) (tM M) U ∧ E (va_A (wM M S) sz) U)) (va_Qi (fun (r_ : Int32) (u : Unit) => r_ = r) (fun (u : Unit) t => at_ (dC, dI) (va_A (wM M S) sz) (wM M S') (tM M) t) (va_A (wM M S) sz)) 0 0 (va_A (wM M S) sz) := by
  refine Met.ofW (cc := b_Mo_fails) (maxL := 3) (ret := (some .boolean)) (by decide) rfl ?_
  intro p e s m args below meth c s₁ B hml hv
  obtain ⟨rfl, hsz, ⟨hP, hK, hD0⟩, hE⟩ := hv
  have hx := B.exec
  have hb := B.bytes
  have hr := B.returns
  have hts0 := atoms_spec (ws := .code y_Mo_fails b_Mo_fails 3 (some .boolean) :: V_Mq) B.pre
  have hts : ∀ w ∈ V_Mq, w.before ([.ref M.o, .int p0, .int p1] : List Value).toArray s = true := fun w h => hts0 w (List.mem_cons_of_mem _ h)
  have hown : s.vm.findClass R_Mo = some m.cls := findClass_of_methodNamed B.named
  subst hsz
  have hD := hD0.self (sz := s.heap.size)
  generalize hAe : va_A (wM M S) s.heap.size = A at hD hE ⊢
  have hA : ∀ q : Nat, s.heap.size ≤ q → A q := fun q h => by rw [← hAe]; exact Or.inr h
  have hS : va_S A s.heap s.heap [] := va_S.rf
  have hP : va_P (dC, dI) classes (wM M S) s.heap := hP
  have hK : va_K (dC, dI) classes (tM M) s := hK
  have hEw : ∀ (H : Heap) (locs : List Loc), va_S A s.heap H locs → ∀ U : State, U.heap = H → s.WarmedH U.vm → E A U := fun H locs hS U hU hW => X.kept A s U H locs hE hS hU hW
  have hl := lv_entry ([.ref M.o, .int p0, .int p1]) (n := 3) (Nat.le_of_ble_eq_true rfl)
  rw [lg_entry_eq]
  generalize (lg_sl ([.ref M.o, .int p0, .int p1]) ++ List.replicate (3 - (lg_sl ([.ref M.o, .int p0, .int p1])).length) Slot.unset).toArray = ls at hl ⊢
  have hl : lv_has ls 3 [(0, .ref M.o), (1, .int p0), (2, .int p1)] := hl
  refine qabs (fun Q hQ => ?_)
  have hB_16 : ∀ (S : MS) (H : Heap) (locs : List Loc) (ls : Array Slot), f_Mo_fails_16 K S = some (r, S') → va_P (dC, dI) classes (wM M S) H → va_D A (wM M S) → va_S A s.heap H locs → lv_has ls 3 [(0, .ref M.o)] → W p l e ({ frames := 0, cells := 0, slots := 0, locals := 0 }) s m ([.ref M.o, .int p0, .int p1] : List Value).toArray below meth c H locs 0 0 Q (F0 m 16 ls []) := by
    intro S H locs ls h hP hD hS hl
    rw [f_Mo_fails_16] at h
    refine lv_aload_n hx hb d_Mo_fails_16 rfl (lv_at hl 0 rfl) ?_
    refine va_get (D := (dC, dI)) (ci := 12) (v := .int S.v_thrown) (C := R_Mo) (T := F_Mo) (N := 66) hx hb hts (fun w h => u_Mq_Mo w (i_Mo w h)) hown hK hP 0 rfl rfl 6 (by decide) (hts _ (u_Mq_Mo _ k_Mo_13)) (fun _ h9 => h9) rfl d_Mo_fails_17 ?_
    refine lv_if_eq (tgt := 27) hx hb d_Mo_fails_20 (by decide) (fun c_4 => ?_) (fun c_4 => ?_)
    · have h := lf_t h c_4
      refine lv_iconst (v := 0) hx hb d_Mo_fails_27 (by decide) ?_
      rw [hQ]
      have e1 : (0 : Int32) = r := congrArg Prod.fst (Option.some.inj h)
      have e2 : S = S' := congrArg Prod.snd (Option.some.inj h)
      have hP := lx_newP e2.symm hP
      have hD := lx_newD e2.symm hD
      exact W.zret (v := 0) hx hb hr rfl (fun t ht hW => ⟨⟨0, (), rfl, e1, by rw [ht]; exact hP, va_K.moved hW.alike hK, hD⟩, hS.F ht⟩) hS.2.2 d_Mo_fails_28
    · have h := lf_f h c_4
      refine lv_iconst (v := 1) hx hb d_Mo_fails_23 (by decide) ?_
      refine lv_goto (tgt := 28) hx hb d_Mo_fails_24 (by decide) ?_
      rw [hQ]
      have e1 : (1 : Int32) = r := congrArg Prod.fst (Option.some.inj h)
      have e2 : S = S' := congrArg Prod.snd (Option.some.inj h)
      have hP := lx_newP e2.symm hP
      have hD := lx_newD e2.symm hD
      exact W.zret (v := 1) hx hb hr rfl (fun t ht hW => ⟨⟨1, (), rfl, e1, by rw [ht]; exact hP, va_K.moved hW.alike hK, hD⟩, hS.F ht⟩) hS.2.2 d_Mo_fails_28
  rw [f_Mo_fails] at h
  refine lv_iload_n hx hb d_Mo_fails_0 rfl (lv_at hl 1 rfl) ?_
  refine lv_if_eq (tgt := 16) hx hb d_Mo_fails_1 (by decide) (fun c_1 => ?_) (fun c_1 => ?_)
  · have h := lf_t h c_1
    exact hB_16 S _ _ _ h hP hD hS (lv_sub hl [0] rfl)
  · have h := lf_f h c_1
    refine lv_aload_n hx hb d_Mo_fails_4 rfl (lv_at hl 0 rfl) ?_
    refine va_get (D := (dC, dI)) (ci := 12) (v := .int S.v_thrown) (C := R_Mo) (T := F_Mo) (N := 66) hx hb hts (fun w h => u_Mq_Mo w (i_Mo w h)) hown hK hP 0 rfl rfl 6 (by decide) (hts _ (u_Mq_Mo _ k_Mo_13)) (fun _ h9 => h9) rfl d_Mo_fails_5 ?_
    refine lv_if_ne (tgt := 16) hx hb d_Mo_fails_8 (by decide) (fun c_2 => ?_) (fun c_2 => ?_)
    · have h := lf_f h c_2
      exact hB_16 S _ _ _ h hP hD hS (lv_sub hl [0] rfl)
    · have h := lf_t h c_2
      refine lv_aload_n hx hb d_Mo_fails_11 rfl (lv_at hl 0 rfl) ?_
      refine lv_iload_n hx hb d_Mo_fails_12 rfl (lv_at hl 2 rfl) ?_
      refine va_put (D := (dC, dI)) (ci := 12) (v := .int p1) (ty := .int) (C := R_Mo) (T := F_Mo) (N := 66) hx hb hts (fun w h => u_Mq_Mo w (i_Mo w h)) t_Mo t_Mo_ok n_Mo hown hK hP hD hS 0 rfl rfl 6 (by decide) (hts _ (u_Mq_Mo _ k_Mo_13)) (fun _ h9 => h9) rfl (by decide +kernel) rfl rfl (Nat.le_of_ble_eq_true rfl) d_Mo_fails_13 (fun H locs hP hD hS => ?_)
      obtain ⟨S_3, eS_3, h⟩ := lf_lX h
      have hP := lx_newP eS_3 hP
      have hD := lx_newD eS_3 hD
      exact hB_16 S_3 _ _ _ h hP hD hS (lv_sub hl [0] rfl)
set_option maxHeartbeats 4000000 in
set_option maxRecDepth 100000 in
theorem l_Mo_one (l : Launch) (dC : Nat → ClassId) (dI : Nat → Nat → Nat) {K : Nat} {M : MA} {E : (Nat → Prop) → State → Prop} (X : lx_X l dC dI K M E) (sz : Nat) {S S' : MS} {p0 : Int32} {r : Int32} (h : f_Mo_one K S p0 = some (r, S')) : Met l y_Mo_one (.code y_Mo_one b_Mo_one 2 (some .int) :: V_Mq) ({ frames := 0, cells := 0, slots := 0, locals := 0 }) (va_Pc [.ref M.o, .int p0] (fun U => U.heap.size = sz ∧ at_ (dC, dI) (fun _ => True) (wM M S) (tM M) U ∧ E (va_A (wM M S) sz) U)) (va_Qi (fun (r_ : Int32) (u : Unit) => r_ = r) (fun (u : Unit) t => at_ (dC, dI) (va_A (wM M S) sz) (wM M S') (tM M) t) (va_A (wM M S) sz)) 0 0 (va_A (wM M S) sz) := by
  refine Met.ofW (cc := b_Mo_one) (maxL := 2) (ret := (some .int)) (by decide) rfl ?_
  intro p e s m args below meth c s₁ B hml hv
  obtain ⟨rfl, hsz, ⟨hP, hK, hD0⟩, hE⟩ := hv
  have hx := B.exec
  have hb := B.bytes
  have hr := B.returns
  have hts0 := atoms_spec (ws := .code y_Mo_one b_Mo_one 2 (some .int) :: V_Mq) B.pre
  have hts : ∀ w ∈ V_Mq, w.before ([.ref M.o, .int p0] : List Value).toArray s = true := fun w h => hts0 w (List.mem_cons_of_mem _ h)
  have hown : s.vm.findClass R_Mo = some m.cls := findClass_of_methodNamed B.named
  subst hsz
  have hD := hD0.self (sz := s.heap.size)
  generalize hAe : va_A (wM M S) s.heap.size = A at hD hE ⊢
  have hA : ∀ q : Nat, s.heap.size ≤ q → A q := fun q h => by rw [← hAe]; exact Or.inr h
  have hS : va_S A s.heap s.heap [] := va_S.rf
  have hP : va_P (dC, dI) classes (wM M S) s.heap := hP
  have hK : va_K (dC, dI) classes (tM M) s := hK
  have hEw : ∀ (H : Heap) (locs : List Loc), va_S A s.heap H locs → ∀ U : State, U.heap = H → s.WarmedH U.vm → E A U := fun H locs hS U hU hW => X.kept A s U H locs hE hS hU hW
  have hl := lv_entry ([.ref M.o, .int p0]) (n := 2) (Nat.le_of_ble_eq_true rfl)
  rw [lg_entry_eq]
  generalize (lg_sl ([.ref M.o, .int p0]) ++ List.replicate (2 - (lg_sl ([.ref M.o, .int p0])).length) Slot.unset).toArray = ls at hl ⊢
  have hl : lv_has ls 2 [(0, .ref M.o), (1, .int p0)] := hl
  refine qabs (fun Q hQ => ?_)
  rw [f_Mo_one] at h
  refine lv_aload_n hx hb d_Mo_one_0 rfl (lv_at hl 0 rfl) ?_
  refine va_get (D := (dC, dI)) (ci := 12) (v := .ref M.a_disk) (C := R_Mo) (T := F_Mo) (N := 66) hx hb hts (fun w h => u_Mq_Mo w (i_Mo w h)) hown hK hP 0 rfl rfl 1 (by decide) (hts _ (u_Mq_Mo _ k_Mo_8)) (fun _ h9 => h9) rfl d_Mo_one_1 ?_
  refine lv_iload_n hx hb d_Mo_one_4 rfl (lv_at hl 1 rfl) ?_
  obtain ⟨g_1, h⟩ := lf_gE h
  refine va_bald hx hb hK hP 1 0 rfl rfl g_1 d_Mo_one_5 ?_
  refine lv_sipush (v := 255) hx hb d_Mo_one_6 (by decide) ?_
  refine lv_iand hx hb d_Mo_one_9 ?_
  rw [hQ]
  have e1 : ((S.v_disk p0.toNatClampNeg) &&& 255) = r := congrArg Prod.fst (Option.some.inj h)
  have e2 : S = S' := congrArg Prod.snd (Option.some.inj h)
  have hP := lx_newP e2.symm hP
  have hD := lx_newD e2.symm hD
  exact W.iret (v := ((S.v_disk p0.toNatClampNeg) &&& 255)) hx hb hr (fun t ht hW => ⟨⟨((S.v_disk p0.toNatClampNeg) &&& 255), (), rfl, e1, by rw [ht]; exact hP, va_K.moved hW.alike hK, hD⟩, hS.F ht⟩) hS.2.2 d_Mo_one_10
set_option maxHeartbeats 4000000 in
set_option maxRecDepth 100000 in
theorem l_Mo_two (l : Launch) (dC : Nat → ClassId) (dI : Nat → Nat → Nat) {K : Nat} {M : MA} {E : (Nat → Prop) → State → Prop} (X : lx_X l dC dI K M E) (sz : Nat) {S S' : MS} {p0 : Int32} {r : Int32} (h : f_Mo_two K S p0 = some (r, S')) : Met l y_Mo_two (.code y_Mo_two b_Mo_two 2 (some .int) :: V_Mq) ({ frames := 1, cells := 0, slots := 0, locals := 21 }) (va_Pc [.ref M.o, .int p0] (fun U => U.heap.size = sz ∧ at_ (dC, dI) (fun _ => True) (wM M S) (tM M) U ∧ E (va_A (wM M S) sz) U)) (va_Qi (fun (r_ : Int32) (u : Unit) => r_ = r) (fun (u : Unit) t => at_ (dC, dI) (va_A (wM M S) sz) (wM M S') (tM M) t) (va_A (wM M S) sz)) 0 0 (va_A (wM M S) sz) := by
  refine Met.ofW (cc := b_Mo_two) (maxL := 2) (ret := (some .int)) (by decide) rfl ?_
  intro p e s m args below meth c s₁ B hml hv
  obtain ⟨rfl, hsz, ⟨hP, hK, hD0⟩, hE⟩ := hv
  have hx := B.exec
  have hb := B.bytes
  have hr := B.returns
  have hts0 := atoms_spec (ws := .code y_Mo_two b_Mo_two 2 (some .int) :: V_Mq) B.pre
  have hts : ∀ w ∈ V_Mq, w.before ([.ref M.o, .int p0] : List Value).toArray s = true := fun w h => hts0 w (List.mem_cons_of_mem _ h)
  have hown : s.vm.findClass R_Mo = some m.cls := findClass_of_methodNamed B.named
  subst hsz
  have hD := hD0.self (sz := s.heap.size)
  generalize hAe : va_A (wM M S) s.heap.size = A at hD hE ⊢
  have hA : ∀ q : Nat, s.heap.size ≤ q → A q := fun q h => by rw [← hAe]; exact Or.inr h
  have hS : va_S A s.heap s.heap [] := va_S.rf
  have hP : va_P (dC, dI) classes (wM M S) s.heap := hP
  have hK : va_K (dC, dI) classes (tM M) s := hK
  have hEw : ∀ (H : Heap) (locs : List Loc), va_S A s.heap H locs → ∀ U : State, U.heap = H → s.WarmedH U.vm → E A U := fun H locs hS U hU hW => X.kept A s U H locs hE hS hU hW
  have hl := lv_entry ([.ref M.o, .int p0]) (n := 2) (Nat.le_of_ble_eq_true rfl)
  rw [lg_entry_eq]
  generalize (lg_sl ([.ref M.o, .int p0]) ++ List.replicate (2 - (lg_sl ([.ref M.o, .int p0])).length) Slot.unset).toArray = ls at hl ⊢
  have hl : lv_has ls 2 [(0, .ref M.o), (1, .int p0)] := hl
  refine qabs (fun Q hQ => ?_)
  rw [f_Mo_two] at h
  refine lv_aload_n hx hb d_Mo_two_0 rfl (lv_at hl 0 rfl) ?_
  refine lv_iload_n hx hb d_Mo_two_1 rfl (lv_at hl 1 rfl) ?_
  obtain ⟨r_1, S_1, hc_1, h⟩ := lf_cE h
  have hFc := lx_free hD hS hA
  refine va_calli (va_runV (As := [.int p0]) (rest := []) ⟨hx, hb, hml, hown, hts⟩ (l_Mo_one l dC dI X _ hc_1) (cwV 1 hts (gwV good_Mq (u_Mq_Mo _ k_Mo_94) (u_Mq_Mo _ k_Mo_95) (u_Mq_Mo _ k_Mo_475) (u_Mq_Mo _ k_Mo_0) (wcs (u_Mq_Mo _ k_Mo_96) (fun _ h => h))) rfl rfl rfl (by decide +kernel) ⟨Nat.le_of_ble_eq_true rfl, Nat.le_of_ble_eq_true rfl⟩) (pv_ofE (X.same _) (fun U z1 z2 => X.mono _ _ U hFc (hEw _ _ hS U z1 z2)) hP hK hD (va_recv hK hP (ci := 12) (q0 := 0) rfl rfl)) rfl rfl hl.1 rfl (lv_room (Nat.le_of_ble_eq_true rfl)) d_Mo_two_2 ⟨by decide, by decide⟩) hS (fun q _ h => hFc q h) hFc (fun r_ u t H locs ht hvm hw hB hz1 hk1 hS => ?_)
  rw [hw]
  obtain ⟨hP, -, hD⟩ := hB
  rw [ht] at hP
  have hD := lx_dj hD hFc
  refine lv_aload_n hx hb d_Mo_two_5 rfl (lv_at hl 0 rfl) ?_
  refine lv_iload_n hx hb d_Mo_two_6 rfl (lv_at hl 1 rfl) ?_
  refine lv_iconst (v := 1) hx hb d_Mo_two_7 (by decide) ?_
  refine lv_iadd hx hb d_Mo_two_8 ?_
  obtain ⟨r_2, S_2, hc_2, h⟩ := lf_cE h
  have hFc := lx_free hD hS hA
  refine va_calli (va_runV (As := [.int (p0 + 1)]) (rest := [.int r_1]) ⟨hx, hb, hml, hown, hts⟩ (l_Mo_one l dC dI X _ hc_2) (cwV 1 hts (gwV good_Mq (u_Mq_Mo _ k_Mo_94) (u_Mq_Mo _ k_Mo_95) (u_Mq_Mo _ k_Mo_475) (u_Mq_Mo _ k_Mo_0) (wcs (u_Mq_Mo _ k_Mo_96) (fun _ h => h))) rfl rfl rfl (by decide +kernel) ⟨Nat.le_of_ble_eq_true rfl, Nat.le_of_ble_eq_true rfl⟩) (pv_ofE (X.same _) (fun U z1 z2 => X.mono _ _ U hFc (hEw _ _ hS U z1 z2)) hP hK hD (va_recv hK hP (ci := 12) (q0 := 0) rfl rfl)) rfl rfl hl.1 rfl (lv_room (Nat.le_of_ble_eq_true rfl)) d_Mo_two_9 ⟨by decide, by decide⟩) hS (fun q _ h => hFc q h) hFc (fun r_ u t H locs ht hvm hw hB hz1 hk1 hS => ?_)
  rw [hw]
  obtain ⟨hP, -, hD⟩ := hB
  rw [ht] at hP
  have hD := lx_dj hD hFc
  refine lv_bipush (v := 8) hx hb d_Mo_two_12 (by decide) ?_
  refine lv_ishl hx hb d_Mo_two_14 ?_
  refine lv_ior hx hb d_Mo_two_15 ?_
  rw [hQ]
  have e1 : (r_1 ||| (r_2 <<< ((8 : Int32) &&& 31))) = r := congrArg Prod.fst (Option.some.inj h)
  have e2 : S_2 = S' := congrArg Prod.snd (Option.some.inj h)
  have hP := lx_newP e2.symm hP
  have hD := lx_newD e2.symm hD
  exact W.iret (v := (r_1 ||| (r_2 <<< ((8 : Int32) &&& 31)))) hx hb hr (fun t ht hW => ⟨⟨(r_1 ||| (r_2 <<< ((8 : Int32) &&& 31))), (), rfl, e1, by rw [ht]; exact hP, va_K.moved hW.alike hK, hD⟩, hS.F ht⟩) hS.2.2 d_Mo_two_16
set_option maxHeartbeats 4000000 in
set_option maxRecDepth 100000 in
theorem l_Mo_four (l : Launch) (dC : Nat → ClassId) (dI : Nat → Nat → Nat) {K : Nat} {M : MA} {E : (Nat → Prop) → State → Prop} (X : lx_X l dC dI K M E) (sz : Nat) {S S' : MS} {p0 : Int32} {r : Int32} (h : f_Mo_four K S p0 = some (r, S')) : Met l y_Mo_four (.code y_Mo_four b_Mo_four 2 (some .int) :: V_Mq) ({ frames := 2, cells := 0, slots := 0, locals := 42 }) (va_Pc [.ref M.o, .int p0] (fun U => U.heap.size = sz ∧ at_ (dC, dI) (fun _ => True) (wM M S) (tM M) U ∧ E (va_A (wM M S) sz) U)) (va_Qi (fun (r_ : Int32) (u : Unit) => r_ = r) (fun (u : Unit) t => at_ (dC, dI) (va_A (wM M S) sz) (wM M S') (tM M) t) (va_A (wM M S) sz)) 0 0 (va_A (wM M S) sz) := by
  refine Met.ofW (cc := b_Mo_four) (maxL := 2) (ret := (some .int)) (by decide) rfl ?_
  intro p e s m args below meth c s₁ B hml hv
  obtain ⟨rfl, hsz, ⟨hP, hK, hD0⟩, hE⟩ := hv
  have hx := B.exec
  have hb := B.bytes
  have hr := B.returns
  have hts0 := atoms_spec (ws := .code y_Mo_four b_Mo_four 2 (some .int) :: V_Mq) B.pre
  have hts : ∀ w ∈ V_Mq, w.before ([.ref M.o, .int p0] : List Value).toArray s = true := fun w h => hts0 w (List.mem_cons_of_mem _ h)
  have hown : s.vm.findClass R_Mo = some m.cls := findClass_of_methodNamed B.named
  subst hsz
  have hD := hD0.self (sz := s.heap.size)
  generalize hAe : va_A (wM M S) s.heap.size = A at hD hE ⊢
  have hA : ∀ q : Nat, s.heap.size ≤ q → A q := fun q h => by rw [← hAe]; exact Or.inr h
  have hS : va_S A s.heap s.heap [] := va_S.rf
  have hP : va_P (dC, dI) classes (wM M S) s.heap := hP
  have hK : va_K (dC, dI) classes (tM M) s := hK
  have hEw : ∀ (H : Heap) (locs : List Loc), va_S A s.heap H locs → ∀ U : State, U.heap = H → s.WarmedH U.vm → E A U := fun H locs hS U hU hW => X.kept A s U H locs hE hS hU hW
  have hl := lv_entry ([.ref M.o, .int p0]) (n := 2) (Nat.le_of_ble_eq_true rfl)
  rw [lg_entry_eq]
  generalize (lg_sl ([.ref M.o, .int p0]) ++ List.replicate (2 - (lg_sl ([.ref M.o, .int p0])).length) Slot.unset).toArray = ls at hl ⊢
  have hl : lv_has ls 2 [(0, .ref M.o), (1, .int p0)] := hl
  refine qabs (fun Q hQ => ?_)
  rw [f_Mo_four] at h
  refine lv_aload_n hx hb d_Mo_four_0 rfl (lv_at hl 0 rfl) ?_
  refine lv_iload_n hx hb d_Mo_four_1 rfl (lv_at hl 1 rfl) ?_
  obtain ⟨r_1, S_1, hc_1, h⟩ := lf_cE h
  have hFc := lx_free hD hS hA
  refine va_calli (va_runV (As := [.int p0]) (rest := []) ⟨hx, hb, hml, hown, hts⟩ (l_Mo_two l dC dI X _ hc_1) (cwV 1 hts (gwV good_Mq (u_Mq_Mo _ k_Mo_97) (u_Mq_Mo _ k_Mo_98) (u_Mq_Mo _ k_Mo_476) (u_Mq_Mo _ k_Mo_0) (wcs (u_Mq_Mo _ k_Mo_99) (fun _ h => h))) rfl rfl rfl (by decide +kernel) ⟨Nat.le_of_ble_eq_true rfl, Nat.le_of_ble_eq_true rfl⟩) (pv_ofE (X.same _) (fun U z1 z2 => X.mono _ _ U hFc (hEw _ _ hS U z1 z2)) hP hK hD (va_recv hK hP (ci := 12) (q0 := 0) rfl rfl)) rfl rfl hl.1 rfl (lv_room (Nat.le_of_ble_eq_true rfl)) d_Mo_four_2 ⟨by decide, by decide⟩) hS (fun q _ h => hFc q h) hFc (fun r_ u t H locs ht hvm hw hB hz1 hk1 hS => ?_)
  rw [hw]
  obtain ⟨hP, -, hD⟩ := hB
  rw [ht] at hP
  have hD := lx_dj hD hFc
  refine lv_aload_n hx hb d_Mo_four_5 rfl (lv_at hl 0 rfl) ?_
  refine lv_iload_n hx hb d_Mo_four_6 rfl (lv_at hl 1 rfl) ?_
  refine lv_iconst (v := 2) hx hb d_Mo_four_7 (by decide) ?_
  refine lv_iadd hx hb d_Mo_four_8 ?_
  obtain ⟨r_2, S_2, hc_2, h⟩ := lf_cE h
  have hFc := lx_free hD hS hA
  refine va_calli (va_runV (As := [.int (p0 + 2)]) (rest := [.int r_1]) ⟨hx, hb, hml, hown, hts⟩ (l_Mo_two l dC dI X _ hc_2) (cwV 1 hts (gwV good_Mq (u_Mq_Mo _ k_Mo_97) (u_Mq_Mo _ k_Mo_98) (u_Mq_Mo _ k_Mo_476) (u_Mq_Mo _ k_Mo_0) (wcs (u_Mq_Mo _ k_Mo_99) (fun _ h => h))) rfl rfl rfl (by decide +kernel) ⟨Nat.le_of_ble_eq_true rfl, Nat.le_of_ble_eq_true rfl⟩) (pv_ofE (X.same _) (fun U z1 z2 => X.mono _ _ U hFc (hEw _ _ hS U z1 z2)) hP hK hD (va_recv hK hP (ci := 12) (q0 := 0) rfl rfl)) rfl rfl hl.1 rfl (lv_room (Nat.le_of_ble_eq_true rfl)) d_Mo_four_9 ⟨by decide, by decide⟩) hS (fun q _ h => hFc q h) hFc (fun r_ u t H locs ht hvm hw hB hz1 hk1 hS => ?_)
  rw [hw]
  obtain ⟨hP, -, hD⟩ := hB
  rw [ht] at hP
  have hD := lx_dj hD hFc
  refine lv_bipush (v := 16) hx hb d_Mo_four_12 (by decide) ?_
  refine lv_ishl hx hb d_Mo_four_14 ?_
  refine lv_ior hx hb d_Mo_four_15 ?_
  rw [hQ]
  have e1 : (r_1 ||| (r_2 <<< ((16 : Int32) &&& 31))) = r := congrArg Prod.fst (Option.some.inj h)
  have e2 : S_2 = S' := congrArg Prod.snd (Option.some.inj h)
  have hP := lx_newP e2.symm hP
  have hD := lx_newD e2.symm hD
  exact W.iret (v := (r_1 ||| (r_2 <<< ((16 : Int32) &&& 31)))) hx hb hr (fun t ht hW => ⟨⟨(r_1 ||| (r_2 <<< ((16 : Int32) &&& 31))), (), rfl, e1, by rw [ht]; exact hP, va_K.moved hW.alike hK, hD⟩, hS.F ht⟩) hS.2.2 d_Mo_four_16
set_option maxHeartbeats 4000000 in
set_option maxRecDepth 100000 in
theorem l_Mo_set (l : Launch) (dC : Nat → ClassId) (dI : Nat → Nat → Nat) {K : Nat} {M : MA} {E : (Nat → Prop) → State → Prop} (X : lx_X l dC dI K M E) (sz : Nat) {S S' : MS} {p0 : Int32} {p1 : Int32} {p2 : Int64} (h : f_Mo_set K S p0 p1 p2 = some S') : Met l y_Mo_set (.code y_Mo_set b_Mo_set 6 none :: V_Mq) ({ frames := 0, cells := 0, slots := 0, locals := 0 }) (va_Pc [.ref M.o, .int p0, .int p1, .long p2] (fun U => U.heap.size = sz ∧ at_ (dC, dI) (fun _ => True) (wM M S) (tM M) U ∧ E (va_A (wM M S) sz) U)) (va_Qv (fun (u : Unit) => True) (fun (u : Unit) t => at_ (dC, dI) (va_A (wM M S) sz) (wM M S') (tM M) t) (va_A (wM M S) sz)) 0 0 (va_A (wM M S) sz) := by
  refine Met.ofW (cc := b_Mo_set) (maxL := 6) (ret := none) (by decide) rfl ?_
  intro p e s m args below meth c s₁ B hml hv
  obtain ⟨rfl, hsz, ⟨hP, hK, hD0⟩, hE⟩ := hv
  have hx := B.exec
  have hb := B.bytes
  have hr := B.returns
  have hts0 := atoms_spec (ws := .code y_Mo_set b_Mo_set 6 none :: V_Mq) B.pre
  have hts : ∀ w ∈ V_Mq, w.before ([.ref M.o, .int p0, .int p1, .long p2] : List Value).toArray s = true := fun w h => hts0 w (List.mem_cons_of_mem _ h)
  have hown : s.vm.findClass R_Mo = some m.cls := findClass_of_methodNamed B.named
  subst hsz
  have hD := hD0.self (sz := s.heap.size)
  generalize hAe : va_A (wM M S) s.heap.size = A at hD hE ⊢
  have hA : ∀ q : Nat, s.heap.size ≤ q → A q := fun q h => by rw [← hAe]; exact Or.inr h
  have hS : va_S A s.heap s.heap [] := va_S.rf
  have hP : va_P (dC, dI) classes (wM M S) s.heap := hP
  have hK : va_K (dC, dI) classes (tM M) s := hK
  have hEw : ∀ (H : Heap) (locs : List Loc), va_S A s.heap H locs → ∀ U : State, U.heap = H → s.WarmedH U.vm → E A U := fun H locs hS U hU hW => X.kept A s U H locs hE hS hU hW
  have hl := lv_entry ([.ref M.o, .int p0, .int p1, .long p2]) (n := 6) (Nat.le_of_ble_eq_true rfl)
  rw [lg_entry_eq]
  generalize (lg_sl ([.ref M.o, .int p0, .int p1, .long p2]) ++ List.replicate (6 - (lg_sl ([.ref M.o, .int p0, .int p1, .long p2])).length) Slot.unset).toArray = ls at hl ⊢
  have hl : lv_has ls 6 [(0, .ref M.o), (1, .int p0), (2, .int p1), (3, .long p2)] := hl
  refine qabs (fun Q hQ => ?_)
  have hB_3 : ∀ (k : Nat), ∀ (y_1 : Int32) (y_2 : Int32) (y_3 : Int64) (y_5 : Int32) (S : MS) (H : Heap) (locs : List Loc) (ls : Array Slot), f_Mo_set_3 K k y_1 y_2 y_3 y_5 S = some S' → va_P (dC, dI) classes (wM M S) H → va_D A (wM M S) → va_S A s.heap H locs → lv_has ls 6 [(0, .ref M.o), (1, .int y_1), (2, .int y_2), (3, .long y_3), (5, .int y_5)] → W p l e ({ frames := 0, cells := 0, slots := 0, locals := 0 }) s m ([.ref M.o, .int p0, .int p1, .long p2] : List Value).toArray below meth c H locs 0 0 Q (F0 m 3 ls []) := by
    intro k
    induction k with
    | zero => intro y_1 y_2 y_3 y_5 S H locs ls h; exact lf_no h
    | succ k hr_3 =>
      intro y_1 y_2 y_3 y_5 S H locs ls h hP hD hS hl
      rw [f_Mo_set_3] at h
      refine lv_iload hx hb d_Mo_set_3 (lv_at hl 4 rfl) ?_
      refine lv_iload_n hx hb d_Mo_set_5 rfl (lv_at hl 2 rfl) ?_
      refine lv_icmp_ge (tgt := 33) hx hb d_Mo_set_6 (by decide) (fun c_1 => ?_) (fun c_1 => ?_)
      · have h := lf_t h c_1
        rw [hQ]
        have e2 : S = S' := Option.some.inj h
        have hP := lx_newP e2.symm hP
        have hD := lx_newD e2.symm hD
        exact W.vret hx hb hr (fun t ht hW => ⟨⟨(), rfl, trivial, by rw [ht]; exact hP, va_K.moved hW.alike hK, hD⟩, hS.F ht⟩) hS.2.2 d_Mo_set_33
      · have h := lf_f h c_1
        refine lv_aload_n hx hb d_Mo_set_9 rfl (lv_at hl 0 rfl) ?_
        refine va_get (D := (dC, dI)) (ci := 12) (v := .ref M.a_disk) (C := R_Mo) (T := F_Mo) (N := 66) hx hb hts (fun w h => u_Mq_Mo w (i_Mo w h)) hown hK hP 0 rfl rfl 1 (by decide) (hts _ (u_Mq_Mo _ k_Mo_8)) (fun _ h9 => h9) rfl d_Mo_set_10 ?_
        refine lv_iload_n hx hb d_Mo_set_13 rfl (lv_at hl 1 rfl) ?_
        refine lv_iload hx hb d_Mo_set_14 (lv_at hl 4 rfl) ?_
        refine lv_iadd hx hb d_Mo_set_16 ?_
        refine lv_lload_n hx hb d_Mo_set_17 rfl (lv_at hl 3 rfl) ?_
        refine lv_bipush (v := 8) hx hb d_Mo_set_18 (by decide) ?_
        refine lv_iload hx hb d_Mo_set_20 (lv_at hl 4 rfl) ?_
        refine lv_imul hx hb d_Mo_set_22 ?_
        refine lv_lshr hx hb d_Mo_set_23 rfl ?_
        refine lv_l2i hx hb d_Mo_set_24 rfl ?_
        refine lv_i2b hx hb d_Mo_set_25 rfl ?_
        obtain ⟨g_2, h⟩ := lf_gE h
        refine va_bast hx hb hK hP hD hS 1 0 rfl rfl g_2 d_Mo_set_26 (fun H locs hP hD hS => ?_)
        obtain ⟨S_3, eS_3, h⟩ := lf_lX h
        have hP := lx_newP eS_3 hP
        have hD := lx_newD eS_3 hD
        obtain ⟨x_4, ex_4, h⟩ := lf_lX h
        refine lv_iinc (v := x_4) (lv' := [(5, .int x_4), (0, .ref M.o), (1, .int y_1), (2, .int y_2), (3, .long y_3)]) hx hb d_Mo_set_27 hl (k := 4) rfl (by rw [ex_4]; rfl) (by decide) rfl (fun ls hl => ?_)
        refine lv_goto (tgt := 3) hx hb d_Mo_set_30 (by decide) ?_
        exact hr_3 y_1 y_2 y_3 x_4 S_3 _ _ _ h hP hD hS (lv_sub hl [1, 2, 3, 4, 0] rfl)
  rw [f_Mo_set] at h
  refine lv_iconst (v := 0) hx hb d_Mo_set_0 (by decide) ?_
  refine lv_istore (lv' := [(5, .int 0), (0, .ref M.o), (1, .int p0), (2, .int p1), (3, .long p2)]) hx hb d_Mo_set_1 hl (by decide) rfl (fun ls hl => ?_)
  exact hB_3 K p0 p1 p2 0 S _ _ _ h hP hD hS (lv_sub hl [1, 2, 3, 4, 0] rfl)
set_option maxHeartbeats 4000000 in
set_option maxRecDepth 100000 in
theorem l_Mo_whole (l : Launch) (dC : Nat → ClassId) (dI : Nat → Nat → Nat) {K : Nat} (sz : Nat) {p0 : Int32} {p1 : Int32} {r : Int32} (h : f_Mo_whole K p0 p1 = some r) : Met l y_Mo_whole (.code y_Mo_whole b_Mo_whole 2 (some .int) :: V_Mq) ({ frames := 0, cells := 0, slots := 0, locals := 0 }) (va_Pc [.int p0, .int p1] (fun U => U.heap.size = sz ∧ at_ (dC, dI) (fun _ => True) [] [] U)) (va_Qi (fun (r_ : Int32) (u : Unit) => r_ = r) (fun (u : Unit) t => at_ (dC, dI) (va_A [] sz) [] [] t) (va_A [] sz)) 0 0 (va_A [] sz) := by
  refine Met.ofW (cc := b_Mo_whole) (maxL := 2) (ret := (some .int)) (by decide) rfl ?_
  intro p e s m args below meth c s₁ B hml hv
  obtain ⟨rfl, hsz, hP, hK, hD0⟩ := hv
  have hx := B.exec
  have hb := B.bytes
  have hr := B.returns
  have hts0 := atoms_spec (ws := .code y_Mo_whole b_Mo_whole 2 (some .int) :: V_Mq) B.pre
  have hts : ∀ w ∈ V_Mq, w.before ([.int p0, .int p1] : List Value).toArray s = true := fun w h => hts0 w (List.mem_cons_of_mem _ h)
  have hown : s.vm.findClass R_Mo = some m.cls := findClass_of_methodNamed B.named
  subst hsz
  have hD := hD0.self (sz := s.heap.size)
  generalize hAe : va_A [] s.heap.size = A at hD ⊢
  have hA : ∀ q : Nat, s.heap.size ≤ q → A q := fun q h => by rw [← hAe]; exact Or.inr h
  have hS : va_S A s.heap s.heap [] := va_S.rf
  have hP : va_P (dC, dI) classes [] s.heap := hP
  have hK : va_K (dC, dI) classes [] s := hK
  have hl := lv_entry ([.int p0, .int p1]) (n := 2) (Nat.le_of_ble_eq_true rfl)
  rw [lg_entry_eq]
  generalize (lg_sl ([.int p0, .int p1]) ++ List.replicate (2 - (lg_sl ([.int p0, .int p1])).length) Slot.unset).toArray = ls at hl ⊢
  have hl : lv_has ls 2 [(0, .int p0), (1, .int p1)] := hl
  refine qabs (fun Q hQ => ?_)
  rw [f_Mo_whole] at h
  refine lv_iload_n hx hb d_Mo_whole_0 rfl (lv_at hl 0 rfl) ?_
  refine lv_iload_n hx hb d_Mo_whole_1 rfl (lv_at hl 1 rfl) ?_
  refine lv_iadd hx hb d_Mo_whole_2 ?_
  refine lv_iconst (v := 1) hx hb d_Mo_whole_3 (by decide) ?_
  refine lv_isub hx hb d_Mo_whole_4 ?_
  refine lv_iload_n hx hb d_Mo_whole_5 rfl (lv_at hl 1 rfl) ?_
  obtain ⟨g_1, h⟩ := lf_gE h
  refine lv_idiv hx hb d_Mo_whole_6 g_1 ?_
  rw [hQ]
  have e1 : (((p0 + p1) - 1) / p1) = r := Option.some.inj h
  exact W.iret (v := (((p0 + p1) - 1) / p1)) hx hb hr (fun t ht hW => ⟨⟨(((p0 + p1) - 1) / p1), (), rfl, e1, by rw [ht]; exact hP, va_K.moved hW.alike hK, hD⟩, hS.F ht⟩) hS.2.2 d_Mo_whole_7
set_option maxHeartbeats 4000000 in
set_option maxRecDepth 100000 in
theorem l_Mo_entryAt (l : Launch) (dC : Nat → ClassId) (dI : Nat → Nat → Nat) {K : Nat} {M : MA} {E : (Nat → Prop) → State → Prop} (X : lx_X l dC dI K M E) (sz : Nat) {S S' : MS} {p0 : Int32} {p1 : Int32} {r : Int32} (h : f_Mo_entryAt K S p0 p1 = some (r, S')) : Met l y_Mo_entryAt (.code y_Mo_entryAt b_Mo_entryAt 3 (some .int) :: V_Mq) ({ frames := 0, cells := 0, slots := 0, locals := 0 }) (va_Pc [.ref M.o, .int p0, .int p1] (fun U => U.heap.size = sz ∧ at_ (dC, dI) (fun _ => True) (wM M S) (tM M) U ∧ E (va_A (wM M S) sz) U)) (va_Qi (fun (r_ : Int32) (u : Unit) => r_ = r) (fun (u : Unit) t => at_ (dC, dI) (va_A (wM M S) sz) (wM M S') (tM M) t) (va_A (wM M S) sz)) 0 0 (va_A (wM M S) sz) := by
  refine Met.ofW (cc := b_Mo_entryAt) (maxL := 3) (ret := (some .int)) (by decide) rfl ?_
  intro p e s m args below meth c s₁ B hml hv
  obtain ⟨rfl, hsz, ⟨hP, hK, hD0⟩, hE⟩ := hv
  have hx := B.exec
  have hb := B.bytes
  have hr := B.returns
  have hts0 := atoms_spec (ws := .code y_Mo_entryAt b_Mo_entryAt 3 (some .int) :: V_Mq) B.pre
  have hts : ∀ w ∈ V_Mq, w.before ([.ref M.o, .int p0, .int p1] : List Value).toArray s = true := fun w h => hts0 w (List.mem_cons_of_mem _ h)
  have hown : s.vm.findClass R_Mo = some m.cls := findClass_of_methodNamed B.named
  subst hsz
  have hD := hD0.self (sz := s.heap.size)
  generalize hAe : va_A (wM M S) s.heap.size = A at hD hE ⊢
  have hA : ∀ q : Nat, s.heap.size ≤ q → A q := fun q h => by rw [← hAe]; exact Or.inr h
  have hS : va_S A s.heap s.heap [] := va_S.rf
  have hP : va_P (dC, dI) classes (wM M S) s.heap := hP
  have hK : va_K (dC, dI) classes (tM M) s := hK
  have hEw : ∀ (H : Heap) (locs : List Loc), va_S A s.heap H locs → ∀ U : State, U.heap = H → s.WarmedH U.vm → E A U := fun H locs hS U hU hW => X.kept A s U H locs hE hS hU hW
  have hl := lv_entry ([.ref M.o, .int p0, .int p1]) (n := 3) (Nat.le_of_ble_eq_true rfl)
  rw [lg_entry_eq]
  generalize (lg_sl ([.ref M.o, .int p0, .int p1]) ++ List.replicate (3 - (lg_sl ([.ref M.o, .int p0, .int p1])).length) Slot.unset).toArray = ls at hl ⊢
  have hl : lv_has ls 3 [(0, .ref M.o), (1, .int p0), (2, .int p1)] := hl
  refine qabs (fun Q hQ => ?_)
  rw [f_Mo_entryAt] at h
  refine lv_sipush (v := 512) hx hb d_Mo_entryAt_0 (by decide) ?_
  refine lv_aload_n hx hb d_Mo_entryAt_3 rfl (lv_at hl 0 rfl) ?_
  refine va_get (D := (dC, dI)) (ci := 12) (v := .int S.v_v) (C := R_Mo) (T := F_Mo) (N := 66) hx hb hts (fun w h => u_Mq_Mo w (i_Mo w h)) hown hK hP 0 rfl rfl 12 (by decide) (hts _ (u_Mq_Mo _ k_Mo_19)) (fun _ h9 => h9) rfl d_Mo_entryAt_4 ?_
  refine lv_iload_n hx hb d_Mo_entryAt_7 rfl (lv_at hl 1 rfl) ?_
  refine lv_aload_n hx hb d_Mo_entryAt_8 rfl (lv_at hl 0 rfl) ?_
  refine va_get (D := (dC, dI)) (ci := 12) (v := .int S.v_z) (C := R_Mo) (T := F_Mo) (N := 66) hx hb hts (fun w h => u_Mq_Mo w (i_Mo w h)) hown hK hP 0 rfl rfl 14 (by decide) (hts _ (u_Mq_Mo _ k_Mo_21)) (fun _ h9 => h9) rfl d_Mo_entryAt_9 ?_
  refine lv_imul hx hb d_Mo_entryAt_12 ?_
  refine lv_iadd hx hb d_Mo_entryAt_13 ?_
  refine lv_imul hx hb d_Mo_entryAt_14 ?_
  refine lv_iconst (v := 4) hx hb d_Mo_entryAt_15 (by decide) ?_
  refine lv_iload_n hx hb d_Mo_entryAt_16 rfl (lv_at hl 2 rfl) ?_
  refine lv_imul hx hb d_Mo_entryAt_17 ?_
  refine lv_iadd hx hb d_Mo_entryAt_18 ?_
  rw [hQ]
  have e1 : ((512 * (S.v_v + (p0 * S.v_z))) + (4 * p1)) = r := congrArg Prod.fst (Option.some.inj h)
  have e2 : S = S' := congrArg Prod.snd (Option.some.inj h)
  have hP := lx_newP e2.symm hP
  have hD := lx_newD e2.symm hD
  exact W.iret (v := ((512 * (S.v_v + (p0 * S.v_z))) + (4 * p1))) hx hb hr (fun t ht hW => ⟨⟨((512 * (S.v_v + (p0 * S.v_z))) + (4 * p1)), (), rfl, e1, by rw [ht]; exact hP, va_K.moved hW.alike hK, hD⟩, hS.F ht⟩) hS.2.2 d_Mo_entryAt_19
set_option maxHeartbeats 4000000 in
set_option maxRecDepth 100000 in
theorem l_Mo_entry (l : Launch) (dC : Nat → ClassId) (dI : Nat → Nat → Nat) {K : Nat} {M : MA} {E : (Nat → Prop) → State → Prop} (X : lx_X l dC dI K M E) (sz : Nat) {S S' : MS} {p0 : Int32} {r : Int32} (h : f_Mo_entry K S p0 = some (r, S')) : Met l y_Mo_entry (.code y_Mo_entry b_Mo_entry 2 (some .int) :: V_Mq) ({ frames := 3, cells := 0, slots := 0, locals := 63 }) (va_Pc [.ref M.o, .int p0] (fun U => U.heap.size = sz ∧ at_ (dC, dI) (fun _ => True) (wM M S) (tM M) U ∧ E (va_A (wM M S) sz) U)) (va_Qi (fun (r_ : Int32) (u : Unit) => r_ = r) (fun (u : Unit) t => at_ (dC, dI) (va_A (wM M S) sz) (wM M S') (tM M) t) (va_A (wM M S) sz)) 0 0 (va_A (wM M S) sz) := by
  refine Met.ofW (cc := b_Mo_entry) (maxL := 2) (ret := (some .int)) (by decide) rfl ?_
  intro p e s m args below meth c s₁ B hml hv
  obtain ⟨rfl, hsz, ⟨hP, hK, hD0⟩, hE⟩ := hv
  have hx := B.exec
  have hb := B.bytes
  have hr := B.returns
  have hts0 := atoms_spec (ws := .code y_Mo_entry b_Mo_entry 2 (some .int) :: V_Mq) B.pre
  have hts : ∀ w ∈ V_Mq, w.before ([.ref M.o, .int p0] : List Value).toArray s = true := fun w h => hts0 w (List.mem_cons_of_mem _ h)
  have hown : s.vm.findClass R_Mo = some m.cls := findClass_of_methodNamed B.named
  subst hsz
  have hD := hD0.self (sz := s.heap.size)
  generalize hAe : va_A (wM M S) s.heap.size = A at hD hE ⊢
  have hA : ∀ q : Nat, s.heap.size ≤ q → A q := fun q h => by rw [← hAe]; exact Or.inr h
  have hS : va_S A s.heap s.heap [] := va_S.rf
  have hP : va_P (dC, dI) classes (wM M S) s.heap := hP
  have hK : va_K (dC, dI) classes (tM M) s := hK
  have hEw : ∀ (H : Heap) (locs : List Loc), va_S A s.heap H locs → ∀ U : State, U.heap = H → s.WarmedH U.vm → E A U := fun H locs hS U hU hW => X.kept A s U H locs hE hS hU hW
  have hl := lv_entry ([.ref M.o, .int p0]) (n := 2) (Nat.le_of_ble_eq_true rfl)
  rw [lg_entry_eq]
  generalize (lg_sl ([.ref M.o, .int p0]) ++ List.replicate (2 - (lg_sl ([.ref M.o, .int p0])).length) Slot.unset).toArray = ls at hl ⊢
  have hl : lv_has ls 2 [(0, .ref M.o), (1, .int p0)] := hl
  refine qabs (fun Q hQ => ?_)
  rw [f_Mo_entry] at h
  refine lv_aload_n hx hb d_Mo_entry_0 rfl (lv_at hl 0 rfl) ?_
  refine lv_aload_n hx hb d_Mo_entry_1 rfl (lv_at hl 0 rfl) ?_
  refine lv_iconst (v := 0) hx hb d_Mo_entry_2 (by decide) ?_
  refine lv_iload_n hx hb d_Mo_entry_3 rfl (lv_at hl 1 rfl) ?_
  obtain ⟨r_1, S_1, hc_1, h⟩ := lf_cE h
  have hFc := lx_free hD hS hA
  refine va_calli (va_runV (As := [.int 0, .int p0]) (rest := [.ref M.o]) ⟨hx, hb, hml, hown, hts⟩ (l_Mo_entryAt l dC dI X _ hc_1) (cwV 2 hts (gwV good_Mq (u_Mq_Mo _ k_Mo_113) (u_Mq_Mo _ k_Mo_114) (u_Mq_Mo _ k_Mo_479) (u_Mq_Mo _ k_Mo_0) (wcs (u_Mq_Mo _ k_Mo_115) (fun _ h => h))) rfl rfl rfl (by decide +kernel) ⟨Nat.le_of_ble_eq_true rfl, Nat.le_of_ble_eq_true rfl⟩) (pv_ofE (X.same _) (fun U z1 z2 => X.mono _ _ U hFc (hEw _ _ hS U z1 z2)) hP hK hD (va_recv hK hP (ci := 12) (q0 := 0) rfl rfl)) rfl rfl hl.1 rfl (lv_room (Nat.le_of_ble_eq_true rfl)) d_Mo_entry_4 ⟨by decide, by decide⟩) hS (fun q _ h => hFc q h) hFc (fun r_ u t H locs ht hvm hw hB hz1 hk1 hS => ?_)
  rw [hw]
  obtain ⟨hP, -, hD⟩ := hB
  rw [ht] at hP
  have hD := lx_dj hD hFc
  obtain ⟨r_2, S_2, hc_2, h⟩ := lf_cE h
  have hFc := lx_free hD hS hA
  refine va_calli (va_runV (As := [.int r_1]) (rest := []) ⟨hx, hb, hml, hown, hts⟩ (l_Mo_four l dC dI X _ hc_2) (cwV 1 hts (gwV good_Mq (u_Mq_Mo _ k_Mo_100) (u_Mq_Mo _ k_Mo_101) (u_Mq_Mo _ k_Mo_477) (u_Mq_Mo _ k_Mo_0) (wcs (u_Mq_Mo _ k_Mo_102) (fun _ h => h))) rfl rfl rfl (by decide +kernel) ⟨Nat.le_of_ble_eq_true rfl, Nat.le_of_ble_eq_true rfl⟩) (pv_ofE (X.same _) (fun U z1 z2 => X.mono _ _ U hFc (hEw _ _ hS U z1 z2)) hP hK hD (va_recv hK hP (ci := 12) (q0 := 0) rfl rfl)) rfl rfl hl.1 rfl (lv_room (Nat.le_of_ble_eq_true rfl)) d_Mo_entry_7 ⟨by decide, by decide⟩) hS (fun q _ h => hFc q h) hFc (fun r_ u t H locs ht hvm hw hB hz1 hk1 hS => ?_)
  rw [hw]
  obtain ⟨hP, -, hD⟩ := hB
  rw [ht] at hP
  have hD := lx_dj hD hFc
  refine lv_ldc (v := 268435455) hx hb hown (hts _ (u_Mq_Mo _ k_Mo_116)) d_Mo_entry_10 ?_
  refine lv_iand hx hb d_Mo_entry_12 ?_
  rw [hQ]
  have e1 : (r_2 &&& 268435455) = r := congrArg Prod.fst (Option.some.inj h)
  have e2 : S_2 = S' := congrArg Prod.snd (Option.some.inj h)
  have hP := lx_newP e2.symm hP
  have hD := lx_newD e2.symm hD
  exact W.iret (v := (r_2 &&& 268435455)) hx hb hr (fun t ht hW => ⟨⟨(r_2 &&& 268435455), (), rfl, e1, by rw [ht]; exact hP, va_K.moved hW.alike hK, hD⟩, hS.F ht⟩) hS.2.2 d_Mo_entry_13
set_option maxHeartbeats 4000000 in
set_option maxRecDepth 100000 in
theorem l_Mo_setEntry (l : Launch) (dC : Nat → ClassId) (dI : Nat → Nat → Nat) {K : Nat} {M : MA} {E : (Nat → Prop) → State → Prop} (X : lx_X l dC dI K M E) (sz : Nat) {S S' : MS} {p0 : Int32} {p1 : Int32} (h : f_Mo_setEntry K S p0 p1 = some S') : Met l y_Mo_setEntry (.code y_Mo_setEntry b_Mo_setEntry 5 none :: V_Mq) ({ frames := 3, cells := 0, slots := 0, locals := 63 }) (va_Pc [.ref M.o, .int p0, .int p1] (fun U => U.heap.size = sz ∧ at_ (dC, dI) (fun _ => True) (wM M S) (tM M) U ∧ E (va_A (wM M S) sz) U)) (va_Qv (fun (u : Unit) => True) (fun (u : Unit) t => at_ (dC, dI) (va_A (wM M S) sz) (wM M S') (tM M) t) (va_A (wM M S) sz)) 0 0 (va_A (wM M S) sz) := by
  refine Met.ofW (cc := b_Mo_setEntry) (maxL := 5) (ret := none) (by decide) rfl ?_
  intro p e s m args below meth c s₁ B hml hv
  obtain ⟨rfl, hsz, ⟨hP, hK, hD0⟩, hE⟩ := hv
  have hx := B.exec
  have hb := B.bytes
  have hr := B.returns
  have hts0 := atoms_spec (ws := .code y_Mo_setEntry b_Mo_setEntry 5 none :: V_Mq) B.pre
  have hts : ∀ w ∈ V_Mq, w.before ([.ref M.o, .int p0, .int p1] : List Value).toArray s = true := fun w h => hts0 w (List.mem_cons_of_mem _ h)
  have hown : s.vm.findClass R_Mo = some m.cls := findClass_of_methodNamed B.named
  subst hsz
  have hD := hD0.self (sz := s.heap.size)
  generalize hAe : va_A (wM M S) s.heap.size = A at hD hE ⊢
  have hA : ∀ q : Nat, s.heap.size ≤ q → A q := fun q h => by rw [← hAe]; exact Or.inr h
  have hS : va_S A s.heap s.heap [] := va_S.rf
  have hP : va_P (dC, dI) classes (wM M S) s.heap := hP
  have hK : va_K (dC, dI) classes (tM M) s := hK
  have hEw : ∀ (H : Heap) (locs : List Loc), va_S A s.heap H locs → ∀ U : State, U.heap = H → s.WarmedH U.vm → E A U := fun H locs hS U hU hW => X.kept A s U H locs hE hS hU hW
  have hl := lv_entry ([.ref M.o, .int p0, .int p1]) (n := 5) (Nat.le_of_ble_eq_true rfl)
  rw [lg_entry_eq]
  generalize (lg_sl ([.ref M.o, .int p0, .int p1]) ++ List.replicate (5 - (lg_sl ([.ref M.o, .int p0, .int p1])).length) Slot.unset).toArray = ls at hl ⊢
  have hl : lv_has ls 5 [(0, .ref M.o), (1, .int p0), (2, .int p1)] := hl
  refine qabs (fun Q hQ => ?_)
  have hB_2 : ∀ (k : Nat), ∀ (y_1 : Int32) (y_2 : Int32) (y_3 : Int32) (S : MS) (H : Heap) (locs : List Loc) (ls : Array Slot), f_Mo_setEntry_2 K k y_1 y_2 y_3 S = some S' → va_P (dC, dI) classes (wM M S) H → va_D A (wM M S) → va_S A s.heap H locs → lv_has ls 5 [(0, .ref M.o), (1, .int y_1), (2, .int y_2), (3, .int y_3)] → W p l e ({ frames := 3, cells := 0, slots := 0, locals := 63 }) s m ([.ref M.o, .int p0, .int p1] : List Value).toArray below meth c H locs 0 0 Q (F0 m 2 ls []) := by
    intro k
    induction k with
    | zero => intro y_1 y_2 y_3 S H locs ls h; exact lf_no h
    | succ k hr_2 =>
      intro y_1 y_2 y_3 S H locs ls h hP hD hS hl
      rw [f_Mo_setEntry_2] at h
      refine lv_iload_n hx hb d_Mo_setEntry_2 rfl (lv_at hl 3 rfl) ?_
      refine lv_aload_n hx hb d_Mo_setEntry_3 rfl (lv_at hl 0 rfl) ?_
      refine va_get (D := (dC, dI)) (ci := 12) (v := .int S.v_y) (C := R_Mo) (T := F_Mo) (N := 66) hx hb hts (fun w h => u_Mq_Mo w (i_Mo w h)) hown hK hP 0 rfl rfl 13 (by decide) (hts _ (u_Mq_Mo _ k_Mo_20)) (fun _ h9 => h9) rfl d_Mo_setEntry_4 ?_
      refine lv_icmp_ge (tgt := 43) hx hb d_Mo_setEntry_7 (by decide) (fun c_1 => ?_) (fun c_1 => ?_)
      · have h := lf_t h c_1
        rw [hQ]
        have e2 : S = S' := Option.some.inj h
        have hP := lx_newP e2.symm hP
        have hD := lx_newD e2.symm hD
        exact W.vret hx hb hr (fun t ht hW => ⟨⟨(), rfl, trivial, by rw [ht]; exact hP, va_K.moved hW.alike hK, hD⟩, hS.F ht⟩) hS.2.2 d_Mo_setEntry_43
      · have h := lf_f h c_1
        refine lv_aload_n hx hb d_Mo_setEntry_10 rfl (lv_at hl 0 rfl) ?_
        refine lv_iload_n hx hb d_Mo_setEntry_11 rfl (lv_at hl 3 rfl) ?_
        refine lv_iload_n hx hb d_Mo_setEntry_12 rfl (lv_at hl 1 rfl) ?_
        obtain ⟨r_2, S_2, hc_2, h⟩ := lf_cE h
        have hFc := lx_free hD hS hA
        refine va_calli (va_runV (As := [.int y_3, .int y_1]) (rest := []) ⟨hx, hb, hml, hown, hts⟩ (l_Mo_entryAt l dC dI X _ hc_2) (cwV 2 hts (gwV good_Mq (u_Mq_Mo _ k_Mo_113) (u_Mq_Mo _ k_Mo_114) (u_Mq_Mo _ k_Mo_479) (u_Mq_Mo _ k_Mo_0) (wcs (u_Mq_Mo _ k_Mo_115) (fun _ h => h))) rfl rfl rfl (by decide +kernel) ⟨Nat.le_of_ble_eq_true rfl, Nat.le_of_ble_eq_true rfl⟩) (pv_ofE (X.same _) (fun U z1 z2 => X.mono _ _ U hFc (hEw _ _ hS U z1 z2)) hP hK hD (va_recv hK hP (ci := 12) (q0 := 0) rfl rfl)) rfl rfl hl.1 rfl (lv_room (Nat.le_of_ble_eq_true rfl)) d_Mo_setEntry_13 ⟨by decide, by decide⟩) hS (fun q _ h => hFc q h) hFc (fun r_ u t H locs ht hvm hw hB hz1 hk1 hS => ?_)
        rw [hw]
        obtain ⟨hP, -, hD⟩ := hB
        rw [ht] at hP
        have hD := lx_dj hD hFc
        refine lv_istore (lv' := [(4, .int r_2), (0, .ref M.o), (1, .int y_1), (2, .int y_2), (3, .int y_3)]) hx hb d_Mo_setEntry_16 hl (by decide) rfl (fun ls hl => ?_)
        refine lv_aload_n hx hb d_Mo_setEntry_18 rfl (lv_at hl 1 rfl) ?_
        refine lv_iload hx hb d_Mo_setEntry_19 (lv_at hl 0 rfl) ?_
        refine lv_iconst (v := 4) hx hb d_Mo_setEntry_21 (by decide) ?_
        refine lv_iload_n hx hb d_Mo_setEntry_22 rfl (lv_at hl 3 rfl) ?_
        refine lv_aload_n hx hb d_Mo_setEntry_23 rfl (lv_at hl 1 rfl) ?_
        refine lv_iload hx hb d_Mo_setEntry_24 (lv_at hl 0 rfl) ?_
        obtain ⟨r_3, S_3, hc_3, h⟩ := lf_cE h
        have hFc := lx_free hD hS hA
        refine va_calli (va_runV (As := [.int r_2]) (rest := [.int y_2, .int 4, .int r_2, .ref M.o]) ⟨hx, hb, hml, hown, hts⟩ (l_Mo_four l dC dI X _ hc_3) (cwV 1 hts (gwV good_Mq (u_Mq_Mo _ k_Mo_100) (u_Mq_Mo _ k_Mo_101) (u_Mq_Mo _ k_Mo_477) (u_Mq_Mo _ k_Mo_0) (wcs (u_Mq_Mo _ k_Mo_102) (fun _ h => h))) rfl rfl rfl (by decide +kernel) ⟨Nat.le_of_ble_eq_true rfl, Nat.le_of_ble_eq_true rfl⟩) (pv_ofE (X.same _) (fun U z1 z2 => X.mono _ _ U hFc (hEw _ _ hS U z1 z2)) hP hK hD (va_recv hK hP (ci := 12) (q0 := 0) rfl rfl)) rfl rfl hl.1 rfl (lv_room (Nat.le_of_ble_eq_true rfl)) d_Mo_setEntry_26 ⟨by decide, by decide⟩) hS (fun q _ h => hFc q h) hFc (fun r_ u t H locs ht hvm hw hB hz1 hk1 hS => ?_)
        rw [hw]
        obtain ⟨hP, -, hD⟩ := hB
        rw [ht] at hP
        have hD := lx_dj hD hFc
        refine lv_ldc (v := (-268435456)) hx hb hown (hts _ (u_Mq_Mo _ k_Mo_234)) d_Mo_setEntry_29 ?_
        refine lv_iand hx hb d_Mo_setEntry_31 ?_
        refine lv_ior hx hb d_Mo_setEntry_32 ?_
        refine lv_i2l hx hb d_Mo_setEntry_33 rfl ?_
        obtain ⟨S_4, hc_4, h⟩ := lf_bE h
        have hFc := lx_free hD hS hA
        refine va_callv (va_runV (As := [.int r_2, .int 4, .long ((y_2 ||| (r_3 &&& ((-268435456)))).toInt64)]) (rest := []) ⟨hx, hb, hml, hown, hts⟩ (l_Mo_set l dC dI X _ hc_4) (cwV 3 hts (gwV good_Mq (u_Mq_Mo _ k_Mo_221) (u_Mq_Mo _ k_Mo_222) (u_Mq_Mo _ k_Mo_478) (u_Mq_Mo _ k_Mo_0) (wcs (u_Mq_Mo _ k_Mo_223) (fun _ h => h))) rfl rfl rfl (by decide +kernel) ⟨Nat.le_of_ble_eq_true rfl, Nat.le_of_ble_eq_true rfl⟩) (pv_ofE (X.same _) (fun U z1 z2 => X.mono _ _ U hFc (hEw _ _ hS U z1 z2)) hP hK hD (va_recv hK hP (ci := 12) (q0 := 0) rfl rfl)) rfl rfl hl.1 rfl (lv_room (Nat.le_of_ble_eq_true rfl)) d_Mo_setEntry_34 ⟨by decide, by decide⟩) hS (fun q _ h => hFc q h) hFc (fun u t H locs ht hvm hw hB hz1 hk1 hS => ?_)
        obtain ⟨hP, -, hD⟩ := hB
        rw [ht] at hP
        have hD := lx_dj hD hFc
        obtain ⟨x_5, ex_5, h⟩ := lf_lX h
        refine lv_iinc (v := x_5) (lv' := [(3, .int x_5), (4, .int r_2), (0, .ref M.o), (1, .int y_1), (2, .int y_2)]) hx hb d_Mo_setEntry_37 hl (k := 4) rfl (by rw [ex_5]; rfl) (by decide) rfl (fun ls hl => ?_)
        refine lv_goto (tgt := 2) hx hb d_Mo_setEntry_40 (by decide) ?_
        exact hr_2 y_1 y_2 x_5 S_4 _ _ _ h hP hD hS (lv_sub hl [2, 3, 4, 0] rfl)
  rw [f_Mo_setEntry] at h
  refine lv_iconst (v := 0) hx hb d_Mo_setEntry_0 (by decide) ?_
  refine lv_istore_n (lv' := [(3, .int 0), (0, .ref M.o), (1, .int p0), (2, .int p1)]) hx hb d_Mo_setEntry_1 rfl hl (by decide) rfl (fun ls hl => ?_)
  exact hB_2 K p0 p1 0 S _ _ _ h hP hD hS (lv_sub hl [1, 2, 3, 0] rfl)
set_option maxHeartbeats 4000000 in
set_option maxRecDepth 100000 in
theorem l_Mo_isCluster (l : Launch) (dC : Nat → ClassId) (dI : Nat → Nat → Nat) {K : Nat} {M : MA} {E : (Nat → Prop) → State → Prop} (X : lx_X l dC dI K M E) (sz : Nat) {S S' : MS} {p0 : Int32} {r : Int32} (h : f_Mo_isCluster K S p0 = some (r, S')) : Met l y_Mo_isCluster (.code y_Mo_isCluster b_Mo_isCluster 2 (some .boolean) :: V_Mq) ({ frames := 0, cells := 0, slots := 0, locals := 0 }) (va_Pc [.ref M.o, .int p0] (fun U => U.heap.size = sz ∧ at_ (dC, dI) (fun _ => True) (wM M S) (tM M) U ∧ E (va_A (wM M S) sz) U)) (va_Qi (fun (r_ : Int32) (u : Unit) => r_ = r) (fun (u : Unit) t => at_ (dC, dI) (va_A (wM M S) sz) (wM M S') (tM M) t) (va_A (wM M S) sz)) 0 0 (va_A (wM M S) sz) := by
  refine Met.ofW (cc := b_Mo_isCluster) (maxL := 2) (ret := (some .boolean)) (by decide) rfl ?_
  intro p e s m args below meth c s₁ B hml hv
  obtain ⟨rfl, hsz, ⟨hP, hK, hD0⟩, hE⟩ := hv
  have hx := B.exec
  have hb := B.bytes
  have hr := B.returns
  have hts0 := atoms_spec (ws := .code y_Mo_isCluster b_Mo_isCluster 2 (some .boolean) :: V_Mq) B.pre
  have hts : ∀ w ∈ V_Mq, w.before ([.ref M.o, .int p0] : List Value).toArray s = true := fun w h => hts0 w (List.mem_cons_of_mem _ h)
  have hown : s.vm.findClass R_Mo = some m.cls := findClass_of_methodNamed B.named
  subst hsz
  have hD := hD0.self (sz := s.heap.size)
  generalize hAe : va_A (wM M S) s.heap.size = A at hD hE ⊢
  have hA : ∀ q : Nat, s.heap.size ≤ q → A q := fun q h => by rw [← hAe]; exact Or.inr h
  have hS : va_S A s.heap s.heap [] := va_S.rf
  have hP : va_P (dC, dI) classes (wM M S) s.heap := hP
  have hK : va_K (dC, dI) classes (tM M) s := hK
  have hEw : ∀ (H : Heap) (locs : List Loc), va_S A s.heap H locs → ∀ U : State, U.heap = H → s.WarmedH U.vm → E A U := fun H locs hS U hU hW => X.kept A s U H locs hE hS hU hW
  have hl := lv_entry ([.ref M.o, .int p0]) (n := 2) (Nat.le_of_ble_eq_true rfl)
  rw [lg_entry_eq]
  generalize (lg_sl ([.ref M.o, .int p0]) ++ List.replicate (2 - (lg_sl ([.ref M.o, .int p0])).length) Slot.unset).toArray = ls at hl ⊢
  have hl : lv_has ls 2 [(0, .ref M.o), (1, .int p0)] := hl
  refine qabs (fun Q hQ => ?_)
  have hB_19 : ∀ (S : MS) (H : Heap) (locs : List Loc) (ls : Array Slot), f_Mo_isCluster_19 K S = some (r, S') → va_P (dC, dI) classes (wM M S) H → va_D A (wM M S) → va_S A s.heap H locs → lv_has ls 2 [] → W p l e ({ frames := 0, cells := 0, slots := 0, locals := 0 }) s m ([.ref M.o, .int p0] : List Value).toArray below meth c H locs 0 0 Q (F0 m 19 ls []) := by
    intro S H locs ls h hP hD hS hl
    rw [f_Mo_isCluster_19] at h
    refine lv_iconst (v := 0) hx hb d_Mo_isCluster_19 (by decide) ?_
    rw [hQ]
    have e1 : (0 : Int32) = r := congrArg Prod.fst (Option.some.inj h)
    have e2 : S = S' := congrArg Prod.snd (Option.some.inj h)
    have hP := lx_newP e2.symm hP
    have hD := lx_newD e2.symm hD
    exact W.zret (v := 0) hx hb hr rfl (fun t ht hW => ⟨⟨0, (), rfl, e1, by rw [ht]; exact hP, va_K.moved hW.alike hK, hD⟩, hS.F ht⟩) hS.2.2 d_Mo_isCluster_20
  rw [f_Mo_isCluster] at h
  refine lv_iload_n hx hb d_Mo_isCluster_0 rfl (lv_at hl 1 rfl) ?_
  refine lv_iconst (v := 2) hx hb d_Mo_isCluster_1 (by decide) ?_
  refine lv_icmp_lt (tgt := 19) hx hb d_Mo_isCluster_2 (by decide) (fun c_1 => ?_) (fun c_1 => ?_)
  · have h := lf_t h c_1
    exact hB_19 S _ _ _ h hP hD hS (lv_sub hl [] rfl)
  · have h := lf_f h c_1
    refine lv_iload_n hx hb d_Mo_isCluster_5 rfl (lv_at hl 1 rfl) ?_
    refine lv_aload_n hx hb d_Mo_isCluster_6 rfl (lv_at hl 0 rfl) ?_
    refine va_get (D := (dC, dI)) (ci := 12) (v := .int S.v_k) (C := R_Mo) (T := F_Mo) (N := 66) hx hb hts (fun w h => u_Mq_Mo w (i_Mo w h)) hown hK hP 0 rfl rfl 17 (by decide) (hts _ (u_Mq_Mo _ k_Mo_24)) (fun _ h9 => h9) rfl d_Mo_isCluster_7 ?_
    refine lv_iconst (v := 1) hx hb d_Mo_isCluster_10 (by decide) ?_
    refine lv_iadd hx hb d_Mo_isCluster_11 ?_
    refine lv_icmp_gt (tgt := 19) hx hb d_Mo_isCluster_12 (by decide) (fun c_2 => ?_) (fun c_2 => ?_)
    · have h := lf_t h c_2
      exact hB_19 S _ _ _ h hP hD hS (lv_sub hl [] rfl)
    · have h := lf_f h c_2
      refine lv_iconst (v := 1) hx hb d_Mo_isCluster_15 (by decide) ?_
      refine lv_goto (tgt := 20) hx hb d_Mo_isCluster_16 (by decide) ?_
      rw [hQ]
      have e1 : (1 : Int32) = r := congrArg Prod.fst (Option.some.inj h)
      have e2 : S = S' := congrArg Prod.snd (Option.some.inj h)
      have hP := lx_newP e2.symm hP
      have hD := lx_newD e2.symm hD
      exact W.zret (v := 1) hx hb hr rfl (fun t ht hW => ⟨⟨1, (), rfl, e1, by rw [ht]; exact hP, va_K.moved hW.alike hK, hD⟩, hS.F ht⟩) hS.2.2 d_Mo_isCluster_20
set_option maxHeartbeats 4000000 in
set_option maxRecDepth 100000 in
theorem l_Mo_place (l : Launch) (dC : Nat → ClassId) (dI : Nat → Nat → Nat) {K : Nat} {M : MA} {E : (Nat → Prop) → State → Prop} (X : lx_X l dC dI K M E) (sz : Nat) {S S' : MS} {p0 : Int32} {r : Int32} (h : f_Mo_place K S p0 = some (r, S')) : Met l y_Mo_place (.code y_Mo_place b_Mo_place 2 (some .int) :: V_Mq) ({ frames := 0, cells := 0, slots := 0, locals := 0 }) (va_Pc [.ref M.o, .int p0] (fun U => U.heap.size = sz ∧ at_ (dC, dI) (fun _ => True) (wM M S) (tM M) U ∧ E (va_A (wM M S) sz) U)) (va_Qi (fun (r_ : Int32) (u : Unit) => r_ = r) (fun (u : Unit) t => at_ (dC, dI) (va_A (wM M S) sz) (wM M S') (tM M) t) (va_A (wM M S) sz)) 0 0 (va_A (wM M S) sz) := by
  refine Met.ofW (cc := b_Mo_place) (maxL := 2) (ret := (some .int)) (by decide) rfl ?_
  intro p e s m args below meth c s₁ B hml hv
  obtain ⟨rfl, hsz, ⟨hP, hK, hD0⟩, hE⟩ := hv
  have hx := B.exec
  have hb := B.bytes
  have hr := B.returns
  have hts0 := atoms_spec (ws := .code y_Mo_place b_Mo_place 2 (some .int) :: V_Mq) B.pre
  have hts : ∀ w ∈ V_Mq, w.before ([.ref M.o, .int p0] : List Value).toArray s = true := fun w h => hts0 w (List.mem_cons_of_mem _ h)
  have hown : s.vm.findClass R_Mo = some m.cls := findClass_of_methodNamed B.named
  subst hsz
  have hD := hD0.self (sz := s.heap.size)
  generalize hAe : va_A (wM M S) s.heap.size = A at hD hE ⊢
  have hA : ∀ q : Nat, s.heap.size ≤ q → A q := fun q h => by rw [← hAe]; exact Or.inr h
  have hS : va_S A s.heap s.heap [] := va_S.rf
  have hP : va_P (dC, dI) classes (wM M S) s.heap := hP
  have hK : va_K (dC, dI) classes (tM M) s := hK
  have hEw : ∀ (H : Heap) (locs : List Loc), va_S A s.heap H locs → ∀ U : State, U.heap = H → s.WarmedH U.vm → E A U := fun H locs hS U hU hW => X.kept A s U H locs hE hS hU hW
  have hl := lv_entry ([.ref M.o, .int p0]) (n := 2) (Nat.le_of_ble_eq_true rfl)
  rw [lg_entry_eq]
  generalize (lg_sl ([.ref M.o, .int p0]) ++ List.replicate (2 - (lg_sl ([.ref M.o, .int p0])).length) Slot.unset).toArray = ls at hl ⊢
  have hl : lv_has ls 2 [(0, .ref M.o), (1, .int p0)] := hl
  refine qabs (fun Q hQ => ?_)
  rw [f_Mo_place] at h
  refine lv_sipush (v := 512) hx hb d_Mo_place_0 (by decide) ?_
  refine lv_aload_n hx hb d_Mo_place_3 rfl (lv_at hl 0 rfl) ?_
  refine va_get (D := (dC, dI)) (ci := 12) (v := .int S.v_a) (C := R_Mo) (T := F_Mo) (N := 66) hx hb hts (fun w h => u_Mq_Mo w (i_Mo w h)) hown hK hP 0 rfl rfl 16 (by decide) (hts _ (u_Mq_Mo _ k_Mo_23)) (fun _ h9 => h9) rfl d_Mo_place_4 ?_
  refine lv_iload_n hx hb d_Mo_place_7 rfl (lv_at hl 1 rfl) ?_
  refine lv_iconst (v := 2) hx hb d_Mo_place_8 (by decide) ?_
  refine lv_isub hx hb d_Mo_place_9 ?_
  refine lv_aload_n hx hb d_Mo_place_10 rfl (lv_at hl 0 rfl) ?_
  refine va_get (D := (dC, dI)) (ci := 12) (v := .int S.v_c) (C := R_Mo) (T := F_Mo) (N := 66) hx hb hts (fun w h => u_Mq_Mo w (i_Mo w h)) hown hK hP 0 rfl rfl 11 (by decide) (hts _ (u_Mq_Mo _ k_Mo_18)) (fun _ h9 => h9) rfl d_Mo_place_11 ?_
  refine lv_imul hx hb d_Mo_place_14 ?_
  refine lv_iadd hx hb d_Mo_place_15 ?_
  refine lv_imul hx hb d_Mo_place_16 ?_
  rw [hQ]
  have e1 : (512 * (S.v_a + ((p0 - 2) * S.v_c))) = r := congrArg Prod.fst (Option.some.inj h)
  have e2 : S = S' := congrArg Prod.snd (Option.some.inj h)
  have hP := lx_newP e2.symm hP
  have hD := lx_newD e2.symm hD
  exact W.iret (v := (512 * (S.v_a + ((p0 - 2) * S.v_c)))) hx hb hr (fun t ht hW => ⟨⟨(512 * (S.v_a + ((p0 - 2) * S.v_c))), (), rfl, e1, by rw [ht]; exact hP, va_K.moved hW.alike hK, hD⟩, hS.F ht⟩) hS.2.2 d_Mo_place_17
set_option maxHeartbeats 4000000 in
set_option maxRecDepth 100000 in
theorem l_Mo_head (l : Launch) (dC : Nat → ClassId) (dI : Nat → Nat → Nat) {K : Nat} {M : MA} {E : (Nat → Prop) → State → Prop} (X : lx_X l dC dI K M E) (sz : Nat) {S S' : MS} {r : Int32} (h : f_Mo_head K S = some (r, S')) : Met l y_Mo_head (.code y_Mo_head b_Mo_head 2 (some .boolean) :: V_Mq) ({ frames := 3, cells := 0, slots := 0, locals := 63 }) (va_Pc [.ref M.o] (fun U => U.heap.size = sz ∧ at_ (dC, dI) (fun _ => True) (wM M S) (tM M) U ∧ E (va_A (wM M S) sz) U)) (va_Qi (fun (r_ : Int32) (u : Unit) => r_ = r) (fun (u : Unit) t => at_ (dC, dI) (va_A (wM M S) sz) (wM M S') (tM M) t) (va_A (wM M S) sz)) 0 0 (va_A (wM M S) sz) := by
  refine Met.ofW (cc := b_Mo_head) (maxL := 2) (ret := (some .boolean)) (by decide) rfl ?_
  intro p e s m args below meth c s₁ B hml hv
  obtain ⟨rfl, hsz, ⟨hP, hK, hD0⟩, hE⟩ := hv
  have hx := B.exec
  have hb := B.bytes
  have hr := B.returns
  have hts0 := atoms_spec (ws := .code y_Mo_head b_Mo_head 2 (some .boolean) :: V_Mq) B.pre
  have hts : ∀ w ∈ V_Mq, w.before ([.ref M.o] : List Value).toArray s = true := fun w h => hts0 w (List.mem_cons_of_mem _ h)
  have hown : s.vm.findClass R_Mo = some m.cls := findClass_of_methodNamed B.named
  subst hsz
  have hD := hD0.self (sz := s.heap.size)
  generalize hAe : va_A (wM M S) s.heap.size = A at hD hE ⊢
  have hA : ∀ q : Nat, s.heap.size ≤ q → A q := fun q h => by rw [← hAe]; exact Or.inr h
  have hS : va_S A s.heap s.heap [] := va_S.rf
  have hP : va_P (dC, dI) classes (wM M S) s.heap := hP
  have hK : va_K (dC, dI) classes (tM M) s := hK
  have hEw : ∀ (H : Heap) (locs : List Loc), va_S A s.heap H locs → ∀ U : State, U.heap = H → s.WarmedH U.vm → E A U := fun H locs hS U hU hW => X.kept A s U H locs hE hS hU hW
  have hl := lv_entry ([.ref M.o]) (n := 2) (Nat.le_of_ble_eq_true rfl)
  rw [lg_entry_eq]
  generalize (lg_sl ([.ref M.o]) ++ List.replicate (2 - (lg_sl ([.ref M.o])).length) Slot.unset).toArray = ls at hl ⊢
  have hl : lv_has ls 2 [(0, .ref M.o)] := hl
  refine qabs (fun Q hQ => ?_)
  have hB_310 : ∀ (S : MS) (H : Heap) (locs : List Loc) (ls : Array Slot), f_Mo_head_310 K S = some (r, S') → va_P (dC, dI) classes (wM M S) H → va_D A (wM M S) → va_S A s.heap H locs → lv_has ls 2 [] → W p l e ({ frames := 3, cells := 0, slots := 0, locals := 63 }) s m ([.ref M.o] : List Value).toArray below meth c H locs 0 0 Q (F0 m 310 ls []) := by
    intro S H locs ls h hP hD hS hl
    rw [f_Mo_head_310] at h
    refine lv_iconst (v := 0) hx hb d_Mo_head_310 (by decide) ?_
    rw [hQ]
    have e1 : (0 : Int32) = r := congrArg Prod.fst (Option.some.inj h)
    have e2 : S = S' := congrArg Prod.snd (Option.some.inj h)
    have hP := lx_newP e2.symm hP
    have hD := lx_newD e2.symm hD
    exact W.zret (v := 0) hx hb hr rfl (fun t ht hW => ⟨⟨0, (), rfl, e1, by rw [ht]; exact hP, va_K.moved hW.alike hK, hD⟩, hS.F ht⟩) hS.2.2 d_Mo_head_311
  have hB_216 : ∀ (z_0 : Int32) (S : MS) (H : Heap) (locs : List Loc) (ls : Array Slot), f_Mo_head_216 K z_0 S = some (r, S') → va_P (dC, dI) classes (wM M S) H → va_D A (wM M S) → va_S A s.heap H locs → lv_has ls 2 [(0, .ref M.o)] → W p l e ({ frames := 3, cells := 0, slots := 0, locals := 63 }) s m ([.ref M.o] : List Value).toArray below meth c H locs 0 0 Q (F0 m 216 ls [.int z_0]) := by
    intro z_0 S H locs ls h hP hD hS hl
    rw [f_Mo_head_216] at h
    refine lv_istore_n (lv' := [(1, .int z_0), (0, .ref M.o)]) hx hb d_Mo_head_216 rfl hl (by decide) rfl (fun ls hl => ?_)
    refine lv_iload_n hx hb d_Mo_head_217 rfl (lv_at hl 0 rfl) ?_
    refine lv_if_ne (tgt := 223) hx hb d_Mo_head_218 (by decide) (fun c_20 => ?_) (fun c_20 => ?_)
    · have h := lf_f h c_20
      refine lv_aload_n hx hb d_Mo_head_223 rfl (lv_at hl 1 rfl) ?_
      refine lv_aload_n hx hb d_Mo_head_224 rfl (lv_at hl 1 rfl) ?_
      refine va_get (D := (dC, dI)) (ci := 12) (v := .int S.v_v) (C := R_Mo) (T := F_Mo) (N := 66) hx hb hts (fun w h => u_Mq_Mo w (i_Mo w h)) hown hK hP 0 rfl rfl 12 (by decide) (hts _ (u_Mq_Mo _ k_Mo_19)) (fun _ h9 => h9) rfl d_Mo_head_225 ?_
      refine lv_aload_n hx hb d_Mo_head_228 rfl (lv_at hl 1 rfl) ?_
      refine va_get (D := (dC, dI)) (ci := 12) (v := .int S.v_y) (C := R_Mo) (T := F_Mo) (N := 66) hx hb hts (fun w h => u_Mq_Mo w (i_Mo w h)) hown hK hP 0 rfl rfl 13 (by decide) (hts _ (u_Mq_Mo _ k_Mo_20)) (fun _ h9 => h9) rfl d_Mo_head_229 ?_
      refine lv_aload_n hx hb d_Mo_head_232 rfl (lv_at hl 1 rfl) ?_
      refine va_get (D := (dC, dI)) (ci := 12) (v := .int S.v_z) (C := R_Mo) (T := F_Mo) (N := 66) hx hb hts (fun w h => u_Mq_Mo w (i_Mo w h)) hown hK hP 0 rfl rfl 14 (by decide) (hts _ (u_Mq_Mo _ k_Mo_21)) (fun _ h9 => h9) rfl d_Mo_head_233 ?_
      refine lv_imul hx hb d_Mo_head_236 ?_
      refine lv_iadd hx hb d_Mo_head_237 ?_
      refine va_put (D := (dC, dI)) (ci := 12) (v := .int (S.v_v + (S.v_y * S.v_z))) (ty := .int) (C := R_Mo) (T := F_Mo) (N := 66) hx hb hts (fun w h => u_Mq_Mo w (i_Mo w h)) t_Mo t_Mo_ok n_Mo hown hK hP hD hS 0 rfl rfl 16 (by decide) (hts _ (u_Mq_Mo _ k_Mo_23)) (fun _ h9 => h9) rfl (by decide +kernel) rfl rfl (Nat.le_of_ble_eq_true rfl) d_Mo_head_238 (fun H locs hP hD hS => ?_)
      obtain ⟨S_21, eS_21, h⟩ := lf_lX h
      have hP := lx_newP eS_21 hP
      have hD := lx_newD eS_21 hD
      refine lv_aload_n hx hb d_Mo_head_241 rfl (lv_at hl 1 rfl) ?_
      refine lv_aload_n hx hb d_Mo_head_242 rfl (lv_at hl 1 rfl) ?_
      refine va_get (D := (dC, dI)) (ci := 12) (v := .int S_21.v_n) (C := R_Mo) (T := F_Mo) (N := 66) hx hb hts (fun w h => u_Mq_Mo w (i_Mo w h)) hown hK hP 0 rfl rfl 0 (by decide) (hts _ (u_Mq_Mo _ k_Mo_7)) (fun _ h9 => h9) rfl d_Mo_head_243 ?_
      refine lv_aload_n hx hb d_Mo_head_246 rfl (lv_at hl 1 rfl) ?_
      refine va_get (D := (dC, dI)) (ci := 12) (v := .int S_21.v_a) (C := R_Mo) (T := F_Mo) (N := 66) hx hb hts (fun w h => u_Mq_Mo w (i_Mo w h)) hown hK hP 0 rfl rfl 16 (by decide) (hts _ (u_Mq_Mo _ k_Mo_23)) (fun _ h9 => h9) rfl d_Mo_head_247 ?_
      refine lv_isub hx hb d_Mo_head_250 ?_
      refine lv_aload_n hx hb d_Mo_head_251 rfl (lv_at hl 1 rfl) ?_
      refine va_get (D := (dC, dI)) (ci := 12) (v := .int S_21.v_c) (C := R_Mo) (T := F_Mo) (N := 66) hx hb hts (fun w h => u_Mq_Mo w (i_Mo w h)) hown hK hP 0 rfl rfl 11 (by decide) (hts _ (u_Mq_Mo _ k_Mo_18)) (fun _ h9 => h9) rfl d_Mo_head_252 ?_
      obtain ⟨g_22, h⟩ := lf_gE h
      refine lv_idiv hx hb d_Mo_head_255 g_22 ?_
      refine va_put (D := (dC, dI)) (ci := 12) (v := .int ((S_21.v_n - S_21.v_a) / S_21.v_c)) (ty := .int) (C := R_Mo) (T := F_Mo) (N := 66) hx hb hts (fun w h => u_Mq_Mo w (i_Mo w h)) t_Mo t_Mo_ok n_Mo hown hK hP hD hS 0 rfl rfl 17 (by decide) (hts _ (u_Mq_Mo _ k_Mo_24)) (fun _ h9 => h9) rfl (by decide +kernel) rfl rfl (Nat.le_of_ble_eq_true rfl) d_Mo_head_256 (fun H locs hP hD hS => ?_)
      obtain ⟨S_23, eS_23, h⟩ := lf_lX h
      have hP := lx_newP eS_23 hP
      have hD := lx_newD eS_23 hD
      refine lv_aload_n hx hb d_Mo_head_259 rfl (lv_at hl 1 rfl) ?_
      refine va_get (D := (dC, dI)) (ci := 12) (v := .int S_23.v_n) (C := R_Mo) (T := F_Mo) (N := 66) hx hb hts (fun w h => u_Mq_Mo w (i_Mo w h)) hown hK hP 0 rfl rfl 0 (by decide) (hts _ (u_Mq_Mo _ k_Mo_7)) (fun _ h9 => h9) rfl d_Mo_head_260 ?_
      refine lv_aload_n hx hb d_Mo_head_263 rfl (lv_at hl 1 rfl) ?_
      refine va_get (D := (dC, dI)) (ci := 12) (v := .int S_23.v_a) (C := R_Mo) (T := F_Mo) (N := 66) hx hb hts (fun w h => u_Mq_Mo w (i_Mo w h)) hown hK hP 0 rfl rfl 16 (by decide) (hts _ (u_Mq_Mo _ k_Mo_23)) (fun _ h9 => h9) rfl d_Mo_head_264 ?_
      refine lv_icmp_le (tgt := 310) hx hb d_Mo_head_267 (by decide) (fun c_24 => ?_) (fun c_24 => ?_)
      · have h := lf_t h c_24
        exact hB_310 S_23 _ _ _ h hP hD hS (lv_sub hl [] rfl)
      · have h := lf_f h c_24
        refine lv_aload_n hx hb d_Mo_head_270 rfl (lv_at hl 1 rfl) ?_
        refine va_get (D := (dC, dI)) (ci := 12) (v := .int S_23.v_k) (C := R_Mo) (T := F_Mo) (N := 66) hx hb hts (fun w h => u_Mq_Mo w (i_Mo w h)) hown hK hP 0 rfl rfl 17 (by decide) (hts _ (u_Mq_Mo _ k_Mo_24)) (fun _ h9 => h9) rfl d_Mo_head_271 ?_
        refine lv_iconst (v := 4) hx hb d_Mo_head_274 (by decide) ?_
        refine lv_icmp_lt (tgt := 310) hx hb d_Mo_head_275 (by decide) (fun c_25 => ?_) (fun c_25 => ?_)
        · have h := lf_t h c_25
          exact hB_310 S_23 _ _ _ h hP hD hS (lv_sub hl [] rfl)
        · have h := lf_f h c_25
          refine lv_sipush (v := 128) hx hb d_Mo_head_278 (by decide) ?_
          refine lv_aload_n hx hb d_Mo_head_281 rfl (lv_at hl 1 rfl) ?_
          refine va_get (D := (dC, dI)) (ci := 12) (v := .int S_23.v_z) (C := R_Mo) (T := F_Mo) (N := 66) hx hb hts (fun w h => u_Mq_Mo w (i_Mo w h)) hown hK hP 0 rfl rfl 14 (by decide) (hts _ (u_Mq_Mo _ k_Mo_21)) (fun _ h9 => h9) rfl d_Mo_head_282 ?_
          refine lv_imul hx hb d_Mo_head_285 ?_
          refine lv_aload_n hx hb d_Mo_head_286 rfl (lv_at hl 1 rfl) ?_
          refine va_get (D := (dC, dI)) (ci := 12) (v := .int S_23.v_k) (C := R_Mo) (T := F_Mo) (N := 66) hx hb hts (fun w h => u_Mq_Mo w (i_Mo w h)) hown hK hP 0 rfl rfl 17 (by decide) (hts _ (u_Mq_Mo _ k_Mo_24)) (fun _ h9 => h9) rfl d_Mo_head_287 ?_
          refine lv_iconst (v := 2) hx hb d_Mo_head_290 (by decide) ?_
          refine lv_iadd hx hb d_Mo_head_291 ?_
          refine lv_icmp_lt (tgt := 310) hx hb d_Mo_head_292 (by decide) (fun c_26 => ?_) (fun c_26 => ?_)
          · have h := lf_t h c_26
            exact hB_310 S_23 _ _ _ h hP hD hS (lv_sub hl [] rfl)
          · have h := lf_f h c_26
            refine lv_aload_n hx hb d_Mo_head_295 rfl (lv_at hl 1 rfl) ?_
            refine lv_aload_n hx hb d_Mo_head_296 rfl (lv_at hl 1 rfl) ?_
            refine va_get (D := (dC, dI)) (ci := 12) (v := .int S_23.v_root) (C := R_Mo) (T := F_Mo) (N := 66) hx hb hts (fun w h => u_Mq_Mo w (i_Mo w h)) hown hK hP 0 rfl rfl 15 (by decide) (hts _ (u_Mq_Mo _ k_Mo_22)) (fun _ h9 => h9) rfl d_Mo_head_297 ?_
            obtain ⟨r_27, S_27, hc_27, h⟩ := lf_cE h
            have hFc := lx_free hD hS hA
            refine va_calli (va_runV (As := [.int S_23.v_root]) (rest := []) ⟨hx, hb, hml, hown, hts⟩ (l_Mo_isCluster l dC dI X _ hc_27) (cwV 1 hts (gwV good_Mq (u_Mq_Mo _ k_Mo_104) (u_Mq_Mo _ k_Mo_105) (u_Mq_Mo _ k_Mo_482) (u_Mq_Mo _ k_Mo_0) (wcs (u_Mq_Mo _ k_Mo_106) (fun _ h => h))) rfl rfl rfl (by decide +kernel) ⟨Nat.le_of_ble_eq_true rfl, Nat.le_of_ble_eq_true rfl⟩) (pv_ofE (X.same _) (fun U z1 z2 => X.mono _ _ U hFc (hEw _ _ hS U z1 z2)) hP hK hD (va_recv hK hP (ci := 12) (q0 := 0) rfl rfl)) rfl rfl hl.1 rfl (lv_room (Nat.le_of_ble_eq_true rfl)) d_Mo_head_300 ⟨by decide, by decide⟩) hS (fun q _ h => hFc q h) hFc (fun r_ u t H locs ht hvm hw hB hz1 hk1 hS => ?_)
            rw [hw]
            obtain ⟨hP, -, hD⟩ := hB
            rw [ht] at hP
            have hD := lx_dj hD hFc
            refine lv_if_eq (tgt := 310) hx hb d_Mo_head_303 (by decide) (fun c_28 => ?_) (fun c_28 => ?_)
            · have h := lf_t h c_28
              exact hB_310 S_27 _ _ _ h hP hD hS (lv_sub hl [] rfl)
            · have h := lf_f h c_28
              refine lv_iconst (v := 1) hx hb d_Mo_head_306 (by decide) ?_
              refine lv_goto (tgt := 311) hx hb d_Mo_head_307 (by decide) ?_
              rw [hQ]
              have e1 : (1 : Int32) = r := congrArg Prod.fst (Option.some.inj h)
              have e2 : S_27 = S' := congrArg Prod.snd (Option.some.inj h)
              have hP := lx_newP e2.symm hP
              have hD := lx_newD e2.symm hD
              exact W.zret (v := 1) hx hb hr rfl (fun t ht hW => ⟨⟨1, (), rfl, e1, by rw [ht]; exact hP, va_K.moved hW.alike hK, hD⟩, hS.F ht⟩) hS.2.2 d_Mo_head_311
    · have h := lf_t h c_20
      refine lv_iconst (v := 0) hx hb d_Mo_head_221 (by decide) ?_
      rw [hQ]
      have e1 : (0 : Int32) = r := congrArg Prod.fst (Option.some.inj h)
      have e2 : S = S' := congrArg Prod.snd (Option.some.inj h)
      have hP := lx_newP e2.symm hP
      have hD := lx_newD e2.symm hD
      exact W.zret (v := 0) hx hb hr rfl (fun t ht hW => ⟨⟨0, (), rfl, e1, by rw [ht]; exact hP, va_K.moved hW.alike hK, hD⟩, hS.F ht⟩) hS.2.2 d_Mo_head_222
  have hB_215 : ∀ (S : MS) (H : Heap) (locs : List Loc) (ls : Array Slot), f_Mo_head_215 K S = some (r, S') → va_P (dC, dI) classes (wM M S) H → va_D A (wM M S) → va_S A s.heap H locs → lv_has ls 2 [(0, .ref M.o)] → W p l e ({ frames := 3, cells := 0, slots := 0, locals := 63 }) s m ([.ref M.o] : List Value).toArray below meth c H locs 0 0 Q (F0 m 215 ls []) := by
    intro S H locs ls h hP hD hS hl
    rw [f_Mo_head_215] at h
    refine lv_iconst (v := 0) hx hb d_Mo_head_215 (by decide) ?_
    exact hB_216 0 S _ _ _ h hP hD hS (lv_sub hl [0] rfl)
  have hB_121 : ∀ (S : MS) (H : Heap) (locs : List Loc) (ls : Array Slot), f_Mo_head_121 K S = some (r, S') → va_P (dC, dI) classes (wM M S) H → va_D A (wM M S) → va_S A s.heap H locs → lv_has ls 2 [(0, .ref M.o)] → W p l e ({ frames := 3, cells := 0, slots := 0, locals := 63 }) s m ([.ref M.o] : List Value).toArray below meth c H locs 0 0 Q (F0 m 121 ls []) := by
    intro S H locs ls h hP hD hS hl
    rw [f_Mo_head_121] at h
    refine lv_aload_n hx hb d_Mo_head_121 rfl (lv_at hl 0 rfl) ?_
    refine lv_bipush (v := 17) hx hb d_Mo_head_122 (by decide) ?_
    obtain ⟨r_29, S_29, hc_29, h⟩ := lf_cE h
    have hFc := lx_free hD hS hA
    refine va_calli (va_runV (As := [.int 17]) (rest := []) ⟨hx, hb, hml, hown, hts⟩ (l_Mo_two l dC dI X _ hc_29) (cwV 1 hts (gwV good_Mq (u_Mq_Mo _ k_Mo_97) (u_Mq_Mo _ k_Mo_98) (u_Mq_Mo _ k_Mo_476) (u_Mq_Mo _ k_Mo_0) (wcs (u_Mq_Mo _ k_Mo_99) (fun _ h => h))) rfl rfl rfl (by decide +kernel) ⟨Nat.le_of_ble_eq_true rfl, Nat.le_of_ble_eq_true rfl⟩) (pv_ofE (X.same _) (fun U z1 z2 => X.mono _ _ U hFc (hEw _ _ hS U z1 z2)) hP hK hD (va_recv hK hP (ci := 12) (q0 := 0) rfl rfl)) rfl rfl hl.1 rfl (lv_room (Nat.le_of_ble_eq_true rfl)) d_Mo_head_124 ⟨by decide, by decide⟩) hS (fun q _ h => hFc q h) hFc (fun r_ u t H locs ht hvm hw hB hz1 hk1 hS => ?_)
    rw [hw]
    obtain ⟨hP, -, hD⟩ := hB
    rw [ht] at hP
    have hD := lx_dj hD hFc
    refine lv_if_ne (tgt := 215) hx hb d_Mo_head_127 (by decide) (fun c_30 => ?_) (fun c_30 => ?_)
    · have h := lf_f h c_30
      exact hB_215 S_29 _ _ _ h hP hD hS (lv_sub hl [0] rfl)
    · have h := lf_t h c_30
      refine lv_aload_n hx hb d_Mo_head_130 rfl (lv_at hl 0 rfl) ?_
      refine lv_bipush (v := 19) hx hb d_Mo_head_131 (by decide) ?_
      obtain ⟨r_31, S_31, hc_31, h⟩ := lf_cE h
      have hFc := lx_free hD hS hA
      refine va_calli (va_runV (As := [.int 19]) (rest := []) ⟨hx, hb, hml, hown, hts⟩ (l_Mo_two l dC dI X _ hc_31) (cwV 1 hts (gwV good_Mq (u_Mq_Mo _ k_Mo_97) (u_Mq_Mo _ k_Mo_98) (u_Mq_Mo _ k_Mo_476) (u_Mq_Mo _ k_Mo_0) (wcs (u_Mq_Mo _ k_Mo_99) (fun _ h => h))) rfl rfl rfl (by decide +kernel) ⟨Nat.le_of_ble_eq_true rfl, Nat.le_of_ble_eq_true rfl⟩) (pv_ofE (X.same _) (fun U z1 z2 => X.mono _ _ U hFc (hEw _ _ hS U z1 z2)) hP hK hD (va_recv hK hP (ci := 12) (q0 := 0) rfl rfl)) rfl rfl hl.1 rfl (lv_room (Nat.le_of_ble_eq_true rfl)) d_Mo_head_133 ⟨by decide, by decide⟩) hS (fun q _ h => hFc q h) hFc (fun r_ u t H locs ht hvm hw hB hz1 hk1 hS => ?_)
      rw [hw]
      obtain ⟨hP, -, hD⟩ := hB
      rw [ht] at hP
      have hD := lx_dj hD hFc
      refine lv_if_ne (tgt := 215) hx hb d_Mo_head_136 (by decide) (fun c_32 => ?_) (fun c_32 => ?_)
      · have h := lf_f h c_32
        exact hB_215 S_31 _ _ _ h hP hD hS (lv_sub hl [0] rfl)
      · have h := lf_t h c_32
        refine lv_aload_n hx hb d_Mo_head_139 rfl (lv_at hl 0 rfl) ?_
        refine lv_bipush (v := 22) hx hb d_Mo_head_140 (by decide) ?_
        obtain ⟨r_33, S_33, hc_33, h⟩ := lf_cE h
        have hFc := lx_free hD hS hA
        refine va_calli (va_runV (As := [.int 22]) (rest := []) ⟨hx, hb, hml, hown, hts⟩ (l_Mo_two l dC dI X _ hc_33) (cwV 1 hts (gwV good_Mq (u_Mq_Mo _ k_Mo_97) (u_Mq_Mo _ k_Mo_98) (u_Mq_Mo _ k_Mo_476) (u_Mq_Mo _ k_Mo_0) (wcs (u_Mq_Mo _ k_Mo_99) (fun _ h => h))) rfl rfl rfl (by decide +kernel) ⟨Nat.le_of_ble_eq_true rfl, Nat.le_of_ble_eq_true rfl⟩) (pv_ofE (X.same _) (fun U z1 z2 => X.mono _ _ U hFc (hEw _ _ hS U z1 z2)) hP hK hD (va_recv hK hP (ci := 12) (q0 := 0) rfl rfl)) rfl rfl hl.1 rfl (lv_room (Nat.le_of_ble_eq_true rfl)) d_Mo_head_142 ⟨by decide, by decide⟩) hS (fun q _ h => hFc q h) hFc (fun r_ u t H locs ht hvm hw hB hz1 hk1 hS => ?_)
        rw [hw]
        obtain ⟨hP, -, hD⟩ := hB
        rw [ht] at hP
        have hD := lx_dj hD hFc
        refine lv_if_ne (tgt := 215) hx hb d_Mo_head_145 (by decide) (fun c_34 => ?_) (fun c_34 => ?_)
        · have h := lf_f h c_34
          exact hB_215 S_33 _ _ _ h hP hD hS (lv_sub hl [0] rfl)
        · have h := lf_t h c_34
          refine lv_aload_n hx hb d_Mo_head_148 rfl (lv_at hl 0 rfl) ?_
          refine lv_bipush (v := 32) hx hb d_Mo_head_149 (by decide) ?_
          obtain ⟨r_35, S_35, hc_35, h⟩ := lf_cE h
          have hFc := lx_free hD hS hA
          refine va_calli (va_runV (As := [.int 32]) (rest := []) ⟨hx, hb, hml, hown, hts⟩ (l_Mo_four l dC dI X _ hc_35) (cwV 1 hts (gwV good_Mq (u_Mq_Mo _ k_Mo_100) (u_Mq_Mo _ k_Mo_101) (u_Mq_Mo _ k_Mo_477) (u_Mq_Mo _ k_Mo_0) (wcs (u_Mq_Mo _ k_Mo_102) (fun _ h => h))) rfl rfl rfl (by decide +kernel) ⟨Nat.le_of_ble_eq_true rfl, Nat.le_of_ble_eq_true rfl⟩) (pv_ofE (X.same _) (fun U z1 z2 => X.mono _ _ U hFc (hEw _ _ hS U z1 z2)) hP hK hD (va_recv hK hP (ci := 12) (q0 := 0) rfl rfl)) rfl rfl hl.1 rfl (lv_room (Nat.le_of_ble_eq_true rfl)) d_Mo_head_151 ⟨by decide, by decide⟩) hS (fun q _ h => hFc q h) hFc (fun r_ u t H locs ht hvm hw hB hz1 hk1 hS => ?_)
          rw [hw]
          obtain ⟨hP, -, hD⟩ := hB
          rw [ht] at hP
          have hD := lx_dj hD hFc
          refine lv_aload_n hx hb d_Mo_head_154 rfl (lv_at hl 0 rfl) ?_
          refine va_get (D := (dC, dI)) (ci := 12) (v := .int S_35.v_n) (C := R_Mo) (T := F_Mo) (N := 66) hx hb hts (fun w h => u_Mq_Mo w (i_Mo w h)) hown hK hP 0 rfl rfl 0 (by decide) (hts _ (u_Mq_Mo _ k_Mo_7)) (fun _ h9 => h9) rfl d_Mo_head_155 ?_
          refine lv_icmp_ne (tgt := 215) hx hb d_Mo_head_158 (by decide) (fun c_36 => ?_) (fun c_36 => ?_)
          · have h := lf_f h c_36
            exact hB_215 S_35 _ _ _ h hP hD hS (lv_sub hl [0] rfl)
          · have h := lf_t h c_36
            refine lv_aload_n hx hb d_Mo_head_161 rfl (lv_at hl 0 rfl) ?_
            refine va_get (D := (dC, dI)) (ci := 12) (v := .int S_35.v_z) (C := R_Mo) (T := F_Mo) (N := 66) hx hb hts (fun w h => u_Mq_Mo w (i_Mo w h)) hown hK hP 0 rfl rfl 14 (by decide) (hts _ (u_Mq_Mo _ k_Mo_21)) (fun _ h9 => h9) rfl d_Mo_head_162 ?_
            refine lv_iconst (v := 1) hx hb d_Mo_head_165 (by decide) ?_
            refine lv_icmp_lt (tgt := 215) hx hb d_Mo_head_166 (by decide) (fun c_37 => ?_) (fun c_37 => ?_)
            · have h := lf_t h c_37
              exact hB_215 S_35 _ _ _ h hP hD hS (lv_sub hl [0] rfl)
            · have h := lf_f h c_37
              refine lv_aload_n hx hb d_Mo_head_169 rfl (lv_at hl 0 rfl) ?_
              refine va_get (D := (dC, dI)) (ci := 12) (v := .int S_35.v_z) (C := R_Mo) (T := F_Mo) (N := 66) hx hb hts (fun w h => u_Mq_Mo w (i_Mo w h)) hown hK hP 0 rfl rfl 14 (by decide) (hts _ (u_Mq_Mo _ k_Mo_21)) (fun _ h9 => h9) rfl d_Mo_head_170 ?_
              refine lv_bipush (v := 32) hx hb d_Mo_head_173 (by decide) ?_
              refine lv_icmp_gt (tgt := 215) hx hb d_Mo_head_175 (by decide) (fun c_38 => ?_) (fun c_38 => ?_)
              · have h := lf_t h c_38
                exact hB_215 S_35 _ _ _ h hP hD hS (lv_sub hl [0] rfl)
              · have h := lf_f h c_38
                refine lv_aload_n hx hb d_Mo_head_178 rfl (lv_at hl 0 rfl) ?_
                refine lv_bipush (v := 48) hx hb d_Mo_head_179 (by decide) ?_
                obtain ⟨r_39, S_39, hc_39, h⟩ := lf_cE h
                have hFc := lx_free hD hS hA
                refine va_calli (va_runV (As := [.int 48]) (rest := []) ⟨hx, hb, hml, hown, hts⟩ (l_Mo_two l dC dI X _ hc_39) (cwV 1 hts (gwV good_Mq (u_Mq_Mo _ k_Mo_97) (u_Mq_Mo _ k_Mo_98) (u_Mq_Mo _ k_Mo_476) (u_Mq_Mo _ k_Mo_0) (wcs (u_Mq_Mo _ k_Mo_99) (fun _ h => h))) rfl rfl rfl (by decide +kernel) ⟨Nat.le_of_ble_eq_true rfl, Nat.le_of_ble_eq_true rfl⟩) (pv_ofE (X.same _) (fun U z1 z2 => X.mono _ _ U hFc (hEw _ _ hS U z1 z2)) hP hK hD (va_recv hK hP (ci := 12) (q0 := 0) rfl rfl)) rfl rfl hl.1 rfl (lv_room (Nat.le_of_ble_eq_true rfl)) d_Mo_head_181 ⟨by decide, by decide⟩) hS (fun q _ h => hFc q h) hFc (fun r_ u t H locs ht hvm hw hB hz1 hk1 hS => ?_)
                rw [hw]
                obtain ⟨hP, -, hD⟩ := hB
                rw [ht] at hP
                have hD := lx_dj hD hFc
                refine lv_iconst (v := 1) hx hb d_Mo_head_184 (by decide) ?_
                refine lv_icmp_ne (tgt := 215) hx hb d_Mo_head_185 (by decide) (fun c_40 => ?_) (fun c_40 => ?_)
                · have h := lf_f h c_40
                  exact hB_215 S_39 _ _ _ h hP hD hS (lv_sub hl [0] rfl)
                · have h := lf_t h c_40
                  refine lv_aload_n hx hb d_Mo_head_188 rfl (lv_at hl 0 rfl) ?_
                  refine lv_bipush (v := 50) hx hb d_Mo_head_189 (by decide) ?_
                  obtain ⟨r_41, S_41, hc_41, h⟩ := lf_cE h
                  have hFc := lx_free hD hS hA
                  refine va_calli (va_runV (As := [.int 50]) (rest := []) ⟨hx, hb, hml, hown, hts⟩ (l_Mo_two l dC dI X _ hc_41) (cwV 1 hts (gwV good_Mq (u_Mq_Mo _ k_Mo_97) (u_Mq_Mo _ k_Mo_98) (u_Mq_Mo _ k_Mo_476) (u_Mq_Mo _ k_Mo_0) (wcs (u_Mq_Mo _ k_Mo_99) (fun _ h => h))) rfl rfl rfl (by decide +kernel) ⟨Nat.le_of_ble_eq_true rfl, Nat.le_of_ble_eq_true rfl⟩) (pv_ofE (X.same _) (fun U z1 z2 => X.mono _ _ U hFc (hEw _ _ hS U z1 z2)) hP hK hD (va_recv hK hP (ci := 12) (q0 := 0) rfl rfl)) rfl rfl hl.1 rfl (lv_room (Nat.le_of_ble_eq_true rfl)) d_Mo_head_191 ⟨by decide, by decide⟩) hS (fun q _ h => hFc q h) hFc (fun r_ u t H locs ht hvm hw hB hz1 hk1 hS => ?_)
                  rw [hw]
                  obtain ⟨hP, -, hD⟩ := hB
                  rw [ht] at hP
                  have hD := lx_dj hD hFc
                  refine lv_bipush (v := 6) hx hb d_Mo_head_194 (by decide) ?_
                  refine lv_icmp_ne (tgt := 215) hx hb d_Mo_head_196 (by decide) (fun c_42 => ?_) (fun c_42 => ?_)
                  · have h := lf_f h c_42
                    exact hB_215 S_41 _ _ _ h hP hD hS (lv_sub hl [0] rfl)
                  · have h := lf_t h c_42
                    refine lv_aload_n hx hb d_Mo_head_199 rfl (lv_at hl 0 rfl) ?_
                    refine lv_sipush (v := 510) hx hb d_Mo_head_200 (by decide) ?_
                    obtain ⟨r_43, S_43, hc_43, h⟩ := lf_cE h
                    have hFc := lx_free hD hS hA
                    refine va_calli (va_runV (As := [.int 510]) (rest := []) ⟨hx, hb, hml, hown, hts⟩ (l_Mo_two l dC dI X _ hc_43) (cwV 1 hts (gwV good_Mq (u_Mq_Mo _ k_Mo_97) (u_Mq_Mo _ k_Mo_98) (u_Mq_Mo _ k_Mo_476) (u_Mq_Mo _ k_Mo_0) (wcs (u_Mq_Mo _ k_Mo_99) (fun _ h => h))) rfl rfl rfl (by decide +kernel) ⟨Nat.le_of_ble_eq_true rfl, Nat.le_of_ble_eq_true rfl⟩) (pv_ofE (X.same _) (fun U z1 z2 => X.mono _ _ U hFc (hEw _ _ hS U z1 z2)) hP hK hD (va_recv hK hP (ci := 12) (q0 := 0) rfl rfl)) rfl rfl hl.1 rfl (lv_room (Nat.le_of_ble_eq_true rfl)) d_Mo_head_203 ⟨by decide, by decide⟩) hS (fun q _ h => hFc q h) hFc (fun r_ u t H locs ht hvm hw hB hz1 hk1 hS => ?_)
                    rw [hw]
                    obtain ⟨hP, -, hD⟩ := hB
                    rw [ht] at hP
                    have hD := lx_dj hD hFc
                    refine lv_ldc (v := 43605) hx hb hown (hts _ (u_Mq_Mo _ k_Mo_103)) d_Mo_head_206 ?_
                    refine lv_icmp_ne (tgt := 215) hx hb d_Mo_head_208 (by decide) (fun c_44 => ?_) (fun c_44 => ?_)
                    · have h := lf_f h c_44
                      exact hB_215 S_43 _ _ _ h hP hD hS (lv_sub hl [0] rfl)
                    · have h := lf_t h c_44
                      refine lv_iconst (v := 1) hx hb d_Mo_head_211 (by decide) ?_
                      refine lv_goto (tgt := 216) hx hb d_Mo_head_212 (by decide) ?_
                      exact hB_216 1 S_43 _ _ _ h hP hD hS (lv_sub hl [0] rfl)
  have hB_87 : ∀ (S : MS) (H : Heap) (locs : List Loc) (ls : Array Slot), f_Mo_head_87 K S = some (r, S') → va_P (dC, dI) classes (wM M S) H → va_D A (wM M S) → va_S A s.heap H locs → lv_has ls 2 [(0, .ref M.o)] → W p l e ({ frames := 3, cells := 0, slots := 0, locals := 63 }) s m ([.ref M.o] : List Value).toArray below meth c H locs 0 0 Q (F0 m 87 ls []) := by
    intro S H locs ls h hP hD hS hl
    rw [f_Mo_head_87] at h
    refine lv_aload_n hx hb d_Mo_head_87 rfl (lv_at hl 0 rfl) ?_
    refine va_get (D := (dC, dI)) (ci := 12) (v := .int S.v_v) (C := R_Mo) (T := F_Mo) (N := 66) hx hb hts (fun w h => u_Mq_Mo w (i_Mo w h)) hown hK hP 0 rfl rfl 12 (by decide) (hts _ (u_Mq_Mo _ k_Mo_19)) (fun _ h9 => h9) rfl d_Mo_head_88 ?_
    refine lv_bipush (v := 8) hx hb d_Mo_head_91 (by decide) ?_
    refine lv_icmp_lt (tgt := 215) hx hb d_Mo_head_93 (by decide) (fun c_16 => ?_) (fun c_16 => ?_)
    · have h := lf_t h c_16
      exact hB_215 S _ _ _ h hP hD hS (lv_sub hl [0] rfl)
    · have h := lf_f h c_16
      refine lv_aload_n hx hb d_Mo_head_96 rfl (lv_at hl 0 rfl) ?_
      refine va_get (D := (dC, dI)) (ci := 12) (v := .int S.v_v) (C := R_Mo) (T := F_Mo) (N := 66) hx hb hts (fun w h => u_Mq_Mo w (i_Mo w h)) hown hK hP 0 rfl rfl 12 (by decide) (hts _ (u_Mq_Mo _ k_Mo_19)) (fun _ h9 => h9) rfl d_Mo_head_97 ?_
      refine lv_bipush (v := 64) hx hb d_Mo_head_100 (by decide) ?_
      refine lv_icmp_gt (tgt := 215) hx hb d_Mo_head_102 (by decide) (fun c_17 => ?_) (fun c_17 => ?_)
      · have h := lf_t h c_17
        exact hB_215 S _ _ _ h hP hD hS (lv_sub hl [0] rfl)
      · have h := lf_f h c_17
        refine lv_aload_n hx hb d_Mo_head_105 rfl (lv_at hl 0 rfl) ?_
        refine va_get (D := (dC, dI)) (ci := 12) (v := .int S.v_y) (C := R_Mo) (T := F_Mo) (N := 66) hx hb hts (fun w h => u_Mq_Mo w (i_Mo w h)) hown hK hP 0 rfl rfl 13 (by decide) (hts _ (u_Mq_Mo _ k_Mo_20)) (fun _ h9 => h9) rfl d_Mo_head_106 ?_
        refine lv_iconst (v := 1) hx hb d_Mo_head_109 (by decide) ?_
        refine lv_icmp_eq (tgt := 121) hx hb d_Mo_head_110 (by decide) (fun c_18 => ?_) (fun c_18 => ?_)
        · have h := lf_t h c_18
          exact hB_121 S _ _ _ h hP hD hS (lv_sub hl [0] rfl)
        · have h := lf_f h c_18
          refine lv_aload_n hx hb d_Mo_head_113 rfl (lv_at hl 0 rfl) ?_
          refine va_get (D := (dC, dI)) (ci := 12) (v := .int S.v_y) (C := R_Mo) (T := F_Mo) (N := 66) hx hb hts (fun w h => u_Mq_Mo w (i_Mo w h)) hown hK hP 0 rfl rfl 13 (by decide) (hts _ (u_Mq_Mo _ k_Mo_20)) (fun _ h9 => h9) rfl d_Mo_head_114 ?_
          refine lv_iconst (v := 2) hx hb d_Mo_head_117 (by decide) ?_
          refine lv_icmp_ne (tgt := 215) hx hb d_Mo_head_118 (by decide) (fun c_19 => ?_) (fun c_19 => ?_)
          · have h := lf_f h c_19
            exact hB_215 S _ _ _ h hP hD hS (lv_sub hl [0] rfl)
          · have h := lf_t h c_19
            exact hB_121 S _ _ _ h hP hD hS (lv_sub hl [0] rfl)
  rw [f_Mo_head] at h
  refine lv_aload_n hx hb d_Mo_head_0 rfl (lv_at hl 0 rfl) ?_
  refine lv_aload_n hx hb d_Mo_head_1 rfl (lv_at hl 0 rfl) ?_
  refine lv_bipush (v := 13) hx hb d_Mo_head_2 (by decide) ?_
  obtain ⟨r_1, S_1, hc_1, h⟩ := lf_cE h
  have hFc := lx_free hD hS hA
  refine va_calli (va_runV (As := [.int 13]) (rest := [.ref M.o]) ⟨hx, hb, hml, hown, hts⟩ (l_Mo_one l dC dI X _ hc_1) (cwV 1 hts (gwV good_Mq (u_Mq_Mo _ k_Mo_94) (u_Mq_Mo _ k_Mo_95) (u_Mq_Mo _ k_Mo_475) (u_Mq_Mo _ k_Mo_0) (wcs (u_Mq_Mo _ k_Mo_96) (fun _ h => h))) rfl rfl rfl (by decide +kernel) ⟨Nat.le_of_ble_eq_true rfl, Nat.le_of_ble_eq_true rfl⟩) (pv_ofE (X.same _) (fun U z1 z2 => X.mono _ _ U hFc (hEw _ _ hS U z1 z2)) hP hK hD (va_recv hK hP (ci := 12) (q0 := 0) rfl rfl)) rfl rfl hl.1 rfl (lv_room (Nat.le_of_ble_eq_true rfl)) d_Mo_head_4 ⟨by decide, by decide⟩) hS (fun q _ h => hFc q h) hFc (fun r_ u t H locs ht hvm hw hB hz1 hk1 hS => ?_)
  rw [hw]
  obtain ⟨hP, -, hD⟩ := hB
  rw [ht] at hP
  have hD := lx_dj hD hFc
  refine va_put (D := (dC, dI)) (ci := 12) (v := .int r_1) (ty := .int) (C := R_Mo) (T := F_Mo) (N := 66) hx hb hts (fun w h => u_Mq_Mo w (i_Mo w h)) t_Mo t_Mo_ok n_Mo hown hK hP hD hS 0 rfl rfl 11 (by decide) (hts _ (u_Mq_Mo _ k_Mo_18)) (fun _ h9 => h9) rfl (by decide +kernel) rfl rfl (Nat.le_of_ble_eq_true rfl) d_Mo_head_7 (fun H locs hP hD hS => ?_)
  obtain ⟨S_2, eS_2, h⟩ := lf_lX h
  have hP := lx_newP eS_2 hP
  have hD := lx_newD eS_2 hD
  refine lv_aload_n hx hb d_Mo_head_10 rfl (lv_at hl 0 rfl) ?_
  refine lv_aload_n hx hb d_Mo_head_11 rfl (lv_at hl 0 rfl) ?_
  refine lv_bipush (v := 14) hx hb d_Mo_head_12 (by decide) ?_
  obtain ⟨r_3, S_3, hc_3, h⟩ := lf_cE h
  have hFc := lx_free hD hS hA
  refine va_calli (va_runV (As := [.int 14]) (rest := [.ref M.o]) ⟨hx, hb, hml, hown, hts⟩ (l_Mo_two l dC dI X _ hc_3) (cwV 1 hts (gwV good_Mq (u_Mq_Mo _ k_Mo_97) (u_Mq_Mo _ k_Mo_98) (u_Mq_Mo _ k_Mo_476) (u_Mq_Mo _ k_Mo_0) (wcs (u_Mq_Mo _ k_Mo_99) (fun _ h => h))) rfl rfl rfl (by decide +kernel) ⟨Nat.le_of_ble_eq_true rfl, Nat.le_of_ble_eq_true rfl⟩) (pv_ofE (X.same _) (fun U z1 z2 => X.mono _ _ U hFc (hEw _ _ hS U z1 z2)) hP hK hD (va_recv hK hP (ci := 12) (q0 := 0) rfl rfl)) rfl rfl hl.1 rfl (lv_room (Nat.le_of_ble_eq_true rfl)) d_Mo_head_14 ⟨by decide, by decide⟩) hS (fun q _ h => hFc q h) hFc (fun r_ u t H locs ht hvm hw hB hz1 hk1 hS => ?_)
  rw [hw]
  obtain ⟨hP, -, hD⟩ := hB
  rw [ht] at hP
  have hD := lx_dj hD hFc
  refine va_put (D := (dC, dI)) (ci := 12) (v := .int r_3) (ty := .int) (C := R_Mo) (T := F_Mo) (N := 66) hx hb hts (fun w h => u_Mq_Mo w (i_Mo w h)) t_Mo t_Mo_ok n_Mo hown hK hP hD hS 0 rfl rfl 12 (by decide) (hts _ (u_Mq_Mo _ k_Mo_19)) (fun _ h9 => h9) rfl (by decide +kernel) rfl rfl (Nat.le_of_ble_eq_true rfl) d_Mo_head_17 (fun H locs hP hD hS => ?_)
  obtain ⟨S_4, eS_4, h⟩ := lf_lX h
  have hP := lx_newP eS_4 hP
  have hD := lx_newD eS_4 hD
  refine lv_aload_n hx hb d_Mo_head_20 rfl (lv_at hl 0 rfl) ?_
  refine lv_aload_n hx hb d_Mo_head_21 rfl (lv_at hl 0 rfl) ?_
  refine lv_bipush (v := 16) hx hb d_Mo_head_22 (by decide) ?_
  obtain ⟨r_5, S_5, hc_5, h⟩ := lf_cE h
  have hFc := lx_free hD hS hA
  refine va_calli (va_runV (As := [.int 16]) (rest := [.ref M.o]) ⟨hx, hb, hml, hown, hts⟩ (l_Mo_one l dC dI X _ hc_5) (cwV 1 hts (gwV good_Mq (u_Mq_Mo _ k_Mo_94) (u_Mq_Mo _ k_Mo_95) (u_Mq_Mo _ k_Mo_475) (u_Mq_Mo _ k_Mo_0) (wcs (u_Mq_Mo _ k_Mo_96) (fun _ h => h))) rfl rfl rfl (by decide +kernel) ⟨Nat.le_of_ble_eq_true rfl, Nat.le_of_ble_eq_true rfl⟩) (pv_ofE (X.same _) (fun U z1 z2 => X.mono _ _ U hFc (hEw _ _ hS U z1 z2)) hP hK hD (va_recv hK hP (ci := 12) (q0 := 0) rfl rfl)) rfl rfl hl.1 rfl (lv_room (Nat.le_of_ble_eq_true rfl)) d_Mo_head_24 ⟨by decide, by decide⟩) hS (fun q _ h => hFc q h) hFc (fun r_ u t H locs ht hvm hw hB hz1 hk1 hS => ?_)
  rw [hw]
  obtain ⟨hP, -, hD⟩ := hB
  rw [ht] at hP
  have hD := lx_dj hD hFc
  refine va_put (D := (dC, dI)) (ci := 12) (v := .int r_5) (ty := .int) (C := R_Mo) (T := F_Mo) (N := 66) hx hb hts (fun w h => u_Mq_Mo w (i_Mo w h)) t_Mo t_Mo_ok n_Mo hown hK hP hD hS 0 rfl rfl 13 (by decide) (hts _ (u_Mq_Mo _ k_Mo_20)) (fun _ h9 => h9) rfl (by decide +kernel) rfl rfl (Nat.le_of_ble_eq_true rfl) d_Mo_head_27 (fun H locs hP hD hS => ?_)
  obtain ⟨S_6, eS_6, h⟩ := lf_lX h
  have hP := lx_newP eS_6 hP
  have hD := lx_newD eS_6 hD
  refine lv_aload_n hx hb d_Mo_head_30 rfl (lv_at hl 0 rfl) ?_
  refine lv_aload_n hx hb d_Mo_head_31 rfl (lv_at hl 0 rfl) ?_
  refine lv_bipush (v := 36) hx hb d_Mo_head_32 (by decide) ?_
  obtain ⟨r_7, S_7, hc_7, h⟩ := lf_cE h
  have hFc := lx_free hD hS hA
  refine va_calli (va_runV (As := [.int 36]) (rest := [.ref M.o]) ⟨hx, hb, hml, hown, hts⟩ (l_Mo_four l dC dI X _ hc_7) (cwV 1 hts (gwV good_Mq (u_Mq_Mo _ k_Mo_100) (u_Mq_Mo _ k_Mo_101) (u_Mq_Mo _ k_Mo_477) (u_Mq_Mo _ k_Mo_0) (wcs (u_Mq_Mo _ k_Mo_102) (fun _ h => h))) rfl rfl rfl (by decide +kernel) ⟨Nat.le_of_ble_eq_true rfl, Nat.le_of_ble_eq_true rfl⟩) (pv_ofE (X.same _) (fun U z1 z2 => X.mono _ _ U hFc (hEw _ _ hS U z1 z2)) hP hK hD (va_recv hK hP (ci := 12) (q0 := 0) rfl rfl)) rfl rfl hl.1 rfl (lv_room (Nat.le_of_ble_eq_true rfl)) d_Mo_head_34 ⟨by decide, by decide⟩) hS (fun q _ h => hFc q h) hFc (fun r_ u t H locs ht hvm hw hB hz1 hk1 hS => ?_)
  rw [hw]
  obtain ⟨hP, -, hD⟩ := hB
  rw [ht] at hP
  have hD := lx_dj hD hFc
  refine va_put (D := (dC, dI)) (ci := 12) (v := .int r_7) (ty := .int) (C := R_Mo) (T := F_Mo) (N := 66) hx hb hts (fun w h => u_Mq_Mo w (i_Mo w h)) t_Mo t_Mo_ok n_Mo hown hK hP hD hS 0 rfl rfl 14 (by decide) (hts _ (u_Mq_Mo _ k_Mo_21)) (fun _ h9 => h9) rfl (by decide +kernel) rfl rfl (Nat.le_of_ble_eq_true rfl) d_Mo_head_37 (fun H locs hP hD hS => ?_)
  obtain ⟨S_8, eS_8, h⟩ := lf_lX h
  have hP := lx_newP eS_8 hP
  have hD := lx_newD eS_8 hD
  refine lv_aload_n hx hb d_Mo_head_40 rfl (lv_at hl 0 rfl) ?_
  refine lv_aload_n hx hb d_Mo_head_41 rfl (lv_at hl 0 rfl) ?_
  refine lv_bipush (v := 44) hx hb d_Mo_head_42 (by decide) ?_
  obtain ⟨r_9, S_9, hc_9, h⟩ := lf_cE h
  have hFc := lx_free hD hS hA
  refine va_calli (va_runV (As := [.int 44]) (rest := [.ref M.o]) ⟨hx, hb, hml, hown, hts⟩ (l_Mo_four l dC dI X _ hc_9) (cwV 1 hts (gwV good_Mq (u_Mq_Mo _ k_Mo_100) (u_Mq_Mo _ k_Mo_101) (u_Mq_Mo _ k_Mo_477) (u_Mq_Mo _ k_Mo_0) (wcs (u_Mq_Mo _ k_Mo_102) (fun _ h => h))) rfl rfl rfl (by decide +kernel) ⟨Nat.le_of_ble_eq_true rfl, Nat.le_of_ble_eq_true rfl⟩) (pv_ofE (X.same _) (fun U z1 z2 => X.mono _ _ U hFc (hEw _ _ hS U z1 z2)) hP hK hD (va_recv hK hP (ci := 12) (q0 := 0) rfl rfl)) rfl rfl hl.1 rfl (lv_room (Nat.le_of_ble_eq_true rfl)) d_Mo_head_44 ⟨by decide, by decide⟩) hS (fun q _ h => hFc q h) hFc (fun r_ u t H locs ht hvm hw hB hz1 hk1 hS => ?_)
  rw [hw]
  obtain ⟨hP, -, hD⟩ := hB
  rw [ht] at hP
  have hD := lx_dj hD hFc
  refine va_put (D := (dC, dI)) (ci := 12) (v := .int r_9) (ty := .int) (C := R_Mo) (T := F_Mo) (N := 66) hx hb hts (fun w h => u_Mq_Mo w (i_Mo w h)) t_Mo t_Mo_ok n_Mo hown hK hP hD hS 0 rfl rfl 15 (by decide) (hts _ (u_Mq_Mo _ k_Mo_22)) (fun _ h9 => h9) rfl (by decide +kernel) rfl rfl (Nat.le_of_ble_eq_true rfl) d_Mo_head_47 (fun H locs hP hD hS => ?_)
  obtain ⟨S_10, eS_10, h⟩ := lf_lX h
  have hP := lx_newP eS_10 hP
  have hD := lx_newD eS_10 hD
  refine lv_aload_n hx hb d_Mo_head_50 rfl (lv_at hl 0 rfl) ?_
  refine lv_bipush (v := 11) hx hb d_Mo_head_51 (by decide) ?_
  obtain ⟨r_11, S_11, hc_11, h⟩ := lf_cE h
  have hFc := lx_free hD hS hA
  refine va_calli (va_runV (As := [.int 11]) (rest := []) ⟨hx, hb, hml, hown, hts⟩ (l_Mo_two l dC dI X _ hc_11) (cwV 1 hts (gwV good_Mq (u_Mq_Mo _ k_Mo_97) (u_Mq_Mo _ k_Mo_98) (u_Mq_Mo _ k_Mo_476) (u_Mq_Mo _ k_Mo_0) (wcs (u_Mq_Mo _ k_Mo_99) (fun _ h => h))) rfl rfl rfl (by decide +kernel) ⟨Nat.le_of_ble_eq_true rfl, Nat.le_of_ble_eq_true rfl⟩) (pv_ofE (X.same _) (fun U z1 z2 => X.mono _ _ U hFc (hEw _ _ hS U z1 z2)) hP hK hD (va_recv hK hP (ci := 12) (q0 := 0) rfl rfl)) rfl rfl hl.1 rfl (lv_room (Nat.le_of_ble_eq_true rfl)) d_Mo_head_53 ⟨by decide, by decide⟩) hS (fun q _ h => hFc q h) hFc (fun r_ u t H locs ht hvm hw hB hz1 hk1 hS => ?_)
  rw [hw]
  obtain ⟨hP, -, hD⟩ := hB
  rw [ht] at hP
  have hD := lx_dj hD hFc
  refine lv_sipush (v := 512) hx hb d_Mo_head_56 (by decide) ?_
  refine lv_icmp_ne (tgt := 215) hx hb d_Mo_head_59 (by decide) (fun c_12 => ?_) (fun c_12 => ?_)
  · have h := lf_f h c_12
    exact hB_215 S_11 _ _ _ h hP hD hS (lv_sub hl [0] rfl)
  · have h := lf_t h c_12
    refine lv_aload_n hx hb d_Mo_head_62 rfl (lv_at hl 0 rfl) ?_
    refine va_get (D := (dC, dI)) (ci := 12) (v := .int S_11.v_c) (C := R_Mo) (T := F_Mo) (N := 66) hx hb hts (fun w h => u_Mq_Mo w (i_Mo w h)) hown hK hP 0 rfl rfl 11 (by decide) (hts _ (u_Mq_Mo _ k_Mo_18)) (fun _ h9 => h9) rfl d_Mo_head_63 ?_
    refine lv_iconst (v := 2) hx hb d_Mo_head_66 (by decide) ?_
    refine lv_icmp_eq (tgt := 87) hx hb d_Mo_head_67 (by decide) (fun c_13 => ?_) (fun c_13 => ?_)
    · have h := lf_t h c_13
      exact hB_87 S_11 _ _ _ h hP hD hS (lv_sub hl [0] rfl)
    · have h := lf_f h c_13
      refine lv_aload_n hx hb d_Mo_head_70 rfl (lv_at hl 0 rfl) ?_
      refine va_get (D := (dC, dI)) (ci := 12) (v := .int S_11.v_c) (C := R_Mo) (T := F_Mo) (N := 66) hx hb hts (fun w h => u_Mq_Mo w (i_Mo w h)) hown hK hP 0 rfl rfl 11 (by decide) (hts _ (u_Mq_Mo _ k_Mo_18)) (fun _ h9 => h9) rfl d_Mo_head_71 ?_
      refine lv_iconst (v := 4) hx hb d_Mo_head_74 (by decide) ?_
      refine lv_icmp_eq (tgt := 87) hx hb d_Mo_head_75 (by decide) (fun c_14 => ?_) (fun c_14 => ?_)
      · have h := lf_t h c_14
        exact hB_87 S_11 _ _ _ h hP hD hS (lv_sub hl [0] rfl)
      · have h := lf_f h c_14
        refine lv_aload_n hx hb d_Mo_head_78 rfl (lv_at hl 0 rfl) ?_
        refine va_get (D := (dC, dI)) (ci := 12) (v := .int S_11.v_c) (C := R_Mo) (T := F_Mo) (N := 66) hx hb hts (fun w h => u_Mq_Mo w (i_Mo w h)) hown hK hP 0 rfl rfl 11 (by decide) (hts _ (u_Mq_Mo _ k_Mo_18)) (fun _ h9 => h9) rfl d_Mo_head_79 ?_
        refine lv_bipush (v := 8) hx hb d_Mo_head_82 (by decide) ?_
        refine lv_icmp_ne (tgt := 215) hx hb d_Mo_head_84 (by decide) (fun c_15 => ?_) (fun c_15 => ?_)
        · have h := lf_f h c_15
          exact hB_215 S_11 _ _ _ h hP hD hS (lv_sub hl [0] rfl)
        · have h := lf_t h c_15
          exact hB_87 S_11 _ _ _ h hP hD hS (lv_sub hl [0] rfl)
set_option maxHeartbeats 4000000 in
set_option maxRecDepth 100000 in
theorem l_Mo_badTables (l : Launch) (dC : Nat → ClassId) (dI : Nat → Nat → Nat) {K : Nat} {M : MA} {E : (Nat → Prop) → State → Prop} (X : lx_X l dC dI K M E) (sz : Nat) {S S' : MS} {r : Int32} (h : f_Mo_badTables K S = some (r, S')) : Met l y_Mo_badTables (.code y_Mo_badTables b_Mo_badTables 4 (some .boolean) :: V_Mq) ({ frames := 4, cells := 0, slots := 0, locals := 84 }) (va_Pc [.ref M.o] (fun U => U.heap.size = sz ∧ at_ (dC, dI) (fun _ => True) (wM M S) (tM M) U ∧ E (va_A (wM M S) sz) U)) (va_Qi (fun (r_ : Int32) (u : Unit) => r_ = r) (fun (u : Unit) t => at_ (dC, dI) (va_A (wM M S) sz) (wM M S') (tM M) t) (va_A (wM M S) sz)) 0 0 (va_A (wM M S) sz) := by
  refine Met.ofW (cc := b_Mo_badTables) (maxL := 4) (ret := (some .boolean)) (by decide) rfl ?_
  intro p e s m args below meth c s₁ B hml hv
  obtain ⟨rfl, hsz, ⟨hP, hK, hD0⟩, hE⟩ := hv
  have hx := B.exec
  have hb := B.bytes
  have hr := B.returns
  have hts0 := atoms_spec (ws := .code y_Mo_badTables b_Mo_badTables 4 (some .boolean) :: V_Mq) B.pre
  have hts : ∀ w ∈ V_Mq, w.before ([.ref M.o] : List Value).toArray s = true := fun w h => hts0 w (List.mem_cons_of_mem _ h)
  have hown : s.vm.findClass R_Mo = some m.cls := findClass_of_methodNamed B.named
  subst hsz
  have hD := hD0.self (sz := s.heap.size)
  generalize hAe : va_A (wM M S) s.heap.size = A at hD hE ⊢
  have hA : ∀ q : Nat, s.heap.size ≤ q → A q := fun q h => by rw [← hAe]; exact Or.inr h
  have hS : va_S A s.heap s.heap [] := va_S.rf
  have hP : va_P (dC, dI) classes (wM M S) s.heap := hP
  have hK : va_K (dC, dI) classes (tM M) s := hK
  have hEw : ∀ (H : Heap) (locs : List Loc), va_S A s.heap H locs → ∀ U : State, U.heap = H → s.WarmedH U.vm → E A U := fun H locs hS U hU hW => X.kept A s U H locs hE hS hU hW
  have hl := lv_entry ([.ref M.o]) (n := 4) (Nat.le_of_ble_eq_true rfl)
  rw [lg_entry_eq]
  generalize (lg_sl ([.ref M.o]) ++ List.replicate (4 - (lg_sl ([.ref M.o])).length) Slot.unset).toArray = ls at hl ⊢
  have hl : lv_has ls 4 [(0, .ref M.o)] := hl
  refine qabs (fun Q hQ => ?_)
  have hB_114 : ∀ (S : MS) (H : Heap) (locs : List Loc) (ls : Array Slot), f_Mo_badTables_114 K S = some (r, S') → va_P (dC, dI) classes (wM M S) H → va_D A (wM M S) → va_S A s.heap H locs → lv_has ls 4 [] → W p l e ({ frames := 4, cells := 0, slots := 0, locals := 84 }) s m ([.ref M.o] : List Value).toArray below meth c H locs 0 0 Q (F0 m 114 ls []) := by
    intro S H locs ls h hP hD hS hl
    rw [f_Mo_badTables_114] at h
    refine lv_iconst (v := 1) hx hb d_Mo_badTables_114 (by decide) ?_
    rw [hQ]
    have e1 : (1 : Int32) = r := congrArg Prod.fst (Option.some.inj h)
    have e2 : S = S' := congrArg Prod.snd (Option.some.inj h)
    have hP := lx_newP e2.symm hP
    have hD := lx_newD e2.symm hD
    exact W.zret (v := 1) hx hb hr rfl (fun t ht hW => ⟨⟨1, (), rfl, e1, by rw [ht]; exact hP, va_K.moved hW.alike hK, hD⟩, hS.F ht⟩) hS.2.2 d_Mo_badTables_115
  have hB_116 : ∀ (rec_2 : Int32 → MS → Option (Int32 × MS)) (hr_2 : ∀ (y_1 : Int32) (S : MS) (H : Heap) (locs : List Loc) (ls : Array Slot), rec_2 y_1 S = some (r, S') → va_P (dC, dI) classes (wM M S) H → va_D A (wM M S) → va_S A s.heap H locs → lv_has ls 4 [(0, .ref M.o), (1, .int y_1)] → W p l e ({ frames := 4, cells := 0, slots := 0, locals := 84 }) s m ([.ref M.o] : List Value).toArray below meth c H locs 0 0 Q (F0 m 2 ls [])), ∀ (y_1 : Int32) (S : MS) (H : Heap) (locs : List Loc) (ls : Array Slot), f_Mo_badTables_116 K rec_2 y_1 S = some (r, S') → va_P (dC, dI) classes (wM M S) H → va_D A (wM M S) → va_S A s.heap H locs → lv_has ls 4 [(0, .ref M.o), (1, .int y_1)] → W p l e ({ frames := 4, cells := 0, slots := 0, locals := 84 }) s m ([.ref M.o] : List Value).toArray below meth c H locs 0 0 Q (F0 m 116 ls []) := by
    intro rec_2 hr_2 y_1 S H locs ls h hP hD hS hl
    rw [f_Mo_badTables_116] at h
    obtain ⟨x_18, ex_18, h⟩ := lf_lX h
    refine lv_iinc (v := x_18) (lv' := [(1, .int x_18), (0, .ref M.o)]) hx hb d_Mo_badTables_116 hl (k := 1) rfl (by rw [ex_18]; rfl) (by decide) rfl (fun ls hl => ?_)
    refine lv_goto (tgt := 2) hx hb d_Mo_badTables_119 (by decide) ?_
    exact hr_2 x_18 S _ _ _ h hP hD hS (lv_sub hl [1, 0] rfl)
  have hB_78 : ∀ (rec_2 : Int32 → MS → Option (Int32 × MS)) (hr_2 : ∀ (y_1 : Int32) (S : MS) (H : Heap) (locs : List Loc) (ls : Array Slot), rec_2 y_1 S = some (r, S') → va_P (dC, dI) classes (wM M S) H → va_D A (wM M S) → va_S A s.heap H locs → lv_has ls 4 [(0, .ref M.o), (1, .int y_1)] → W p l e ({ frames := 4, cells := 0, slots := 0, locals := 84 }) s m ([.ref M.o] : List Value).toArray below meth c H locs 0 0 Q (F0 m 2 ls [])), ∀ (y_1 : Int32) (z_0 : Int32) (S : MS) (H : Heap) (locs : List Loc) (ls : Array Slot), f_Mo_badTables_78 K rec_2 y_1 z_0 S = some (r, S') → va_P (dC, dI) classes (wM M S) H → va_D A (wM M S) → va_S A s.heap H locs → lv_has ls 4 [(0, .ref M.o), (1, .int y_1)] → W p l e ({ frames := 4, cells := 0, slots := 0, locals := 84 }) s m ([.ref M.o] : List Value).toArray below meth c H locs 0 0 Q (F0 m 78 ls [.int z_0]) := by
    intro rec_2 hr_2 y_1 z_0 S H locs ls h hP hD hS hl
    rw [f_Mo_badTables_78] at h
    refine lv_istore_n (lv' := [(3, .int z_0), (0, .ref M.o), (1, .int y_1)]) hx hb d_Mo_badTables_78 rfl hl (by decide) rfl (fun ls hl => ?_)
    refine lv_iload_n hx hb d_Mo_badTables_79 rfl (lv_at hl 0 rfl) ?_
    refine lv_if_eq (tgt := 114) hx hb d_Mo_badTables_80 (by decide) (fun c_11 => ?_) (fun c_11 => ?_)
    · have h := lf_t h c_11
      exact hB_114 S _ _ _ h hP hD hS (lv_sub hl [] rfl)
    · have h := lf_f h c_11
      refine lv_aload_n hx hb d_Mo_badTables_83 rfl (lv_at hl 1 rfl) ?_
      refine va_get (D := (dC, dI)) (ci := 12) (v := .int S.v_y) (C := R_Mo) (T := F_Mo) (N := 66) hx hb hts (fun w h => u_Mq_Mo w (i_Mo w h)) hown hK hP 0 rfl rfl 13 (by decide) (hts _ (u_Mq_Mo _ k_Mo_20)) (fun _ h9 => h9) rfl d_Mo_badTables_84 ?_
      refine lv_iconst (v := 2) hx hb d_Mo_badTables_87 (by decide) ?_
      refine lv_icmp_ne (tgt := 116) hx hb d_Mo_badTables_88 (by decide) (fun c_12 => ?_) (fun c_12 => ?_)
      · have h := lf_f h c_12
        exact hB_116 _ hr_2 y_1 S _ _ _ h hP hD hS (lv_sub hl [1, 2] rfl)
      · have h := lf_t h c_12
        refine lv_aload_n hx hb d_Mo_badTables_91 rfl (lv_at hl 1 rfl) ?_
        refine lv_aload_n hx hb d_Mo_badTables_92 rfl (lv_at hl 1 rfl) ?_
        refine lv_iconst (v := 0) hx hb d_Mo_badTables_93 (by decide) ?_
        refine lv_iload_n hx hb d_Mo_badTables_94 rfl (lv_at hl 2 rfl) ?_
        obtain ⟨r_13, S_13, hc_13, h⟩ := lf_cE h
        have hFc := lx_free hD hS hA
        refine va_calli (va_runV (As := [.int 0, .int y_1]) (rest := [.ref M.o]) ⟨hx, hb, hml, hown, hts⟩ (l_Mo_entryAt l dC dI X _ hc_13) (cwV 2 hts (gwV good_Mq (u_Mq_Mo _ k_Mo_113) (u_Mq_Mo _ k_Mo_114) (u_Mq_Mo _ k_Mo_479) (u_Mq_Mo _ k_Mo_0) (wcs (u_Mq_Mo _ k_Mo_115) (fun _ h => h))) rfl rfl rfl (by decide +kernel) ⟨Nat.le_of_ble_eq_true rfl, Nat.le_of_ble_eq_true rfl⟩) (pv_ofE (X.same _) (fun U z1 z2 => X.mono _ _ U hFc (hEw _ _ hS U z1 z2)) hP hK hD (va_recv hK hP (ci := 12) (q0 := 0) rfl rfl)) rfl rfl hl.1 rfl (lv_room (Nat.le_of_ble_eq_true rfl)) d_Mo_badTables_95 ⟨by decide, by decide⟩) hS (fun q _ h => hFc q h) hFc (fun r_ u t H locs ht hvm hw hB hz1 hk1 hS => ?_)
        rw [hw]
        obtain ⟨hP, -, hD⟩ := hB
        rw [ht] at hP
        have hD := lx_dj hD hFc
        obtain ⟨r_14, S_14, hc_14, h⟩ := lf_cE h
        have hFc := lx_free hD hS hA
        refine va_calli (va_runV (As := [.int r_13]) (rest := []) ⟨hx, hb, hml, hown, hts⟩ (l_Mo_four l dC dI X _ hc_14) (cwV 1 hts (gwV good_Mq (u_Mq_Mo _ k_Mo_100) (u_Mq_Mo _ k_Mo_101) (u_Mq_Mo _ k_Mo_477) (u_Mq_Mo _ k_Mo_0) (wcs (u_Mq_Mo _ k_Mo_102) (fun _ h => h))) rfl rfl rfl (by decide +kernel) ⟨Nat.le_of_ble_eq_true rfl, Nat.le_of_ble_eq_true rfl⟩) (pv_ofE (X.same _) (fun U z1 z2 => X.mono _ _ U hFc (hEw _ _ hS U z1 z2)) hP hK hD (va_recv hK hP (ci := 12) (q0 := 0) rfl rfl)) rfl rfl hl.1 rfl (lv_room (Nat.le_of_ble_eq_true rfl)) d_Mo_badTables_98 ⟨by decide, by decide⟩) hS (fun q _ h => hFc q h) hFc (fun r_ u t H locs ht hvm hw hB hz1 hk1 hS => ?_)
        rw [hw]
        obtain ⟨hP, -, hD⟩ := hB
        rw [ht] at hP
        have hD := lx_dj hD hFc
        refine lv_aload_n hx hb d_Mo_badTables_101 rfl (lv_at hl 1 rfl) ?_
        refine lv_aload_n hx hb d_Mo_badTables_102 rfl (lv_at hl 1 rfl) ?_
        refine lv_iconst (v := 1) hx hb d_Mo_badTables_103 (by decide) ?_
        refine lv_iload_n hx hb d_Mo_badTables_104 rfl (lv_at hl 2 rfl) ?_
        obtain ⟨r_15, S_15, hc_15, h⟩ := lf_cE h
        have hFc := lx_free hD hS hA
        refine va_calli (va_runV (As := [.int 1, .int y_1]) (rest := [.ref M.o, .int r_14]) ⟨hx, hb, hml, hown, hts⟩ (l_Mo_entryAt l dC dI X _ hc_15) (cwV 2 hts (gwV good_Mq (u_Mq_Mo _ k_Mo_113) (u_Mq_Mo _ k_Mo_114) (u_Mq_Mo _ k_Mo_479) (u_Mq_Mo _ k_Mo_0) (wcs (u_Mq_Mo _ k_Mo_115) (fun _ h => h))) rfl rfl rfl (by decide +kernel) ⟨Nat.le_of_ble_eq_true rfl, Nat.le_of_ble_eq_true rfl⟩) (pv_ofE (X.same _) (fun U z1 z2 => X.mono _ _ U hFc (hEw _ _ hS U z1 z2)) hP hK hD (va_recv hK hP (ci := 12) (q0 := 0) rfl rfl)) rfl rfl hl.1 rfl (lv_room (Nat.le_of_ble_eq_true rfl)) d_Mo_badTables_105 ⟨by decide, by decide⟩) hS (fun q _ h => hFc q h) hFc (fun r_ u t H locs ht hvm hw hB hz1 hk1 hS => ?_)
        rw [hw]
        obtain ⟨hP, -, hD⟩ := hB
        rw [ht] at hP
        have hD := lx_dj hD hFc
        obtain ⟨r_16, S_16, hc_16, h⟩ := lf_cE h
        have hFc := lx_free hD hS hA
        refine va_calli (va_runV (As := [.int r_15]) (rest := [.int r_14]) ⟨hx, hb, hml, hown, hts⟩ (l_Mo_four l dC dI X _ hc_16) (cwV 1 hts (gwV good_Mq (u_Mq_Mo _ k_Mo_100) (u_Mq_Mo _ k_Mo_101) (u_Mq_Mo _ k_Mo_477) (u_Mq_Mo _ k_Mo_0) (wcs (u_Mq_Mo _ k_Mo_102) (fun _ h => h))) rfl rfl rfl (by decide +kernel) ⟨Nat.le_of_ble_eq_true rfl, Nat.le_of_ble_eq_true rfl⟩) (pv_ofE (X.same _) (fun U z1 z2 => X.mono _ _ U hFc (hEw _ _ hS U z1 z2)) hP hK hD (va_recv hK hP (ci := 12) (q0 := 0) rfl rfl)) rfl rfl hl.1 rfl (lv_room (Nat.le_of_ble_eq_true rfl)) d_Mo_badTables_108 ⟨by decide, by decide⟩) hS (fun q _ h => hFc q h) hFc (fun r_ u t H locs ht hvm hw hB hz1 hk1 hS => ?_)
        rw [hw]
        obtain ⟨hP, -, hD⟩ := hB
        rw [ht] at hP
        have hD := lx_dj hD hFc
        refine lv_icmp_eq (tgt := 116) hx hb d_Mo_badTables_111 (by decide) (fun c_17 => ?_) (fun c_17 => ?_)
        · have h := lf_t h c_17
          exact hB_116 _ hr_2 y_1 S_16 _ _ _ h hP hD hS (lv_sub hl [1, 2] rfl)
        · have h := lf_f h c_17
          exact hB_114 S_16 _ _ _ h hP hD hS (lv_sub hl [] rfl)
  have hB_73 : ∀ (rec_2 : Int32 → MS → Option (Int32 × MS)) (hr_2 : ∀ (y_1 : Int32) (S : MS) (H : Heap) (locs : List Loc) (ls : Array Slot), rec_2 y_1 S = some (r, S') → va_P (dC, dI) classes (wM M S) H → va_D A (wM M S) → va_S A s.heap H locs → lv_has ls 4 [(0, .ref M.o), (1, .int y_1)] → W p l e ({ frames := 4, cells := 0, slots := 0, locals := 84 }) s m ([.ref M.o] : List Value).toArray below meth c H locs 0 0 Q (F0 m 2 ls [])), ∀ (y_1 : Int32) (S : MS) (H : Heap) (locs : List Loc) (ls : Array Slot), f_Mo_badTables_73 K rec_2 y_1 S = some (r, S') → va_P (dC, dI) classes (wM M S) H → va_D A (wM M S) → va_S A s.heap H locs → lv_has ls 4 [(0, .ref M.o), (1, .int y_1)] → W p l e ({ frames := 4, cells := 0, slots := 0, locals := 84 }) s m ([.ref M.o] : List Value).toArray below meth c H locs 0 0 Q (F0 m 73 ls []) := by
    intro rec_2 hr_2 y_1 S H locs ls h hP hD hS hl
    rw [f_Mo_badTables_73] at h
    refine lv_iconst (v := 1) hx hb d_Mo_badTables_73 (by decide) ?_
    refine lv_goto (tgt := 78) hx hb d_Mo_badTables_74 (by decide) ?_
    exact hB_78 _ hr_2 y_1 1 S _ _ _ h hP hD hS (lv_sub hl [0, 1] rfl)
  have hB_2 : ∀ (k : Nat), ∀ (y_1 : Int32) (S : MS) (H : Heap) (locs : List Loc) (ls : Array Slot), f_Mo_badTables_2 K k y_1 S = some (r, S') → va_P (dC, dI) classes (wM M S) H → va_D A (wM M S) → va_S A s.heap H locs → lv_has ls 4 [(0, .ref M.o), (1, .int y_1)] → W p l e ({ frames := 4, cells := 0, slots := 0, locals := 84 }) s m ([.ref M.o] : List Value).toArray below meth c H locs 0 0 Q (F0 m 2 ls []) := by
    intro k
    induction k with
    | zero => intro y_1 S H locs ls h; exact lf_no h
    | succ k hr_2 =>
      intro y_1 S H locs ls h hP hD hS hl
      rw [f_Mo_badTables_2] at h
      refine lv_iload_n hx hb d_Mo_badTables_2 rfl (lv_at hl 1 rfl) ?_
      refine lv_aload_n hx hb d_Mo_badTables_3 rfl (lv_at hl 0 rfl) ?_
      refine va_get (D := (dC, dI)) (ci := 12) (v := .int S.v_k) (C := R_Mo) (T := F_Mo) (N := 66) hx hb hts (fun w h => u_Mq_Mo w (i_Mo w h)) hown hK hP 0 rfl rfl 17 (by decide) (hts _ (u_Mq_Mo _ k_Mo_24)) (fun _ h9 => h9) rfl d_Mo_badTables_4 ?_
      refine lv_iconst (v := 2) hx hb d_Mo_badTables_7 (by decide) ?_
      refine lv_iadd hx hb d_Mo_badTables_8 ?_
      refine lv_icmp_ge (tgt := 122) hx hb d_Mo_badTables_9 (by decide) (fun c_1 => ?_) (fun c_1 => ?_)
      · have h := lf_t h c_1
        refine lv_iconst (v := 0) hx hb d_Mo_badTables_122 (by decide) ?_
        rw [hQ]
        have e1 : (0 : Int32) = r := congrArg Prod.fst (Option.some.inj h)
        have e2 : S = S' := congrArg Prod.snd (Option.some.inj h)
        have hP := lx_newP e2.symm hP
        have hD := lx_newD e2.symm hD
        exact W.zret (v := 0) hx hb hr rfl (fun t ht hW => ⟨⟨0, (), rfl, e1, by rw [ht]; exact hP, va_K.moved hW.alike hK, hD⟩, hS.F ht⟩) hS.2.2 d_Mo_badTables_123
      · have h := lf_f h c_1
        refine lv_aload_n hx hb d_Mo_badTables_12 rfl (lv_at hl 0 rfl) ?_
        refine lv_iload_n hx hb d_Mo_badTables_13 rfl (lv_at hl 1 rfl) ?_
        obtain ⟨r_2, S_2, hc_2, h⟩ := lf_cE h
        have hFc := lx_free hD hS hA
        refine va_calli (va_runV (As := [.int y_1]) (rest := []) ⟨hx, hb, hml, hown, hts⟩ (l_Mo_entry l dC dI X _ hc_2) (cwV 1 hts (gwV good_Mq (u_Mq_Mo _ k_Mo_110) (u_Mq_Mo _ k_Mo_111) (u_Mq_Mo _ k_Mo_480) (u_Mq_Mo _ k_Mo_0) (wcs (u_Mq_Mo _ k_Mo_112) (fun _ h => h))) rfl rfl rfl (by decide +kernel) ⟨Nat.le_of_ble_eq_true rfl, Nat.le_of_ble_eq_true rfl⟩) (pv_ofE (X.same _) (fun U z1 z2 => X.mono _ _ U hFc (hEw _ _ hS U z1 z2)) hP hK hD (va_recv hK hP (ci := 12) (q0 := 0) rfl rfl)) rfl rfl hl.1 rfl (lv_room (Nat.le_of_ble_eq_true rfl)) d_Mo_badTables_14 ⟨by decide, by decide⟩) hS (fun q _ h => hFc q h) hFc (fun r_ u t H locs ht hvm hw hB hz1 hk1 hS => ?_)
        rw [hw]
        obtain ⟨hP, -, hD⟩ := hB
        rw [ht] at hP
        have hD := lx_dj hD hFc
        refine lv_istore_n (lv' := [(2, .int r_2), (0, .ref M.o), (1, .int y_1)]) hx hb d_Mo_badTables_17 rfl hl (by decide) rfl (fun ls hl => ?_)
        refine lv_iload_n hx hb d_Mo_badTables_18 rfl (lv_at hl 2 rfl) ?_
        refine lv_if_ne (tgt := 36) hx hb d_Mo_badTables_19 (by decide) (fun c_3 => ?_) (fun c_3 => ?_)
        · have h := lf_f h c_3
          refine lv_iload_n hx hb d_Mo_badTables_36 rfl (lv_at hl 2 rfl) ?_
          refine lv_iconst (v := 1) hx hb d_Mo_badTables_37 (by decide) ?_
          refine lv_icmp_ne (tgt := 55) hx hb d_Mo_badTables_38 (by decide) (fun c_4 => ?_) (fun c_4 => ?_)
          · have h := lf_f h c_4
            refine lv_iload_n hx hb d_Mo_badTables_55 rfl (lv_at hl 0 rfl) ?_
            refine lv_if_eq (tgt := 73) hx hb d_Mo_badTables_56 (by decide) (fun c_5 => ?_) (fun c_5 => ?_)
            · have h := lf_t h c_5
              exact hB_73 _ hr_2 y_1 S_2 _ _ _ h hP hD hS (lv_sub hl [1, 2] rfl)
            · have h := lf_f h c_5
              refine lv_aload_n hx hb d_Mo_badTables_59 rfl (lv_at hl 1 rfl) ?_
              refine lv_iload_n hx hb d_Mo_badTables_60 rfl (lv_at hl 0 rfl) ?_
              obtain ⟨r_6, S_6, hc_6, h⟩ := lf_cE h
              have hFc := lx_free hD hS hA
              refine va_calli (va_runV (As := [.int r_2]) (rest := []) ⟨hx, hb, hml, hown, hts⟩ (l_Mo_isCluster l dC dI X _ hc_6) (cwV 1 hts (gwV good_Mq (u_Mq_Mo _ k_Mo_104) (u_Mq_Mo _ k_Mo_105) (u_Mq_Mo _ k_Mo_482) (u_Mq_Mo _ k_Mo_0) (wcs (u_Mq_Mo _ k_Mo_106) (fun _ h => h))) rfl rfl rfl (by decide +kernel) ⟨Nat.le_of_ble_eq_true rfl, Nat.le_of_ble_eq_true rfl⟩) (pv_ofE (X.same _) (fun U z1 z2 => X.mono _ _ U hFc (hEw _ _ hS U z1 z2)) hP hK hD (va_recv hK hP (ci := 12) (q0 := 0) rfl rfl)) rfl rfl hl.1 rfl (lv_room (Nat.le_of_ble_eq_true rfl)) d_Mo_badTables_61 ⟨by decide, by decide⟩) hS (fun q _ h => hFc q h) hFc (fun r_ u t H locs ht hvm hw hB hz1 hk1 hS => ?_)
              rw [hw]
              obtain ⟨hP, -, hD⟩ := hB
              rw [ht] at hP
              have hD := lx_dj hD hFc
              refine lv_if_ne (tgt := 73) hx hb d_Mo_badTables_64 (by decide) (fun c_7 => ?_) (fun c_7 => ?_)
              · have h := lf_f h c_7
                exact hB_73 _ hr_2 y_1 S_6 _ _ _ h hP hD hS (lv_sub hl [1, 2] rfl)
              · have h := lf_t h c_7
                refine lv_iload_n hx hb d_Mo_badTables_67 rfl (lv_at hl 0 rfl) ?_
                refine lv_ldc (v := 268435448) hx hb hown (hts _ (u_Mq_Mo _ k_Mo_117)) d_Mo_badTables_68 ?_
                refine lv_icmp_lt (tgt := 77) hx hb d_Mo_badTables_70 (by decide) (fun c_8 => ?_) (fun c_8 => ?_)
                · have h := lf_t h c_8
                  refine lv_iconst (v := 0) hx hb d_Mo_badTables_77 (by decide) ?_
                  exact hB_78 _ hr_2 y_1 0 S_6 _ _ _ h hP hD hS (lv_sub hl [1, 2] rfl)
                · have h := lf_f h c_8
                  exact hB_73 _ hr_2 y_1 S_6 _ _ _ h hP hD hS (lv_sub hl [1, 2] rfl)
          · have h := lf_t h c_4
            refine lv_iload_n hx hb d_Mo_badTables_41 rfl (lv_at hl 0 rfl) ?_
            refine lv_ldc (v := 268435455) hx hb hown (hts _ (u_Mq_Mo _ k_Mo_116)) d_Mo_badTables_42 ?_
            refine lv_icmp_ne (tgt := 51) hx hb d_Mo_badTables_44 (by decide) (fun c_9 => ?_) (fun c_9 => ?_)
            · have h := lf_f h c_9
              refine lv_iconst (v := 0) hx hb d_Mo_badTables_51 (by decide) ?_
              refine lv_goto (tgt := 78) hx hb d_Mo_badTables_52 (by decide) ?_
              exact hB_78 _ hr_2 y_1 0 S_2 _ _ _ h hP hD hS (lv_sub hl [1, 2] rfl)
            · have h := lf_t h c_9
              refine lv_iconst (v := 1) hx hb d_Mo_badTables_47 (by decide) ?_
              refine lv_goto (tgt := 78) hx hb d_Mo_badTables_48 (by decide) ?_
              exact hB_78 _ hr_2 y_1 1 S_2 _ _ _ h hP hD hS (lv_sub hl [1, 2] rfl)
        · have h := lf_t h c_3
          refine lv_iload_n hx hb d_Mo_badTables_22 rfl (lv_at hl 0 rfl) ?_
          refine lv_ldc (v := 268435448) hx hb hown (hts _ (u_Mq_Mo _ k_Mo_117)) d_Mo_badTables_23 ?_
          refine lv_icmp_ne (tgt := 32) hx hb d_Mo_badTables_25 (by decide) (fun c_10 => ?_) (fun c_10 => ?_)
          · have h := lf_f h c_10
            refine lv_iconst (v := 0) hx hb d_Mo_badTables_32 (by decide) ?_
            refine lv_goto (tgt := 78) hx hb d_Mo_badTables_33 (by decide) ?_
            exact hB_78 _ hr_2 y_1 0 S_2 _ _ _ h hP hD hS (lv_sub hl [1, 2] rfl)
          · have h := lf_t h c_10
            refine lv_iconst (v := 1) hx hb d_Mo_badTables_28 (by decide) ?_
            refine lv_goto (tgt := 78) hx hb d_Mo_badTables_29 (by decide) ?_
            exact hB_78 _ hr_2 y_1 1 S_2 _ _ _ h hP hD hS (lv_sub hl [1, 2] rfl)
  rw [f_Mo_badTables] at h
  refine lv_iconst (v := 0) hx hb d_Mo_badTables_0 (by decide) ?_
  refine lv_istore_n (lv' := [(1, .int 0), (0, .ref M.o)]) hx hb d_Mo_badTables_1 rfl hl (by decide) rfl (fun ls hl => ?_)
  exact hB_2 K 0 S _ _ _ h hP hD hS (lv_sub hl [1, 0] rfl)
set_option maxHeartbeats 4000000 in
set_option maxRecDepth 100000 in
theorem l_Mo_follows (l : Launch) (dC : Nat → ClassId) (dI : Nat → Nat → Nat) {K : Nat} {M : MA} {E : (Nat → Prop) → State → Prop} (X : lx_X l dC dI K M E) (sz : Nat) {S S' : MS} {p0 : Int32} {r : Int32} (h : f_Mo_follows K S p0 = some (r, S')) : Met l y_Mo_follows (.code y_Mo_follows b_Mo_follows 3 (some .boolean) :: V_Mq) ({ frames := 4, cells := 0, slots := 0, locals := 84 }) (va_Pc [.ref M.o, .int p0] (fun U => U.heap.size = sz ∧ at_ (dC, dI) (fun _ => True) (wM M S) (tM M) U ∧ E (va_A (wM M S) sz) U)) (va_Qi (fun (r_ : Int32) (u : Unit) => r_ = r) (fun (u : Unit) t => at_ (dC, dI) (va_A (wM M S) sz) (wM M S') (tM M) t) (va_A (wM M S) sz)) 0 0 (va_A (wM M S) sz) := by
  refine Met.ofW (cc := b_Mo_follows) (maxL := 3) (ret := (some .boolean)) (by decide) rfl ?_
  intro p e s m args below meth c s₁ B hml hv
  obtain ⟨rfl, hsz, ⟨hP, hK, hD0⟩, hE⟩ := hv
  have hx := B.exec
  have hb := B.bytes
  have hr := B.returns
  have hts0 := atoms_spec (ws := .code y_Mo_follows b_Mo_follows 3 (some .boolean) :: V_Mq) B.pre
  have hts : ∀ w ∈ V_Mq, w.before ([.ref M.o, .int p0] : List Value).toArray s = true := fun w h => hts0 w (List.mem_cons_of_mem _ h)
  have hown : s.vm.findClass R_Mo = some m.cls := findClass_of_methodNamed B.named
  subst hsz
  have hD := hD0.self (sz := s.heap.size)
  generalize hAe : va_A (wM M S) s.heap.size = A at hD hE ⊢
  have hA : ∀ q : Nat, s.heap.size ≤ q → A q := fun q h => by rw [← hAe]; exact Or.inr h
  have hS : va_S A s.heap s.heap [] := va_S.rf
  have hP : va_P (dC, dI) classes (wM M S) s.heap := hP
  have hK : va_K (dC, dI) classes (tM M) s := hK
  have hEw : ∀ (H : Heap) (locs : List Loc), va_S A s.heap H locs → ∀ U : State, U.heap = H → s.WarmedH U.vm → E A U := fun H locs hS U hU hW => X.kept A s U H locs hE hS hU hW
  have hl := lv_entry ([.ref M.o, .int p0]) (n := 3) (Nat.le_of_ble_eq_true rfl)
  rw [lg_entry_eq]
  generalize (lg_sl ([.ref M.o, .int p0]) ++ List.replicate (3 - (lg_sl ([.ref M.o, .int p0])).length) Slot.unset).toArray = ls at hl ⊢
  have hl : lv_has ls 3 [(0, .ref M.o), (1, .int p0)] := hl
  refine qabs (fun Q hQ => ?_)
  have hB_32 : ∀ (S : MS) (H : Heap) (locs : List Loc) (ls : Array Slot), f_Mo_follows_32 K S = some (r, S') → va_P (dC, dI) classes (wM M S) H → va_D A (wM M S) → va_S A s.heap H locs → lv_has ls 3 [] → W p l e ({ frames := 4, cells := 0, slots := 0, locals := 84 }) s m ([.ref M.o, .int p0] : List Value).toArray below meth c H locs 0 0 Q (F0 m 32 ls []) := by
    intro S H locs ls h hP hD hS hl
    rw [f_Mo_follows_32] at h
    refine lv_iconst (v := 0) hx hb d_Mo_follows_32 (by decide) ?_
    rw [hQ]
    have e1 : (0 : Int32) = r := congrArg Prod.fst (Option.some.inj h)
    have e2 : S = S' := congrArg Prod.snd (Option.some.inj h)
    have hP := lx_newP e2.symm hP
    have hD := lx_newD e2.symm hD
    exact W.zret (v := 0) hx hb hr rfl (fun t ht hW => ⟨⟨0, (), rfl, e1, by rw [ht]; exact hP, va_K.moved hW.alike hK, hD⟩, hS.F ht⟩) hS.2.2 d_Mo_follows_33
  have hB_7 : ∀ (k : Nat), ∀ (y_2 : Int32) (S : MS) (H : Heap) (locs : List Loc) (ls : Array Slot), f_Mo_follows_7 K k y_2 S = some (r, S') → va_P (dC, dI) classes (wM M S) H → va_D A (wM M S) → va_S A s.heap H locs → lv_has ls 3 [(0, .ref M.o), (2, .int y_2)] → W p l e ({ frames := 4, cells := 0, slots := 0, locals := 84 }) s m ([.ref M.o, .int p0] : List Value).toArray below meth c H locs 0 0 Q (F0 m 7 ls []) := by
    intro k
    induction k with
    | zero => intro y_2 S H locs ls h; exact lf_no h
    | succ k hr_7 =>
      intro y_2 S H locs ls h hP hD hS hl
      rw [f_Mo_follows_7] at h
      refine lv_aload_n hx hb d_Mo_follows_7 rfl (lv_at hl 0 rfl) ?_
      refine lv_iload_n hx hb d_Mo_follows_8 rfl (lv_at hl 1 rfl) ?_
      obtain ⟨r_2, S_2, hc_2, h⟩ := lf_cE h
      have hFc := lx_free hD hS hA
      refine va_calli (va_runV (As := [.int y_2]) (rest := []) ⟨hx, hb, hml, hown, hts⟩ (l_Mo_isCluster l dC dI X _ hc_2) (cwV 1 hts (gwV good_Mq (u_Mq_Mo _ k_Mo_104) (u_Mq_Mo _ k_Mo_105) (u_Mq_Mo _ k_Mo_482) (u_Mq_Mo _ k_Mo_0) (wcs (u_Mq_Mo _ k_Mo_106) (fun _ h => h))) rfl rfl rfl (by decide +kernel) ⟨Nat.le_of_ble_eq_true rfl, Nat.le_of_ble_eq_true rfl⟩) (pv_ofE (X.same _) (fun U z1 z2 => X.mono _ _ U hFc (hEw _ _ hS U z1 z2)) hP hK hD (va_recv hK hP (ci := 12) (q0 := 0) rfl rfl)) rfl rfl hl.1 rfl (lv_room (Nat.le_of_ble_eq_true rfl)) d_Mo_follows_9 ⟨by decide, by decide⟩) hS (fun q _ h => hFc q h) hFc (fun r_ u t H locs ht hvm hw hB hz1 hk1 hS => ?_)
      rw [hw]
      obtain ⟨hP, -, hD⟩ := hB
      rw [ht] at hP
      have hD := lx_dj hD hFc
      refine lv_if_eq (tgt := 32) hx hb d_Mo_follows_12 (by decide) (fun c_3 => ?_) (fun c_3 => ?_)
      · have h := lf_t h c_3
        exact hB_32 S_2 _ _ _ h hP hD hS (lv_sub hl [] rfl)
      · have h := lf_f h c_3
        refine lv_aload_n hx hb d_Mo_follows_15 rfl (lv_at hl 0 rfl) ?_
        refine va_get (D := (dC, dI)) (ci := 12) (v := .ref M.a_chained) (C := R_Mo) (T := F_Mo) (N := 66) hx hb hts (fun w h => u_Mq_Mo w (i_Mo w h)) hown hK hP 0 rfl rfl 23 (by decide) (hts _ (u_Mq_Mo _ k_Mo_30)) (fun _ h9 => h9) rfl d_Mo_follows_16 ?_
        refine lv_iload_n hx hb d_Mo_follows_19 rfl (lv_at hl 1 rfl) ?_
        obtain ⟨g_4, h⟩ := lf_gE h
        refine va_zald hx hb hK hP 5 4 rfl rfl g_4 d_Mo_follows_20 ?_
        refine lv_if_ne (tgt := 32) hx hb d_Mo_follows_21 (by decide) (fun c_5 => ?_) (fun c_5 => ?_)
        · have h := lf_f h c_5
          exact hB_32 S_2 _ _ _ h hP hD hS (lv_sub hl [] rfl)
        · have h := lf_t h c_5
          refine lv_aload_n hx hb d_Mo_follows_24 rfl (lv_at hl 0 rfl) ?_
          refine lv_iload_n hx hb d_Mo_follows_25 rfl (lv_at hl 1 rfl) ?_
          obtain ⟨r_6, S_6, hc_6, h⟩ := lf_cE h
          have hFc := lx_free hD hS hA
          refine va_calli (va_runV (As := [.int y_2]) (rest := []) ⟨hx, hb, hml, hown, hts⟩ (l_Mo_entry l dC dI X _ hc_6) (cwV 1 hts (gwV good_Mq (u_Mq_Mo _ k_Mo_110) (u_Mq_Mo _ k_Mo_111) (u_Mq_Mo _ k_Mo_480) (u_Mq_Mo _ k_Mo_0) (wcs (u_Mq_Mo _ k_Mo_112) (fun _ h => h))) rfl rfl rfl (by decide +kernel) ⟨Nat.le_of_ble_eq_true rfl, Nat.le_of_ble_eq_true rfl⟩) (pv_ofE (X.same _) (fun U z1 z2 => X.mono _ _ U hFc (hEw _ _ hS U z1 z2)) hP hK hD (va_recv hK hP (ci := 12) (q0 := 0) rfl rfl)) rfl rfl hl.1 rfl (lv_room (Nat.le_of_ble_eq_true rfl)) d_Mo_follows_26 ⟨by decide, by decide⟩) hS (fun q _ h => hFc q h) hFc (fun r_ u t H locs ht hvm hw hB hz1 hk1 hS => ?_)
          rw [hw]
          obtain ⟨hP, -, hD⟩ := hB
          rw [ht] at hP
          have hD := lx_dj hD hFc
          refine lv_if_ne (tgt := 34) hx hb d_Mo_follows_29 (by decide) (fun c_7 => ?_) (fun c_7 => ?_)
          · have h := lf_f h c_7
            refine lv_aload_n hx hb d_Mo_follows_34 rfl (lv_at hl 0 rfl) ?_
            refine va_get (D := (dC, dI)) (ci := 12) (v := .ref M.a_chained) (C := R_Mo) (T := F_Mo) (N := 66) hx hb hts (fun w h => u_Mq_Mo w (i_Mo w h)) hown hK hP 0 rfl rfl 23 (by decide) (hts _ (u_Mq_Mo _ k_Mo_30)) (fun _ h9 => h9) rfl d_Mo_follows_35 ?_
            refine lv_iload_n hx hb d_Mo_follows_38 rfl (lv_at hl 1 rfl) ?_
            refine lv_iconst (v := 1) hx hb d_Mo_follows_39 (by decide) ?_
            obtain ⟨g_8, h⟩ := lf_gE h
            refine va_zast hx hb hK hP hD hS 5 4 rfl rfl g_8 d_Mo_follows_40 (fun H locs hP hD hS => ?_)
            obtain ⟨S_9, eS_9, h⟩ := lf_lX h
            have hP := lx_newP eS_9 hP
            have hD := lx_newD eS_9 hD
            refine lv_aload_n hx hb d_Mo_follows_41 rfl (lv_at hl 0 rfl) ?_
            refine va_get (D := (dC, dI)) (ci := 12) (v := .ref M.a_chain) (C := R_Mo) (T := F_Mo) (N := 66) hx hb hts (fun w h => u_Mq_Mo w (i_Mo w h)) hown hK hP 0 rfl rfl 33 (by decide) (hts _ (u_Mq_Mo _ k_Mo_40)) (fun _ h9 => h9) rfl d_Mo_follows_42 ?_
            refine lv_aload_n hx hb d_Mo_follows_45 rfl (lv_at hl 0 rfl) ?_
            refine va_get (D := (dC, dI)) (ci := 12) (v := .int S_9.v_links) (C := R_Mo) (T := F_Mo) (N := 66) hx hb hts (fun w h => u_Mq_Mo w (i_Mo w h)) hown hK hP 0 rfl rfl 35 (by decide) (hts _ (u_Mq_Mo _ k_Mo_42)) (fun _ h9 => h9) rfl d_Mo_follows_46 ?_
            refine lv_iload_n hx hb d_Mo_follows_49 rfl (lv_at hl 1 rfl) ?_
            obtain ⟨g_10, h⟩ := lf_gE h
            refine va_iast hx hb hK hP hD hS 15 14 rfl rfl g_10 d_Mo_follows_50 (fun H locs hP hD hS => ?_)
            obtain ⟨S_11, eS_11, h⟩ := lf_lX h
            have hP := lx_newP eS_11 hP
            have hD := lx_newD eS_11 hD
            refine lv_aload_n hx hb d_Mo_follows_51 rfl (lv_at hl 0 rfl) ?_
            refine lv_dup hx hb d_Mo_follows_52 rfl ?_
            refine va_get (D := (dC, dI)) (ci := 12) (v := .int S_11.v_links) (C := R_Mo) (T := F_Mo) (N := 66) hx hb hts (fun w h => u_Mq_Mo w (i_Mo w h)) hown hK hP 0 rfl rfl 35 (by decide) (hts _ (u_Mq_Mo _ k_Mo_42)) (fun _ h9 => h9) rfl d_Mo_follows_53 ?_
            refine lv_iconst (v := 1) hx hb d_Mo_follows_56 (by decide) ?_
            refine lv_iadd hx hb d_Mo_follows_57 ?_
            refine va_put (D := (dC, dI)) (ci := 12) (v := .int (S_11.v_links + 1)) (ty := .int) (C := R_Mo) (T := F_Mo) (N := 66) hx hb hts (fun w h => u_Mq_Mo w (i_Mo w h)) t_Mo t_Mo_ok n_Mo hown hK hP hD hS 0 rfl rfl 35 (by decide) (hts _ (u_Mq_Mo _ k_Mo_42)) (fun _ h9 => h9) rfl (by decide +kernel) rfl rfl (Nat.le_of_ble_eq_true rfl) d_Mo_follows_58 (fun H locs hP hD hS => ?_)
            obtain ⟨S_12, eS_12, h⟩ := lf_lX h
            have hP := lx_newP eS_12 hP
            have hD := lx_newD eS_12 hD
            refine lv_aload_n hx hb d_Mo_follows_61 rfl (lv_at hl 0 rfl) ?_
            refine lv_iload_n hx hb d_Mo_follows_62 rfl (lv_at hl 1 rfl) ?_
            obtain ⟨r_13, S_13, hc_13, h⟩ := lf_cE h
            have hFc := lx_free hD hS hA
            refine va_calli (va_runV (As := [.int y_2]) (rest := []) ⟨hx, hb, hml, hown, hts⟩ (l_Mo_entry l dC dI X _ hc_13) (cwV 1 hts (gwV good_Mq (u_Mq_Mo _ k_Mo_110) (u_Mq_Mo _ k_Mo_111) (u_Mq_Mo _ k_Mo_480) (u_Mq_Mo _ k_Mo_0) (wcs (u_Mq_Mo _ k_Mo_112) (fun _ h => h))) rfl rfl rfl (by decide +kernel) ⟨Nat.le_of_ble_eq_true rfl, Nat.le_of_ble_eq_true rfl⟩) (pv_ofE (X.same _) (fun U z1 z2 => X.mono _ _ U hFc (hEw _ _ hS U z1 z2)) hP hK hD (va_recv hK hP (ci := 12) (q0 := 0) rfl rfl)) rfl rfl hl.1 rfl (lv_room (Nat.le_of_ble_eq_true rfl)) d_Mo_follows_63 ⟨by decide, by decide⟩) hS (fun q _ h => hFc q h) hFc (fun r_ u t H locs ht hvm hw hB hz1 hk1 hS => ?_)
            rw [hw]
            obtain ⟨hP, -, hD⟩ := hB
            rw [ht] at hP
            have hD := lx_dj hD hFc
            refine lv_istore_n (lv' := [(2, .int r_13), (0, .ref M.o)]) hx hb d_Mo_follows_66 rfl hl (by decide) rfl (fun ls hl => ?_)
            refine lv_iload_n hx hb d_Mo_follows_67 rfl (lv_at hl 0 rfl) ?_
            refine lv_ldc (v := 268435448) hx hb hown (hts _ (u_Mq_Mo _ k_Mo_117)) d_Mo_follows_68 ?_
            refine lv_icmp_lt (tgt := 7) hx hb d_Mo_follows_70 (by decide) (fun c_14 => ?_) (fun c_14 => ?_)
            · have h := lf_t h c_14
              exact hr_7 r_13 S_13 _ _ _ h hP hD hS (lv_sub hl [1, 0] rfl)
            · have h := lf_f h c_14
              refine lv_iconst (v := 1) hx hb d_Mo_follows_73 (by decide) ?_
              rw [hQ]
              have e1 : (1 : Int32) = r := congrArg Prod.fst (Option.some.inj h)
              have e2 : S_13 = S' := congrArg Prod.snd (Option.some.inj h)
              have hP := lx_newP e2.symm hP
              have hD := lx_newD e2.symm hD
              exact W.zret (v := 1) hx hb hr rfl (fun t ht hW => ⟨⟨1, (), rfl, e1, by rw [ht]; exact hP, va_K.moved hW.alike hK, hD⟩, hS.F ht⟩) hS.2.2 d_Mo_follows_74
          · have h := lf_t h c_7
            exact hB_32 S_6 _ _ _ h hP hD hS (lv_sub hl [] rfl)
  rw [f_Mo_follows] at h
  refine lv_aload_n hx hb d_Mo_follows_0 rfl (lv_at hl 0 rfl) ?_
  refine lv_iconst (v := 0) hx hb d_Mo_follows_1 (by decide) ?_
  refine va_put (D := (dC, dI)) (ci := 12) (v := .int 0) (ty := .int) (C := R_Mo) (T := F_Mo) (N := 66) hx hb hts (fun w h => u_Mq_Mo w (i_Mo w h)) t_Mo t_Mo_ok n_Mo hown hK hP hD hS 0 rfl rfl 35 (by decide) (hts _ (u_Mq_Mo _ k_Mo_42)) (fun _ h9 => h9) rfl (by decide +kernel) rfl rfl (Nat.le_of_ble_eq_true rfl) d_Mo_follows_2 (fun H locs hP hD hS => ?_)
  obtain ⟨S_1, eS_1, h⟩ := lf_lX h
  have hP := lx_newP eS_1 hP
  have hD := lx_newD eS_1 hD
  refine lv_iload_n hx hb d_Mo_follows_5 rfl (lv_at hl 1 rfl) ?_
  refine lv_istore_n (lv' := [(2, .int p0), (0, .ref M.o), (1, .int p0)]) hx hb d_Mo_follows_6 rfl hl (by decide) rfl (fun ls hl => ?_)
  exact hB_7 K p0 S_1 _ _ _ h hP hD hS (lv_sub hl [1, 0] rfl)
set_option maxHeartbeats 4000000 in
set_option maxRecDepth 100000 in
theorem l_Mo_walk (l : Launch) (dC : Nat → ClassId) (dI : Nat → Nat → Nat) {K : Nat} {M : MA} {E : (Nat → Prop) → State → Prop} (X : lx_X l dC dI K M E) (sz : Nat) {S S' : MS} {p0 : Int32} (h : f_Mo_walk K S p0 = some S') : Met l y_Mo_walk (.code y_Mo_walk b_Mo_walk 3 none :: V_Mq) ({ frames := 4, cells := 0, slots := 0, locals := 84 }) (va_Pc [.ref M.o, .int p0] (fun U => U.heap.size = sz ∧ at_ (dC, dI) (fun _ => True) (wM M S) (tM M) U ∧ E (va_A (wM M S) sz) U)) (va_Qv (fun (u : Unit) => True) (fun (u : Unit) t => at_ (dC, dI) (va_A (wM M S) sz) (wM M S') (tM M) t) (va_A (wM M S) sz)) 0 0 (va_A (wM M S) sz) := by
  refine Met.ofW (cc := b_Mo_walk) (maxL := 3) (ret := none) (by decide) rfl ?_
  intro p e s m args below meth c s₁ B hml hv
  obtain ⟨rfl, hsz, ⟨hP, hK, hD0⟩, hE⟩ := hv
  have hx := B.exec
  have hb := B.bytes
  have hr := B.returns
  have hts0 := atoms_spec (ws := .code y_Mo_walk b_Mo_walk 3 none :: V_Mq) B.pre
  have hts : ∀ w ∈ V_Mq, w.before ([.ref M.o, .int p0] : List Value).toArray s = true := fun w h => hts0 w (List.mem_cons_of_mem _ h)
  have hown : s.vm.findClass R_Mo = some m.cls := findClass_of_methodNamed B.named
  subst hsz
  have hD := hD0.self (sz := s.heap.size)
  generalize hAe : va_A (wM M S) s.heap.size = A at hD hE ⊢
  have hA : ∀ q : Nat, s.heap.size ≤ q → A q := fun q h => by rw [← hAe]; exact Or.inr h
  have hS : va_S A s.heap s.heap [] := va_S.rf
  have hP : va_P (dC, dI) classes (wM M S) s.heap := hP
  have hK : va_K (dC, dI) classes (tM M) s := hK
  have hEw : ∀ (H : Heap) (locs : List Loc), va_S A s.heap H locs → ∀ U : State, U.heap = H → s.WarmedH U.vm → E A U := fun H locs hS U hU hW => X.kept A s U H locs hE hS hU hW
  have hl := lv_entry ([.ref M.o, .int p0]) (n := 3) (Nat.le_of_ble_eq_true rfl)
  rw [lg_entry_eq]
  generalize (lg_sl ([.ref M.o, .int p0]) ++ List.replicate (3 - (lg_sl ([.ref M.o, .int p0])).length) Slot.unset).toArray = ls at hl ⊢
  have hl : lv_has ls 3 [(0, .ref M.o), (1, .int p0)] := hl
  refine qabs (fun Q hQ => ?_)
  have hB_7 : ∀ (k : Nat), ∀ (y_2 : Int32) (S : MS) (H : Heap) (locs : List Loc) (ls : Array Slot), f_Mo_walk_7 K k y_2 S = some S' → va_P (dC, dI) classes (wM M S) H → va_D A (wM M S) → va_S A s.heap H locs → lv_has ls 3 [(0, .ref M.o), (2, .int y_2)] → W p l e ({ frames := 4, cells := 0, slots := 0, locals := 84 }) s m ([.ref M.o, .int p0] : List Value).toArray below meth c H locs 0 0 Q (F0 m 7 ls []) := by
    intro k
    induction k with
    | zero => intro y_2 S H locs ls h; exact lf_no h
    | succ k hr_7 =>
      intro y_2 S H locs ls h hP hD hS hl
      rw [f_Mo_walk_7] at h
      refine lv_iload_n hx hb d_Mo_walk_7 rfl (lv_at hl 1 rfl) ?_
      refine lv_if_eq (tgt := 46) hx hb d_Mo_walk_8 (by decide) (fun c_2 => ?_) (fun c_2 => ?_)
      · have h := lf_t h c_2
        rw [hQ]
        have e2 : S = S' := Option.some.inj h
        have hP := lx_newP e2.symm hP
        have hD := lx_newD e2.symm hD
        exact W.vret hx hb hr (fun t ht hW => ⟨⟨(), rfl, trivial, by rw [ht]; exact hP, va_K.moved hW.alike hK, hD⟩, hS.F ht⟩) hS.2.2 d_Mo_walk_46
      · have h := lf_f h c_2
        refine lv_iload_n hx hb d_Mo_walk_11 rfl (lv_at hl 1 rfl) ?_
        refine lv_ldc (v := 268435448) hx hb hown (hts _ (u_Mq_Mo _ k_Mo_117)) d_Mo_walk_12 ?_
        refine lv_icmp_ge (tgt := 46) hx hb d_Mo_walk_14 (by decide) (fun c_3 => ?_) (fun c_3 => ?_)
        · have h := lf_t h c_3
          rw [hQ]
          have e2 : S = S' := Option.some.inj h
          have hP := lx_newP e2.symm hP
          have hD := lx_newD e2.symm hD
          exact W.vret hx hb hr (fun t ht hW => ⟨⟨(), rfl, trivial, by rw [ht]; exact hP, va_K.moved hW.alike hK, hD⟩, hS.F ht⟩) hS.2.2 d_Mo_walk_46
        · have h := lf_f h c_3
          refine lv_aload_n hx hb d_Mo_walk_17 rfl (lv_at hl 0 rfl) ?_
          refine va_get (D := (dC, dI)) (ci := 12) (v := .ref M.a_chain) (C := R_Mo) (T := F_Mo) (N := 66) hx hb hts (fun w h => u_Mq_Mo w (i_Mo w h)) hown hK hP 0 rfl rfl 33 (by decide) (hts _ (u_Mq_Mo _ k_Mo_40)) (fun _ h9 => h9) rfl d_Mo_walk_18 ?_
          refine lv_aload_n hx hb d_Mo_walk_21 rfl (lv_at hl 0 rfl) ?_
          refine va_get (D := (dC, dI)) (ci := 12) (v := .int S.v_links) (C := R_Mo) (T := F_Mo) (N := 66) hx hb hts (fun w h => u_Mq_Mo w (i_Mo w h)) hown hK hP 0 rfl rfl 35 (by decide) (hts _ (u_Mq_Mo _ k_Mo_42)) (fun _ h9 => h9) rfl d_Mo_walk_22 ?_
          refine lv_iload_n hx hb d_Mo_walk_25 rfl (lv_at hl 1 rfl) ?_
          obtain ⟨g_4, h⟩ := lf_gE h
          refine va_iast hx hb hK hP hD hS 15 14 rfl rfl g_4 d_Mo_walk_26 (fun H locs hP hD hS => ?_)
          obtain ⟨S_5, eS_5, h⟩ := lf_lX h
          have hP := lx_newP eS_5 hP
          have hD := lx_newD eS_5 hD
          refine lv_aload_n hx hb d_Mo_walk_27 rfl (lv_at hl 0 rfl) ?_
          refine lv_dup hx hb d_Mo_walk_28 rfl ?_
          refine va_get (D := (dC, dI)) (ci := 12) (v := .int S_5.v_links) (C := R_Mo) (T := F_Mo) (N := 66) hx hb hts (fun w h => u_Mq_Mo w (i_Mo w h)) hown hK hP 0 rfl rfl 35 (by decide) (hts _ (u_Mq_Mo _ k_Mo_42)) (fun _ h9 => h9) rfl d_Mo_walk_29 ?_
          refine lv_iconst (v := 1) hx hb d_Mo_walk_32 (by decide) ?_
          refine lv_iadd hx hb d_Mo_walk_33 ?_
          refine va_put (D := (dC, dI)) (ci := 12) (v := .int (S_5.v_links + 1)) (ty := .int) (C := R_Mo) (T := F_Mo) (N := 66) hx hb hts (fun w h => u_Mq_Mo w (i_Mo w h)) t_Mo t_Mo_ok n_Mo hown hK hP hD hS 0 rfl rfl 35 (by decide) (hts _ (u_Mq_Mo _ k_Mo_42)) (fun _ h9 => h9) rfl (by decide +kernel) rfl rfl (Nat.le_of_ble_eq_true rfl) d_Mo_walk_34 (fun H locs hP hD hS => ?_)
          obtain ⟨S_6, eS_6, h⟩ := lf_lX h
          have hP := lx_newP eS_6 hP
          have hD := lx_newD eS_6 hD
          refine lv_aload_n hx hb d_Mo_walk_37 rfl (lv_at hl 0 rfl) ?_
          refine lv_iload_n hx hb d_Mo_walk_38 rfl (lv_at hl 1 rfl) ?_
          obtain ⟨r_7, S_7, hc_7, h⟩ := lf_cE h
          have hFc := lx_free hD hS hA
          refine va_calli (va_runV (As := [.int y_2]) (rest := []) ⟨hx, hb, hml, hown, hts⟩ (l_Mo_entry l dC dI X _ hc_7) (cwV 1 hts (gwV good_Mq (u_Mq_Mo _ k_Mo_110) (u_Mq_Mo _ k_Mo_111) (u_Mq_Mo _ k_Mo_480) (u_Mq_Mo _ k_Mo_0) (wcs (u_Mq_Mo _ k_Mo_112) (fun _ h => h))) rfl rfl rfl (by decide +kernel) ⟨Nat.le_of_ble_eq_true rfl, Nat.le_of_ble_eq_true rfl⟩) (pv_ofE (X.same _) (fun U z1 z2 => X.mono _ _ U hFc (hEw _ _ hS U z1 z2)) hP hK hD (va_recv hK hP (ci := 12) (q0 := 0) rfl rfl)) rfl rfl hl.1 rfl (lv_room (Nat.le_of_ble_eq_true rfl)) d_Mo_walk_39 ⟨by decide, by decide⟩) hS (fun q _ h => hFc q h) hFc (fun r_ u t H locs ht hvm hw hB hz1 hk1 hS => ?_)
          rw [hw]
          obtain ⟨hP, -, hD⟩ := hB
          rw [ht] at hP
          have hD := lx_dj hD hFc
          refine lv_istore_n (lv' := [(2, .int r_7), (0, .ref M.o)]) hx hb d_Mo_walk_42 rfl hl (by decide) rfl (fun ls hl => ?_)
          refine lv_goto (tgt := 7) hx hb d_Mo_walk_43 (by decide) ?_
          exact hr_7 r_7 S_7 _ _ _ h hP hD hS (lv_sub hl [1, 0] rfl)
  rw [f_Mo_walk] at h
  refine lv_aload_n hx hb d_Mo_walk_0 rfl (lv_at hl 0 rfl) ?_
  refine lv_iconst (v := 0) hx hb d_Mo_walk_1 (by decide) ?_
  refine va_put (D := (dC, dI)) (ci := 12) (v := .int 0) (ty := .int) (C := R_Mo) (T := F_Mo) (N := 66) hx hb hts (fun w h => u_Mq_Mo w (i_Mo w h)) t_Mo t_Mo_ok n_Mo hown hK hP hD hS 0 rfl rfl 35 (by decide) (hts _ (u_Mq_Mo _ k_Mo_42)) (fun _ h9 => h9) rfl (by decide +kernel) rfl rfl (Nat.le_of_ble_eq_true rfl) d_Mo_walk_2 (fun H locs hP hD hS => ?_)
  obtain ⟨S_1, eS_1, h⟩ := lf_lX h
  have hP := lx_newP eS_1 hP
  have hD := lx_newD eS_1 hD
  refine lv_iload_n hx hb d_Mo_walk_5 rfl (lv_at hl 1 rfl) ?_
  refine lv_istore_n (lv' := [(2, .int p0), (0, .ref M.o), (1, .int p0)]) hx hb d_Mo_walk_6 rfl hl (by decide) rfl (fun ls hl => ?_)
  exact hB_7 K p0 S_1 _ _ _ h hP hD hS (lv_sub hl [1, 0] rfl)
set_option maxHeartbeats 4000000 in
set_option maxRecDepth 100000 in
theorem l_Mo_firstOf (l : Launch) (dC : Nat → ClassId) (dI : Nat → Nat → Nat) {K : Nat} {M : MA} {E : (Nat → Prop) → State → Prop} (X : lx_X l dC dI K M E) (sz : Nat) {S S' : MS} {p0 : Int32} {r : Int32} (h : f_Mo_firstOf K S p0 = some (r, S')) : Met l y_Mo_firstOf (.code y_Mo_firstOf b_Mo_firstOf 2 (some .int) :: V_Mq) ({ frames := 2, cells := 0, slots := 0, locals := 42 }) (va_Pc [.ref M.o, .int p0] (fun U => U.heap.size = sz ∧ at_ (dC, dI) (fun _ => True) (wM M S) (tM M) U ∧ E (va_A (wM M S) sz) U)) (va_Qi (fun (r_ : Int32) (u : Unit) => r_ = r) (fun (u : Unit) t => at_ (dC, dI) (va_A (wM M S) sz) (wM M S') (tM M) t) (va_A (wM M S) sz)) 0 0 (va_A (wM M S) sz) := by
  refine Met.ofW (cc := b_Mo_firstOf) (maxL := 2) (ret := (some .int)) (by decide) rfl ?_
  intro p e s m args below meth c s₁ B hml hv
  obtain ⟨rfl, hsz, ⟨hP, hK, hD0⟩, hE⟩ := hv
  have hx := B.exec
  have hb := B.bytes
  have hr := B.returns
  have hts0 := atoms_spec (ws := .code y_Mo_firstOf b_Mo_firstOf 2 (some .int) :: V_Mq) B.pre
  have hts : ∀ w ∈ V_Mq, w.before ([.ref M.o, .int p0] : List Value).toArray s = true := fun w h => hts0 w (List.mem_cons_of_mem _ h)
  have hown : s.vm.findClass R_Mo = some m.cls := findClass_of_methodNamed B.named
  subst hsz
  have hD := hD0.self (sz := s.heap.size)
  generalize hAe : va_A (wM M S) s.heap.size = A at hD hE ⊢
  have hA : ∀ q : Nat, s.heap.size ≤ q → A q := fun q h => by rw [← hAe]; exact Or.inr h
  have hS : va_S A s.heap s.heap [] := va_S.rf
  have hP : va_P (dC, dI) classes (wM M S) s.heap := hP
  have hK : va_K (dC, dI) classes (tM M) s := hK
  have hEw : ∀ (H : Heap) (locs : List Loc), va_S A s.heap H locs → ∀ U : State, U.heap = H → s.WarmedH U.vm → E A U := fun H locs hS U hU hW => X.kept A s U H locs hE hS hU hW
  have hl := lv_entry ([.ref M.o, .int p0]) (n := 2) (Nat.le_of_ble_eq_true rfl)
  rw [lg_entry_eq]
  generalize (lg_sl ([.ref M.o, .int p0]) ++ List.replicate (2 - (lg_sl ([.ref M.o, .int p0])).length) Slot.unset).toArray = ls at hl ⊢
  have hl : lv_has ls 2 [(0, .ref M.o), (1, .int p0)] := hl
  refine qabs (fun Q hQ => ?_)
  rw [f_Mo_firstOf] at h
  refine lv_aload_n hx hb d_Mo_firstOf_0 rfl (lv_at hl 0 rfl) ?_
  refine lv_iload_n hx hb d_Mo_firstOf_1 rfl (lv_at hl 1 rfl) ?_
  refine lv_bipush (v := 20) hx hb d_Mo_firstOf_2 (by decide) ?_
  refine lv_iadd hx hb d_Mo_firstOf_4 ?_
  obtain ⟨r_1, S_1, hc_1, h⟩ := lf_cE h
  have hFc := lx_free hD hS hA
  refine va_calli (va_runV (As := [.int (p0 + 20)]) (rest := []) ⟨hx, hb, hml, hown, hts⟩ (l_Mo_two l dC dI X _ hc_1) (cwV 1 hts (gwV good_Mq (u_Mq_Mo _ k_Mo_97) (u_Mq_Mo _ k_Mo_98) (u_Mq_Mo _ k_Mo_476) (u_Mq_Mo _ k_Mo_0) (wcs (u_Mq_Mo _ k_Mo_99) (fun _ h => h))) rfl rfl rfl (by decide +kernel) ⟨Nat.le_of_ble_eq_true rfl, Nat.le_of_ble_eq_true rfl⟩) (pv_ofE (X.same _) (fun U z1 z2 => X.mono _ _ U hFc (hEw _ _ hS U z1 z2)) hP hK hD (va_recv hK hP (ci := 12) (q0 := 0) rfl rfl)) rfl rfl hl.1 rfl (lv_room (Nat.le_of_ble_eq_true rfl)) d_Mo_firstOf_5 ⟨by decide, by decide⟩) hS (fun q _ h => hFc q h) hFc (fun r_ u t H locs ht hvm hw hB hz1 hk1 hS => ?_)
  rw [hw]
  obtain ⟨hP, -, hD⟩ := hB
  rw [ht] at hP
  have hD := lx_dj hD hFc
  refine lv_bipush (v := 16) hx hb d_Mo_firstOf_8 (by decide) ?_
  refine lv_ishl hx hb d_Mo_firstOf_10 ?_
  refine lv_aload_n hx hb d_Mo_firstOf_11 rfl (lv_at hl 0 rfl) ?_
  refine lv_iload_n hx hb d_Mo_firstOf_12 rfl (lv_at hl 1 rfl) ?_
  refine lv_bipush (v := 26) hx hb d_Mo_firstOf_13 (by decide) ?_
  refine lv_iadd hx hb d_Mo_firstOf_15 ?_
  obtain ⟨r_2, S_2, hc_2, h⟩ := lf_cE h
  have hFc := lx_free hD hS hA
  refine va_calli (va_runV (As := [.int (p0 + 26)]) (rest := [.int (r_1 <<< ((16 : Int32) &&& 31))]) ⟨hx, hb, hml, hown, hts⟩ (l_Mo_two l dC dI X _ hc_2) (cwV 1 hts (gwV good_Mq (u_Mq_Mo _ k_Mo_97) (u_Mq_Mo _ k_Mo_98) (u_Mq_Mo _ k_Mo_476) (u_Mq_Mo _ k_Mo_0) (wcs (u_Mq_Mo _ k_Mo_99) (fun _ h => h))) rfl rfl rfl (by decide +kernel) ⟨Nat.le_of_ble_eq_true rfl, Nat.le_of_ble_eq_true rfl⟩) (pv_ofE (X.same _) (fun U z1 z2 => X.mono _ _ U hFc (hEw _ _ hS U z1 z2)) hP hK hD (va_recv hK hP (ci := 12) (q0 := 0) rfl rfl)) rfl rfl hl.1 rfl (lv_room (Nat.le_of_ble_eq_true rfl)) d_Mo_firstOf_16 ⟨by decide, by decide⟩) hS (fun q _ h => hFc q h) hFc (fun r_ u t H locs ht hvm hw hB hz1 hk1 hS => ?_)
  rw [hw]
  obtain ⟨hP, -, hD⟩ := hB
  rw [ht] at hP
  have hD := lx_dj hD hFc
  refine lv_ior hx hb d_Mo_firstOf_19 ?_
  rw [hQ]
  have e1 : ((r_1 <<< ((16 : Int32) &&& 31)) ||| r_2) = r := congrArg Prod.fst (Option.some.inj h)
  have e2 : S_2 = S' := congrArg Prod.snd (Option.some.inj h)
  have hP := lx_newP e2.symm hP
  have hD := lx_newD e2.symm hD
  exact W.iret (v := ((r_1 <<< ((16 : Int32) &&& 31)) ||| r_2)) hx hb hr (fun t ht hW => ⟨⟨((r_1 <<< ((16 : Int32) &&& 31)) ||| r_2), (), rfl, e1, by rw [ht]; exact hP, va_K.moved hW.alike hK, hD⟩, hS.F ht⟩) hS.2.2 d_Mo_firstOf_20
set_option maxHeartbeats 4000000 in
set_option maxRecDepth 100000 in
theorem l_Mo_isFolder (l : Launch) (dC : Nat → ClassId) (dI : Nat → Nat → Nat) {K : Nat} {M : MA} {E : (Nat → Prop) → State → Prop} (X : lx_X l dC dI K M E) (sz : Nat) {S S' : MS} {p0 : Int32} {r : Int32} (h : f_Mo_isFolder K S p0 = some (r, S')) : Met l y_Mo_isFolder (.code y_Mo_isFolder b_Mo_isFolder 2 (some .boolean) :: V_Mq) ({ frames := 1, cells := 0, slots := 0, locals := 21 }) (va_Pc [.ref M.o, .int p0] (fun U => U.heap.size = sz ∧ at_ (dC, dI) (fun _ => True) (wM M S) (tM M) U ∧ E (va_A (wM M S) sz) U)) (va_Qi (fun (r_ : Int32) (u : Unit) => r_ = r) (fun (u : Unit) t => at_ (dC, dI) (va_A (wM M S) sz) (wM M S') (tM M) t) (va_A (wM M S) sz)) 0 0 (va_A (wM M S) sz) := by
  refine Met.ofW (cc := b_Mo_isFolder) (maxL := 2) (ret := (some .boolean)) (by decide) rfl ?_
  intro p e s m args below meth c s₁ B hml hv
  obtain ⟨rfl, hsz, ⟨hP, hK, hD0⟩, hE⟩ := hv
  have hx := B.exec
  have hb := B.bytes
  have hr := B.returns
  have hts0 := atoms_spec (ws := .code y_Mo_isFolder b_Mo_isFolder 2 (some .boolean) :: V_Mq) B.pre
  have hts : ∀ w ∈ V_Mq, w.before ([.ref M.o, .int p0] : List Value).toArray s = true := fun w h => hts0 w (List.mem_cons_of_mem _ h)
  have hown : s.vm.findClass R_Mo = some m.cls := findClass_of_methodNamed B.named
  subst hsz
  have hD := hD0.self (sz := s.heap.size)
  generalize hAe : va_A (wM M S) s.heap.size = A at hD hE ⊢
  have hA : ∀ q : Nat, s.heap.size ≤ q → A q := fun q h => by rw [← hAe]; exact Or.inr h
  have hS : va_S A s.heap s.heap [] := va_S.rf
  have hP : va_P (dC, dI) classes (wM M S) s.heap := hP
  have hK : va_K (dC, dI) classes (tM M) s := hK
  have hEw : ∀ (H : Heap) (locs : List Loc), va_S A s.heap H locs → ∀ U : State, U.heap = H → s.WarmedH U.vm → E A U := fun H locs hS U hU hW => X.kept A s U H locs hE hS hU hW
  have hl := lv_entry ([.ref M.o, .int p0]) (n := 2) (Nat.le_of_ble_eq_true rfl)
  rw [lg_entry_eq]
  generalize (lg_sl ([.ref M.o, .int p0]) ++ List.replicate (2 - (lg_sl ([.ref M.o, .int p0])).length) Slot.unset).toArray = ls at hl ⊢
  have hl : lv_has ls 2 [(0, .ref M.o), (1, .int p0)] := hl
  refine qabs (fun Q hQ => ?_)
  have hB_23 : ∀ (S : MS) (H : Heap) (locs : List Loc) (ls : Array Slot), f_Mo_isFolder_23 K S = some (r, S') → va_P (dC, dI) classes (wM M S) H → va_D A (wM M S) → va_S A s.heap H locs → lv_has ls 2 [] → W p l e ({ frames := 1, cells := 0, slots := 0, locals := 21 }) s m ([.ref M.o, .int p0] : List Value).toArray below meth c H locs 0 0 Q (F0 m 23 ls []) := by
    intro S H locs ls h hP hD hS hl
    rw [f_Mo_isFolder_23] at h
    refine lv_iconst (v := 1) hx hb d_Mo_isFolder_23 (by decide) ?_
    refine lv_goto (tgt := 28) hx hb d_Mo_isFolder_24 (by decide) ?_
    rw [hQ]
    have e1 : (1 : Int32) = r := congrArg Prod.fst (Option.some.inj h)
    have e2 : S = S' := congrArg Prod.snd (Option.some.inj h)
    have hP := lx_newP e2.symm hP
    have hD := lx_newD e2.symm hD
    exact W.zret (v := 1) hx hb hr rfl (fun t ht hW => ⟨⟨1, (), rfl, e1, by rw [ht]; exact hP, va_K.moved hW.alike hK, hD⟩, hS.F ht⟩) hS.2.2 d_Mo_isFolder_28
  rw [f_Mo_isFolder] at h
  refine lv_iload_n hx hb d_Mo_isFolder_0 rfl (lv_at hl 1 rfl) ?_
  refine lv_if_eq (tgt := 23) hx hb d_Mo_isFolder_1 (by decide) (fun c_1 => ?_) (fun c_1 => ?_)
  · have h := lf_t h c_1
    exact hB_23 S _ _ _ h hP hD hS (lv_sub hl [] rfl)
  · have h := lf_f h c_1
    refine lv_aload_n hx hb d_Mo_isFolder_4 rfl (lv_at hl 0 rfl) ?_
    refine lv_aload_n hx hb d_Mo_isFolder_5 rfl (lv_at hl 0 rfl) ?_
    refine va_get (D := (dC, dI)) (ci := 12) (v := .ref M.a_at) (C := R_Mo) (T := F_Mo) (N := 66) hx hb hts (fun w h => u_Mq_Mo w (i_Mo w h)) hown hK hP 0 rfl rfl 24 (by decide) (hts _ (u_Mq_Mo _ k_Mo_31)) (fun _ h9 => h9) rfl d_Mo_isFolder_6 ?_
    refine lv_iload_n hx hb d_Mo_isFolder_9 rfl (lv_at hl 1 rfl) ?_
    obtain ⟨g_2, h⟩ := lf_gE h
    refine va_iald hx hb hK hP 6 5 rfl rfl g_2 d_Mo_isFolder_10 ?_
    refine lv_bipush (v := 11) hx hb d_Mo_isFolder_11 (by decide) ?_
    refine lv_iadd hx hb d_Mo_isFolder_13 ?_
    obtain ⟨r_3, S_3, hc_3, h⟩ := lf_cE h
    have hFc := lx_free hD hS hA
    refine va_calli (va_runV (As := [.int ((S.v_at p0.toNatClampNeg) + 11)]) (rest := []) ⟨hx, hb, hml, hown, hts⟩ (l_Mo_one l dC dI X _ hc_3) (cwV 1 hts (gwV good_Mq (u_Mq_Mo _ k_Mo_94) (u_Mq_Mo _ k_Mo_95) (u_Mq_Mo _ k_Mo_475) (u_Mq_Mo _ k_Mo_0) (wcs (u_Mq_Mo _ k_Mo_96) (fun _ h => h))) rfl rfl rfl (by decide +kernel) ⟨Nat.le_of_ble_eq_true rfl, Nat.le_of_ble_eq_true rfl⟩) (pv_ofE (X.same _) (fun U z1 z2 => X.mono _ _ U hFc (hEw _ _ hS U z1 z2)) hP hK hD (va_recv hK hP (ci := 12) (q0 := 0) rfl rfl)) rfl rfl hl.1 rfl (lv_room (Nat.le_of_ble_eq_true rfl)) d_Mo_isFolder_14 ⟨by decide, by decide⟩) hS (fun q _ h => hFc q h) hFc (fun r_ u t H locs ht hvm hw hB hz1 hk1 hS => ?_)
    rw [hw]
    obtain ⟨hP, -, hD⟩ := hB
    rw [ht] at hP
    have hD := lx_dj hD hFc
    refine lv_bipush (v := 16) hx hb d_Mo_isFolder_17 (by decide) ?_
    refine lv_iand hx hb d_Mo_isFolder_19 ?_
    refine lv_if_eq (tgt := 27) hx hb d_Mo_isFolder_20 (by decide) (fun c_4 => ?_) (fun c_4 => ?_)
    · have h := lf_t h c_4
      refine lv_iconst (v := 0) hx hb d_Mo_isFolder_27 (by decide) ?_
      rw [hQ]
      have e1 : (0 : Int32) = r := congrArg Prod.fst (Option.some.inj h)
      have e2 : S_3 = S' := congrArg Prod.snd (Option.some.inj h)
      have hP := lx_newP e2.symm hP
      have hD := lx_newD e2.symm hD
      exact W.zret (v := 0) hx hb hr rfl (fun t ht hW => ⟨⟨0, (), rfl, e1, by rw [ht]; exact hP, va_K.moved hW.alike hK, hD⟩, hS.F ht⟩) hS.2.2 d_Mo_isFolder_28
    · have h := lf_f h c_4
      exact hB_23 S_3 _ _ _ h hP hD hS (lv_sub hl [] rfl)
set_option maxHeartbeats 4000000 in
set_option maxRecDepth 100000 in
theorem l_Mo_beginOf (l : Launch) (dC : Nat → ClassId) (dI : Nat → Nat → Nat) {K : Nat} {M : MA} {E : (Nat → Prop) → State → Prop} (X : lx_X l dC dI K M E) (sz : Nat) {S S' : MS} {p0 : Int32} {r : Int32} (h : f_Mo_beginOf K S p0 = some (r, S')) : Met l y_Mo_beginOf (.code y_Mo_beginOf b_Mo_beginOf 2 (some .int) :: V_Mq) ({ frames := 3, cells := 0, slots := 0, locals := 63 }) (va_Pc [.ref M.o, .int p0] (fun U => U.heap.size = sz ∧ at_ (dC, dI) (fun _ => True) (wM M S) (tM M) U ∧ E (va_A (wM M S) sz) U)) (va_Qi (fun (r_ : Int32) (u : Unit) => r_ = r) (fun (u : Unit) t => at_ (dC, dI) (va_A (wM M S) sz) (wM M S') (tM M) t) (va_A (wM M S) sz)) 0 0 (va_A (wM M S) sz) := by
  refine Met.ofW (cc := b_Mo_beginOf) (maxL := 2) (ret := (some .int)) (by decide) rfl ?_
  intro p e s m args below meth c s₁ B hml hv
  obtain ⟨rfl, hsz, ⟨hP, hK, hD0⟩, hE⟩ := hv
  have hx := B.exec
  have hb := B.bytes
  have hr := B.returns
  have hts0 := atoms_spec (ws := .code y_Mo_beginOf b_Mo_beginOf 2 (some .int) :: V_Mq) B.pre
  have hts : ∀ w ∈ V_Mq, w.before ([.ref M.o, .int p0] : List Value).toArray s = true := fun w h => hts0 w (List.mem_cons_of_mem _ h)
  have hown : s.vm.findClass R_Mo = some m.cls := findClass_of_methodNamed B.named
  subst hsz
  have hD := hD0.self (sz := s.heap.size)
  generalize hAe : va_A (wM M S) s.heap.size = A at hD hE ⊢
  have hA : ∀ q : Nat, s.heap.size ≤ q → A q := fun q h => by rw [← hAe]; exact Or.inr h
  have hS : va_S A s.heap s.heap [] := va_S.rf
  have hP : va_P (dC, dI) classes (wM M S) s.heap := hP
  have hK : va_K (dC, dI) classes (tM M) s := hK
  have hEw : ∀ (H : Heap) (locs : List Loc), va_S A s.heap H locs → ∀ U : State, U.heap = H → s.WarmedH U.vm → E A U := fun H locs hS U hU hW => X.kept A s U H locs hE hS hU hW
  have hl := lv_entry ([.ref M.o, .int p0]) (n := 2) (Nat.le_of_ble_eq_true rfl)
  rw [lg_entry_eq]
  generalize (lg_sl ([.ref M.o, .int p0]) ++ List.replicate (2 - (lg_sl ([.ref M.o, .int p0])).length) Slot.unset).toArray = ls at hl ⊢
  have hl : lv_has ls 2 [(0, .ref M.o), (1, .int p0)] := hl
  refine qabs (fun Q hQ => ?_)
  rw [f_Mo_beginOf] at h
  refine lv_iload_n hx hb d_Mo_beginOf_0 rfl (lv_at hl 1 rfl) ?_
  refine lv_if_ne (tgt := 11) hx hb d_Mo_beginOf_1 (by decide) (fun c_1 => ?_) (fun c_1 => ?_)
  · have h := lf_f h c_1
    refine lv_aload_n hx hb d_Mo_beginOf_11 rfl (lv_at hl 0 rfl) ?_
    refine lv_aload_n hx hb d_Mo_beginOf_12 rfl (lv_at hl 0 rfl) ?_
    refine va_get (D := (dC, dI)) (ci := 12) (v := .ref M.a_at) (C := R_Mo) (T := F_Mo) (N := 66) hx hb hts (fun w h => u_Mq_Mo w (i_Mo w h)) hown hK hP 0 rfl rfl 24 (by decide) (hts _ (u_Mq_Mo _ k_Mo_31)) (fun _ h9 => h9) rfl d_Mo_beginOf_13 ?_
    refine lv_iload_n hx hb d_Mo_beginOf_16 rfl (lv_at hl 1 rfl) ?_
    obtain ⟨g_2, h⟩ := lf_gE h
    refine va_iald hx hb hK hP 6 5 rfl rfl g_2 d_Mo_beginOf_17 ?_
    obtain ⟨r_3, S_3, hc_3, h⟩ := lf_cE h
    have hFc := lx_free hD hS hA
    refine va_calli (va_runV (As := [.int (S.v_at p0.toNatClampNeg)]) (rest := []) ⟨hx, hb, hml, hown, hts⟩ (l_Mo_firstOf l dC dI X _ hc_3) (cwV 1 hts (gwV good_Mq (u_Mq_Mo _ k_Mo_127) (u_Mq_Mo _ k_Mo_128) (u_Mq_Mo _ k_Mo_488) (u_Mq_Mo _ k_Mo_0) (wcs (u_Mq_Mo _ k_Mo_129) (fun _ h => h))) rfl rfl rfl (by decide +kernel) ⟨Nat.le_of_ble_eq_true rfl, Nat.le_of_ble_eq_true rfl⟩) (pv_ofE (X.same _) (fun U z1 z2 => X.mono _ _ U hFc (hEw _ _ hS U z1 z2)) hP hK hD (va_recv hK hP (ci := 12) (q0 := 0) rfl rfl)) rfl rfl hl.1 rfl (lv_room (Nat.le_of_ble_eq_true rfl)) d_Mo_beginOf_18 ⟨by decide, by decide⟩) hS (fun q _ h => hFc q h) hFc (fun r_ u t H locs ht hvm hw hB hz1 hk1 hS => ?_)
    rw [hw]
    obtain ⟨hP, -, hD⟩ := hB
    rw [ht] at hP
    have hD := lx_dj hD hFc
    rw [hQ]
    have e1 : r_3 = r := congrArg Prod.fst (Option.some.inj h)
    have e2 : S_3 = S' := congrArg Prod.snd (Option.some.inj h)
    have hP := lx_newP e2.symm hP
    have hD := lx_newD e2.symm hD
    exact W.iret (v := r_3) hx hb hr (fun t ht hW => ⟨⟨r_3, (), rfl, e1, by rw [ht]; exact hP, va_K.moved hW.alike hK, hD⟩, hS.F ht⟩) hS.2.2 d_Mo_beginOf_21
  · have h := lf_t h c_1
    refine lv_aload_n hx hb d_Mo_beginOf_4 rfl (lv_at hl 0 rfl) ?_
    refine va_get (D := (dC, dI)) (ci := 12) (v := .int S.v_root) (C := R_Mo) (T := F_Mo) (N := 66) hx hb hts (fun w h => u_Mq_Mo w (i_Mo w h)) hown hK hP 0 rfl rfl 15 (by decide) (hts _ (u_Mq_Mo _ k_Mo_22)) (fun _ h9 => h9) rfl d_Mo_beginOf_5 ?_
    refine lv_goto (tgt := 21) hx hb d_Mo_beginOf_8 (by decide) ?_
    rw [hQ]
    have e1 : S.v_root = r := congrArg Prod.fst (Option.some.inj h)
    have e2 : S = S' := congrArg Prod.snd (Option.some.inj h)
    have hP := lx_newP e2.symm hP
    have hD := lx_newD e2.symm hD
    exact W.iret (v := S.v_root) hx hb hr (fun t ht hW => ⟨⟨S.v_root, (), rfl, e1, by rw [ht]; exact hP, va_K.moved hW.alike hK, hD⟩, hS.F ht⟩) hS.2.2 d_Mo_beginOf_21
set_option maxHeartbeats 4000000 in
set_option maxRecDepth 100000 in
theorem l_Mo_slotAt (l : Launch) (dC : Nat → ClassId) (dI : Nat → Nat → Nat) {K : Nat} {M : MA} {E : (Nat → Prop) → State → Prop} (X : lx_X l dC dI K M E) (sz : Nat) {S S' : MS} {p0 : Int32} {r : Int32} (h : f_Mo_slotAt K S p0 = some (r, S')) : Met l y_Mo_slotAt (.code y_Mo_slotAt b_Mo_slotAt 2 (some .int) :: V_Mq) ({ frames := 1, cells := 0, slots := 0, locals := 21 }) (va_Pc [.ref M.o, .int p0] (fun U => U.heap.size = sz ∧ at_ (dC, dI) (fun _ => True) (wM M S) (tM M) U ∧ E (va_A (wM M S) sz) U)) (va_Qi (fun (r_ : Int32) (u : Unit) => r_ = r) (fun (u : Unit) t => at_ (dC, dI) (va_A (wM M S) sz) (wM M S') (tM M) t) (va_A (wM M S) sz)) 0 0 (va_A (wM M S) sz) := by
  refine Met.ofW (cc := b_Mo_slotAt) (maxL := 2) (ret := (some .int)) (by decide) rfl ?_
  intro p e s m args below meth c s₁ B hml hv
  obtain ⟨rfl, hsz, ⟨hP, hK, hD0⟩, hE⟩ := hv
  have hx := B.exec
  have hb := B.bytes
  have hr := B.returns
  have hts0 := atoms_spec (ws := .code y_Mo_slotAt b_Mo_slotAt 2 (some .int) :: V_Mq) B.pre
  have hts : ∀ w ∈ V_Mq, w.before ([.ref M.o, .int p0] : List Value).toArray s = true := fun w h => hts0 w (List.mem_cons_of_mem _ h)
  have hown : s.vm.findClass R_Mo = some m.cls := findClass_of_methodNamed B.named
  subst hsz
  have hD := hD0.self (sz := s.heap.size)
  generalize hAe : va_A (wM M S) s.heap.size = A at hD hE ⊢
  have hA : ∀ q : Nat, s.heap.size ≤ q → A q := fun q h => by rw [← hAe]; exact Or.inr h
  have hS : va_S A s.heap s.heap [] := va_S.rf
  have hP : va_P (dC, dI) classes (wM M S) s.heap := hP
  have hK : va_K (dC, dI) classes (tM M) s := hK
  have hEw : ∀ (H : Heap) (locs : List Loc), va_S A s.heap H locs → ∀ U : State, U.heap = H → s.WarmedH U.vm → E A U := fun H locs hS U hU hW => X.kept A s U H locs hE hS hU hW
  have hl := lv_entry ([.ref M.o, .int p0]) (n := 2) (Nat.le_of_ble_eq_true rfl)
  rw [lg_entry_eq]
  generalize (lg_sl ([.ref M.o, .int p0]) ++ List.replicate (2 - (lg_sl ([.ref M.o, .int p0])).length) Slot.unset).toArray = ls at hl ⊢
  have hl : lv_has ls 2 [(0, .ref M.o), (1, .int p0)] := hl
  refine qabs (fun Q hQ => ?_)
  rw [f_Mo_slotAt] at h
  refine lv_aload_n hx hb d_Mo_slotAt_0 rfl (lv_at hl 0 rfl) ?_
  refine lv_aload_n hx hb d_Mo_slotAt_1 rfl (lv_at hl 0 rfl) ?_
  refine va_get (D := (dC, dI)) (ci := 12) (v := .ref M.a_folder) (C := R_Mo) (T := F_Mo) (N := 66) hx hb hts (fun w h => u_Mq_Mo w (i_Mo w h)) hown hK hP 0 rfl rfl 34 (by decide) (hts _ (u_Mq_Mo _ k_Mo_41)) (fun _ h9 => h9) rfl d_Mo_slotAt_2 ?_
  refine lv_iload_n hx hb d_Mo_slotAt_5 rfl (lv_at hl 1 rfl) ?_
  refine lv_bipush (v := 16) hx hb d_Mo_slotAt_6 (by decide) ?_
  refine lv_aload_n hx hb d_Mo_slotAt_8 rfl (lv_at hl 0 rfl) ?_
  refine va_get (D := (dC, dI)) (ci := 12) (v := .int S.v_c) (C := R_Mo) (T := F_Mo) (N := 66) hx hb hts (fun w h => u_Mq_Mo w (i_Mo w h)) hown hK hP 0 rfl rfl 11 (by decide) (hts _ (u_Mq_Mo _ k_Mo_18)) (fun _ h9 => h9) rfl d_Mo_slotAt_9 ?_
  refine lv_imul hx hb d_Mo_slotAt_12 ?_
  obtain ⟨g_1, h⟩ := lf_gE h
  refine lv_idiv hx hb d_Mo_slotAt_13 g_1 ?_
  obtain ⟨g_2, h⟩ := lf_gE h
  refine va_iald hx hb hK hP 16 15 rfl rfl g_2 d_Mo_slotAt_14 ?_
  obtain ⟨r_3, S_3, hc_3, h⟩ := lf_cE h
  have hFc := lx_free hD hS hA
  refine va_calli (va_runV (As := [.int (S.v_folder (p0 / (16 * S.v_c)).toNatClampNeg)]) (rest := []) ⟨hx, hb, hml, hown, hts⟩ (l_Mo_place l dC dI X _ hc_3) (cwV 1 hts (gwV good_Mq (u_Mq_Mo _ k_Mo_136) (u_Mq_Mo _ k_Mo_137) (u_Mq_Mo _ k_Mo_483) (u_Mq_Mo _ k_Mo_0) (wcs (u_Mq_Mo _ k_Mo_138) (fun _ h => h))) rfl rfl rfl (by decide +kernel) ⟨Nat.le_of_ble_eq_true rfl, Nat.le_of_ble_eq_true rfl⟩) (pv_ofE (X.same _) (fun U z1 z2 => X.mono _ _ U hFc (hEw _ _ hS U z1 z2)) hP hK hD (va_recv hK hP (ci := 12) (q0 := 0) rfl rfl)) rfl rfl hl.1 rfl (lv_room (Nat.le_of_ble_eq_true rfl)) d_Mo_slotAt_15 ⟨by decide, by decide⟩) hS (fun q _ h => hFc q h) hFc (fun r_ u t H locs ht hvm hw hB hz1 hk1 hS => ?_)
  rw [hw]
  obtain ⟨hP, -, hD⟩ := hB
  rw [ht] at hP
  have hD := lx_dj hD hFc
  refine lv_bipush (v := 32) hx hb d_Mo_slotAt_18 (by decide) ?_
  refine lv_iload_n hx hb d_Mo_slotAt_20 rfl (lv_at hl 1 rfl) ?_
  refine lv_bipush (v := 16) hx hb d_Mo_slotAt_21 (by decide) ?_
  refine lv_aload_n hx hb d_Mo_slotAt_23 rfl (lv_at hl 0 rfl) ?_
  refine va_get (D := (dC, dI)) (ci := 12) (v := .int S_3.v_c) (C := R_Mo) (T := F_Mo) (N := 66) hx hb hts (fun w h => u_Mq_Mo w (i_Mo w h)) hown hK hP 0 rfl rfl 11 (by decide) (hts _ (u_Mq_Mo _ k_Mo_18)) (fun _ h9 => h9) rfl d_Mo_slotAt_24 ?_
  refine lv_imul hx hb d_Mo_slotAt_27 ?_
  obtain ⟨g_4, h⟩ := lf_gE h
  refine lv_irem hx hb d_Mo_slotAt_28 g_4 ?_
  refine lv_imul hx hb d_Mo_slotAt_29 ?_
  refine lv_iadd hx hb d_Mo_slotAt_30 ?_
  rw [hQ]
  have e1 : (r_3 + (32 * (p0 - p0 / (16 * S_3.v_c) * (16 * S_3.v_c)))) = r := congrArg Prod.fst (Option.some.inj h)
  have e2 : S_3 = S' := congrArg Prod.snd (Option.some.inj h)
  have hP := lx_newP e2.symm hP
  have hD := lx_newD e2.symm hD
  exact W.iret (v := (r_3 + (32 * (p0 - p0 / (16 * S_3.v_c) * (16 * S_3.v_c))))) hx hb hr (fun t ht hW => ⟨⟨(r_3 + (32 * (p0 - p0 / (16 * S_3.v_c) * (16 * S_3.v_c)))), (), rfl, e1, by rw [ht]; exact hP, va_K.moved hW.alike hK, hD⟩, hS.F ht⟩) hS.2.2 d_Mo_slotAt_31
set_option maxHeartbeats 4000000 in
set_option maxRecDepth 100000 in
theorem l_Mo_dots (l : Launch) (dC : Nat → ClassId) (dI : Nat → Nat → Nat) {K : Nat} {M : MA} {E : (Nat → Prop) → State → Prop} (X : lx_X l dC dI K M E) (sz : Nat) {S S' : MS} {p0 : Int32} {p1 : Int32} {p2 : Int32} {r : Int32} (h : f_Mo_dots K S p0 p1 p2 = some (r, S')) : Met l y_Mo_dots (.code y_Mo_dots b_Mo_dots 5 (some .boolean) :: V_Mq) ({ frames := 4, cells := 0, slots := 0, locals := 84 }) (va_Pc [.ref M.o, .int p0, .int p1, .int p2] (fun U => U.heap.size = sz ∧ at_ (dC, dI) (fun _ => True) (wM M S) (tM M) U ∧ E (va_A (wM M S) sz) U)) (va_Qi (fun (r_ : Int32) (u : Unit) => r_ = r) (fun (u : Unit) t => at_ (dC, dI) (va_A (wM M S) sz) (wM M S') (tM M) t) (va_A (wM M S) sz)) 0 0 (va_A (wM M S) sz) := by
  refine Met.ofW (cc := b_Mo_dots) (maxL := 5) (ret := (some .boolean)) (by decide) rfl ?_
  intro p e s m args below meth c s₁ B hml hv
  obtain ⟨rfl, hsz, ⟨hP, hK, hD0⟩, hE⟩ := hv
  have hx := B.exec
  have hb := B.bytes
  have hr := B.returns
  have hts0 := atoms_spec (ws := .code y_Mo_dots b_Mo_dots 5 (some .boolean) :: V_Mq) B.pre
  have hts : ∀ w ∈ V_Mq, w.before ([.ref M.o, .int p0, .int p1, .int p2] : List Value).toArray s = true := fun w h => hts0 w (List.mem_cons_of_mem _ h)
  have hown : s.vm.findClass R_Mo = some m.cls := findClass_of_methodNamed B.named
  subst hsz
  have hD := hD0.self (sz := s.heap.size)
  generalize hAe : va_A (wM M S) s.heap.size = A at hD hE ⊢
  have hA : ∀ q : Nat, s.heap.size ≤ q → A q := fun q h => by rw [← hAe]; exact Or.inr h
  have hS : va_S A s.heap s.heap [] := va_S.rf
  have hP : va_P (dC, dI) classes (wM M S) s.heap := hP
  have hK : va_K (dC, dI) classes (tM M) s := hK
  have hEw : ∀ (H : Heap) (locs : List Loc), va_S A s.heap H locs → ∀ U : State, U.heap = H → s.WarmedH U.vm → E A U := fun H locs hS U hU hW => X.kept A s U H locs hE hS hU hW
  have hl := lv_entry ([.ref M.o, .int p0, .int p1, .int p2]) (n := 5) (Nat.le_of_ble_eq_true rfl)
  rw [lg_entry_eq]
  generalize (lg_sl ([.ref M.o, .int p0, .int p1, .int p2]) ++ List.replicate (5 - (lg_sl ([.ref M.o, .int p0, .int p1, .int p2])).length) Slot.unset).toArray = ls at hl ⊢
  have hl : lv_has ls 5 [(0, .ref M.o), (1, .int p0), (2, .int p1), (3, .int p2)] := hl
  refine qabs (fun Q hQ => ?_)
  have hB_31 : ∀ (rec_3 : Int32 → Int32 → Int32 → Int32 → MS → Option (Int32 × MS)) (hr_3 : ∀ (y_1 : Int32) (y_2 : Int32) (y_3 : Int32) (y_4 : Int32) (S : MS) (H : Heap) (locs : List Loc) (ls : Array Slot), rec_3 y_1 y_2 y_3 y_4 S = some (r, S') → va_P (dC, dI) classes (wM M S) H → va_D A (wM M S) → va_S A s.heap H locs → lv_has ls 5 [(0, .ref M.o), (1, .int y_1), (2, .int y_2), (3, .int y_3), (4, .int y_4)] → W p l e ({ frames := 4, cells := 0, slots := 0, locals := 84 }) s m ([.ref M.o, .int p0, .int p1, .int p2] : List Value).toArray below meth c H locs 0 0 Q (F0 m 3 ls [])), ∀ (y_1 : Int32) (y_2 : Int32) (y_3 : Int32) (y_4 : Int32) (z_0 : Int32) (z_1 : Int32) (S : MS) (H : Heap) (locs : List Loc) (ls : Array Slot), f_Mo_dots_31 K rec_3 y_1 y_2 y_3 y_4 z_0 z_1 S = some (r, S') → va_P (dC, dI) classes (wM M S) H → va_D A (wM M S) → va_S A s.heap H locs → lv_has ls 5 [(0, .ref M.o), (1, .int y_1), (2, .int y_2), (3, .int y_3), (4, .int y_4)] → W p l e ({ frames := 4, cells := 0, slots := 0, locals := 84 }) s m ([.ref M.o, .int p0, .int p1, .int p2] : List Value).toArray below meth c H locs 0 0 Q (F0 m 31 ls [.int z_1, .int z_0]) := by
    intro rec_3 hr_3 y_1 y_2 y_3 y_4 z_0 z_1 S H locs ls h hP hD hS hl
    rw [f_Mo_dots_31] at h
    refine lv_icmp_eq (tgt := 36) hx hb d_Mo_dots_31 (by decide) (fun c_14 => ?_) (fun c_14 => ?_)
    · have h := lf_t h c_14
      obtain ⟨x_15, ex_15, h⟩ := lf_lX h
      refine lv_iinc (v := x_15) (lv' := [(4, .int x_15), (0, .ref M.o), (1, .int y_1), (2, .int y_2), (3, .int y_3)]) hx hb d_Mo_dots_36 hl (k := 4) rfl (by rw [ex_15]; rfl) (by decide) rfl (fun ls hl => ?_)
      refine lv_goto (tgt := 3) hx hb d_Mo_dots_39 (by decide) ?_
      exact hr_3 y_1 y_2 y_3 x_15 S _ _ _ h hP hD hS (lv_sub hl [1, 2, 3, 4, 0] rfl)
    · have h := lf_f h c_14
      refine lv_iconst (v := 0) hx hb d_Mo_dots_34 (by decide) ?_
      rw [hQ]
      have e1 : (0 : Int32) = r := congrArg Prod.fst (Option.some.inj h)
      have e2 : S = S' := congrArg Prod.snd (Option.some.inj h)
      have hP := lx_newP e2.symm hP
      have hD := lx_newD e2.symm hD
      exact W.zret (v := 0) hx hb hr rfl (fun t ht hW => ⟨⟨0, (), rfl, e1, by rw [ht]; exact hP, va_K.moved hW.alike hK, hD⟩, hS.F ht⟩) hS.2.2 d_Mo_dots_35
  have hB_102 : ∀ (S : MS) (H : Heap) (locs : List Loc) (ls : Array Slot), f_Mo_dots_102 K S = some (r, S') → va_P (dC, dI) classes (wM M S) H → va_D A (wM M S) → va_S A s.heap H locs → lv_has ls 5 [] → W p l e ({ frames := 4, cells := 0, slots := 0, locals := 84 }) s m ([.ref M.o, .int p0, .int p1, .int p2] : List Value).toArray below meth c H locs 0 0 Q (F0 m 102 ls []) := by
    intro S H locs ls h hP hD hS hl
    rw [f_Mo_dots_102] at h
    refine lv_iconst (v := 0) hx hb d_Mo_dots_102 (by decide) ?_
    rw [hQ]
    have e1 : (0 : Int32) = r := congrArg Prod.fst (Option.some.inj h)
    have e2 : S = S' := congrArg Prod.snd (Option.some.inj h)
    have hP := lx_newP e2.symm hP
    have hD := lx_newD e2.symm hD
    exact W.zret (v := 0) hx hb hr rfl (fun t ht hW => ⟨⟨0, (), rfl, e1, by rw [ht]; exact hP, va_K.moved hW.alike hK, hD⟩, hS.F ht⟩) hS.2.2 d_Mo_dots_103
  have hB_95 : ∀ (z_0 : Int32) (z_1 : Int32) (S : MS) (H : Heap) (locs : List Loc) (ls : Array Slot), f_Mo_dots_95 K z_0 z_1 S = some (r, S') → va_P (dC, dI) classes (wM M S) H → va_D A (wM M S) → va_S A s.heap H locs → lv_has ls 5 [] → W p l e ({ frames := 4, cells := 0, slots := 0, locals := 84 }) s m ([.ref M.o, .int p0, .int p1, .int p2] : List Value).toArray below meth c H locs 0 0 Q (F0 m 95 ls [.int z_1, .int z_0]) := by
    intro z_0 z_1 S H locs ls h hP hD hS hl
    rw [f_Mo_dots_95] at h
    refine lv_icmp_ne (tgt := 102) hx hb d_Mo_dots_95 (by decide) (fun c_13 => ?_) (fun c_13 => ?_)
    · have h := lf_f h c_13
      exact hB_102 S _ _ _ h hP hD hS (lv_sub hl [] rfl)
    · have h := lf_t h c_13
      refine lv_iconst (v := 1) hx hb d_Mo_dots_98 (by decide) ?_
      refine lv_goto (tgt := 103) hx hb d_Mo_dots_99 (by decide) ?_
      rw [hQ]
      have e1 : (1 : Int32) = r := congrArg Prod.fst (Option.some.inj h)
      have e2 : S = S' := congrArg Prod.snd (Option.some.inj h)
      have hP := lx_newP e2.symm hP
      have hD := lx_newD e2.symm hD
      exact W.zret (v := 1) hx hb hr rfl (fun t ht hW => ⟨⟨1, (), rfl, e1, by rw [ht]; exact hP, va_K.moved hW.alike hK, hD⟩, hS.F ht⟩) hS.2.2 d_Mo_dots_103
  have hB_3 : ∀ (k : Nat), ∀ (y_1 : Int32) (y_2 : Int32) (y_3 : Int32) (y_4 : Int32) (S : MS) (H : Heap) (locs : List Loc) (ls : Array Slot), f_Mo_dots_3 K k y_1 y_2 y_3 y_4 S = some (r, S') → va_P (dC, dI) classes (wM M S) H → va_D A (wM M S) → va_S A s.heap H locs → lv_has ls 5 [(0, .ref M.o), (1, .int y_1), (2, .int y_2), (3, .int y_3), (4, .int y_4)] → W p l e ({ frames := 4, cells := 0, slots := 0, locals := 84 }) s m ([.ref M.o, .int p0, .int p1, .int p2] : List Value).toArray below meth c H locs 0 0 Q (F0 m 3 ls []) := by
    intro k
    induction k with
    | zero => intro y_1 y_2 y_3 y_4 S H locs ls h; exact lf_no h
    | succ k hr_3 =>
      intro y_1 y_2 y_3 y_4 S H locs ls h hP hD hS hl
      rw [f_Mo_dots_3] at h
      refine lv_iload hx hb d_Mo_dots_3 (lv_at hl 4 rfl) ?_
      refine lv_bipush (v := 11) hx hb d_Mo_dots_5 (by decide) ?_
      refine lv_icmp_ge (tgt := 42) hx hb d_Mo_dots_7 (by decide) (fun c_1 => ?_) (fun c_1 => ?_)
      · have h := lf_t h c_1
        refine lv_aload_n hx hb d_Mo_dots_42 rfl (lv_at hl 0 rfl) ?_
        refine lv_iload_n hx hb d_Mo_dots_43 rfl (lv_at hl 1 rfl) ?_
        refine lv_bipush (v := 11) hx hb d_Mo_dots_44 (by decide) ?_
        refine lv_iadd hx hb d_Mo_dots_46 ?_
        obtain ⟨r_2, S_2, hc_2, h⟩ := lf_cE h
        have hFc := lx_free hD hS hA
        refine va_calli (va_runV (As := [.int (y_1 + 11)]) (rest := []) ⟨hx, hb, hml, hown, hts⟩ (l_Mo_one l dC dI X _ hc_2) (cwV 1 hts (gwV good_Mq (u_Mq_Mo _ k_Mo_94) (u_Mq_Mo _ k_Mo_95) (u_Mq_Mo _ k_Mo_475) (u_Mq_Mo _ k_Mo_0) (wcs (u_Mq_Mo _ k_Mo_96) (fun _ h => h))) rfl rfl rfl (by decide +kernel) ⟨Nat.le_of_ble_eq_true rfl, Nat.le_of_ble_eq_true rfl⟩) (pv_ofE (X.same _) (fun U z1 z2 => X.mono _ _ U hFc (hEw _ _ hS U z1 z2)) hP hK hD (va_recv hK hP (ci := 12) (q0 := 0) rfl rfl)) rfl rfl hl.1 rfl (lv_room (Nat.le_of_ble_eq_true rfl)) d_Mo_dots_47 ⟨by decide, by decide⟩) hS (fun q _ h => hFc q h) hFc (fun r_ u t H locs ht hvm hw hB hz1 hk1 hS => ?_)
        rw [hw]
        obtain ⟨hP, -, hD⟩ := hB
        rw [ht] at hP
        have hD := lx_dj hD hFc
        refine lv_bipush (v := 16) hx hb d_Mo_dots_50 (by decide) ?_
        refine lv_icmp_ne (tgt := 102) hx hb d_Mo_dots_52 (by decide) (fun c_3 => ?_) (fun c_3 => ?_)
        · have h := lf_f h c_3
          exact hB_102 S_2 _ _ _ h hP hD hS (lv_sub hl [] rfl)
        · have h := lf_t h c_3
          refine lv_aload_n hx hb d_Mo_dots_55 rfl (lv_at hl 0 rfl) ?_
          refine lv_iload_n hx hb d_Mo_dots_56 rfl (lv_at hl 1 rfl) ?_
          obtain ⟨r_4, S_4, hc_4, h⟩ := lf_cE h
          have hFc := lx_free hD hS hA
          refine va_calli (va_runV (As := [.int y_1]) (rest := []) ⟨hx, hb, hml, hown, hts⟩ (l_Mo_firstOf l dC dI X _ hc_4) (cwV 1 hts (gwV good_Mq (u_Mq_Mo _ k_Mo_127) (u_Mq_Mo _ k_Mo_128) (u_Mq_Mo _ k_Mo_488) (u_Mq_Mo _ k_Mo_0) (wcs (u_Mq_Mo _ k_Mo_129) (fun _ h => h))) rfl rfl rfl (by decide +kernel) ⟨Nat.le_of_ble_eq_true rfl, Nat.le_of_ble_eq_true rfl⟩) (pv_ofE (X.same _) (fun U z1 z2 => X.mono _ _ U hFc (hEw _ _ hS U z1 z2)) hP hK hD (va_recv hK hP (ci := 12) (q0 := 0) rfl rfl)) rfl rfl hl.1 rfl (lv_room (Nat.le_of_ble_eq_true rfl)) d_Mo_dots_57 ⟨by decide, by decide⟩) hS (fun q _ h => hFc q h) hFc (fun r_ u t H locs ht hvm hw hB hz1 hk1 hS => ?_)
          rw [hw]
          obtain ⟨hP, -, hD⟩ := hB
          rw [ht] at hP
          have hD := lx_dj hD hFc
          refine lv_iload_n hx hb d_Mo_dots_60 rfl (lv_at hl 3 rfl) ?_
          refine lv_if_ne (tgt := 72) hx hb d_Mo_dots_61 (by decide) (fun c_5 => ?_) (fun c_5 => ?_)
          · have h := lf_f h c_5
            refine lv_aload_n hx hb d_Mo_dots_72 rfl (lv_at hl 0 rfl) ?_
            refine va_get (D := (dC, dI)) (ci := 12) (v := .ref M.a_parent) (C := R_Mo) (T := F_Mo) (N := 66) hx hb hts (fun w h => u_Mq_Mo w (i_Mo w h)) hown hK hP 0 rfl rfl 27 (by decide) (hts _ (u_Mq_Mo _ k_Mo_34)) (fun _ h9 => h9) rfl d_Mo_dots_73 ?_
            refine lv_iload_n hx hb d_Mo_dots_76 rfl (lv_at hl 2 rfl) ?_
            obtain ⟨g_6, h⟩ := lf_gE h
            refine va_iald hx hb hK hP 9 8 rfl rfl g_6 d_Mo_dots_77 ?_
            refine lv_if_ne (tgt := 85) hx hb d_Mo_dots_78 (by decide) (fun c_7 => ?_) (fun c_7 => ?_)
            · have h := lf_f h c_7
              refine lv_aload_n hx hb d_Mo_dots_85 rfl (lv_at hl 0 rfl) ?_
              refine lv_aload_n hx hb d_Mo_dots_86 rfl (lv_at hl 0 rfl) ?_
              refine va_get (D := (dC, dI)) (ci := 12) (v := .ref M.a_parent) (C := R_Mo) (T := F_Mo) (N := 66) hx hb hts (fun w h => u_Mq_Mo w (i_Mo w h)) hown hK hP 0 rfl rfl 27 (by decide) (hts _ (u_Mq_Mo _ k_Mo_34)) (fun _ h9 => h9) rfl d_Mo_dots_87 ?_
              refine lv_iload_n hx hb d_Mo_dots_90 rfl (lv_at hl 2 rfl) ?_
              obtain ⟨g_8, h⟩ := lf_gE h
              refine va_iald hx hb hK hP 9 8 rfl rfl g_8 d_Mo_dots_91 ?_
              obtain ⟨r_9, S_9, hc_9, h⟩ := lf_cE h
              have hFc := lx_free hD hS hA
              refine va_calli (va_runV (As := [.int (S_4.v_parent y_2.toNatClampNeg)]) (rest := [.int r_4]) ⟨hx, hb, hml, hown, hts⟩ (l_Mo_beginOf l dC dI X _ hc_9) (cwV 1 hts (gwV good_Mq (u_Mq_Mo _ k_Mo_124) (u_Mq_Mo _ k_Mo_125) (u_Mq_Mo _ k_Mo_490) (u_Mq_Mo _ k_Mo_0) (wcs (u_Mq_Mo _ k_Mo_126) (fun _ h => h))) rfl rfl rfl (by decide +kernel) ⟨Nat.le_of_ble_eq_true rfl, Nat.le_of_ble_eq_true rfl⟩) (pv_ofE (X.same _) (fun U z1 z2 => X.mono _ _ U hFc (hEw _ _ hS U z1 z2)) hP hK hD (va_recv hK hP (ci := 12) (q0 := 0) rfl rfl)) rfl rfl hl.1 rfl (lv_room (Nat.le_of_ble_eq_true rfl)) d_Mo_dots_92 ⟨by decide, by decide⟩) hS (fun q _ h => hFc q h) hFc (fun r_ u t H locs ht hvm hw hB hz1 hk1 hS => ?_)
              rw [hw]
              obtain ⟨hP, -, hD⟩ := hB
              rw [ht] at hP
              have hD := lx_dj hD hFc
              exact hB_95 r_4 r_9 S_9 _ _ _ h hP hD hS (lv_sub hl [] rfl)
            · have h := lf_t h c_7
              refine lv_iconst (v := 0) hx hb d_Mo_dots_81 (by decide) ?_
              refine lv_goto (tgt := 95) hx hb d_Mo_dots_82 (by decide) ?_
              exact hB_95 r_4 0 S_4 _ _ _ h hP hD hS (lv_sub hl [] rfl)
          · have h := lf_t h c_5
            refine lv_aload_n hx hb d_Mo_dots_64 rfl (lv_at hl 0 rfl) ?_
            refine lv_iload_n hx hb d_Mo_dots_65 rfl (lv_at hl 2 rfl) ?_
            obtain ⟨r_10, S_10, hc_10, h⟩ := lf_cE h
            have hFc := lx_free hD hS hA
            refine va_calli (va_runV (As := [.int y_2]) (rest := [.int r_4]) ⟨hx, hb, hml, hown, hts⟩ (l_Mo_beginOf l dC dI X _ hc_10) (cwV 1 hts (gwV good_Mq (u_Mq_Mo _ k_Mo_124) (u_Mq_Mo _ k_Mo_125) (u_Mq_Mo _ k_Mo_490) (u_Mq_Mo _ k_Mo_0) (wcs (u_Mq_Mo _ k_Mo_126) (fun _ h => h))) rfl rfl rfl (by decide +kernel) ⟨Nat.le_of_ble_eq_true rfl, Nat.le_of_ble_eq_true rfl⟩) (pv_ofE (X.same _) (fun U z1 z2 => X.mono _ _ U hFc (hEw _ _ hS U z1 z2)) hP hK hD (va_recv hK hP (ci := 12) (q0 := 0) rfl rfl)) rfl rfl hl.1 rfl (lv_room (Nat.le_of_ble_eq_true rfl)) d_Mo_dots_66 ⟨by decide, by decide⟩) hS (fun q _ h => hFc q h) hFc (fun r_ u t H locs ht hvm hw hB hz1 hk1 hS => ?_)
            rw [hw]
            obtain ⟨hP, -, hD⟩ := hB
            rw [ht] at hP
            have hD := lx_dj hD hFc
            refine lv_goto (tgt := 95) hx hb d_Mo_dots_69 (by decide) ?_
            exact hB_95 r_4 r_10 S_10 _ _ _ h hP hD hS (lv_sub hl [] rfl)
      · have h := lf_f h c_1
        refine lv_aload_n hx hb d_Mo_dots_10 rfl (lv_at hl 0 rfl) ?_
        refine lv_iload_n hx hb d_Mo_dots_11 rfl (lv_at hl 1 rfl) ?_
        refine lv_iload hx hb d_Mo_dots_12 (lv_at hl 4 rfl) ?_
        refine lv_iadd hx hb d_Mo_dots_14 ?_
        obtain ⟨r_11, S_11, hc_11, h⟩ := lf_cE h
        have hFc := lx_free hD hS hA
        refine va_calli (va_runV (As := [.int (y_1 + y_4)]) (rest := []) ⟨hx, hb, hml, hown, hts⟩ (l_Mo_one l dC dI X _ hc_11) (cwV 1 hts (gwV good_Mq (u_Mq_Mo _ k_Mo_94) (u_Mq_Mo _ k_Mo_95) (u_Mq_Mo _ k_Mo_475) (u_Mq_Mo _ k_Mo_0) (wcs (u_Mq_Mo _ k_Mo_96) (fun _ h => h))) rfl rfl rfl (by decide +kernel) ⟨Nat.le_of_ble_eq_true rfl, Nat.le_of_ble_eq_true rfl⟩) (pv_ofE (X.same _) (fun U z1 z2 => X.mono _ _ U hFc (hEw _ _ hS U z1 z2)) hP hK hD (va_recv hK hP (ci := 12) (q0 := 0) rfl rfl)) rfl rfl hl.1 rfl (lv_room (Nat.le_of_ble_eq_true rfl)) d_Mo_dots_15 ⟨by decide, by decide⟩) hS (fun q _ h => hFc q h) hFc (fun r_ u t H locs ht hvm hw hB hz1 hk1 hS => ?_)
        rw [hw]
        obtain ⟨hP, -, hD⟩ := hB
        rw [ht] at hP
        have hD := lx_dj hD hFc
        refine lv_iload hx hb d_Mo_dots_18 (lv_at hl 4 rfl) ?_
        refine lv_iload_n hx hb d_Mo_dots_20 rfl (lv_at hl 3 rfl) ?_
        refine lv_icmp_gt (tgt := 29) hx hb d_Mo_dots_21 (by decide) (fun c_12 => ?_) (fun c_12 => ?_)
        · have h := lf_t h c_12
          refine lv_bipush (v := 32) hx hb d_Mo_dots_29 (by decide) ?_
          exact hB_31 _ hr_3 y_1 y_2 y_3 y_4 r_11 32 S_11 _ _ _ h hP hD hS (lv_sub hl [0, 1, 2, 3, 4] rfl)
        · have h := lf_f h c_12
          refine lv_bipush (v := 46) hx hb d_Mo_dots_24 (by decide) ?_
          refine lv_goto (tgt := 31) hx hb d_Mo_dots_26 (by decide) ?_
          exact hB_31 _ hr_3 y_1 y_2 y_3 y_4 r_11 46 S_11 _ _ _ h hP hD hS (lv_sub hl [0, 1, 2, 3, 4] rfl)
  rw [f_Mo_dots] at h
  refine lv_iconst (v := 0) hx hb d_Mo_dots_0 (by decide) ?_
  refine lv_istore (lv' := [(4, .int 0), (0, .ref M.o), (1, .int p0), (2, .int p1), (3, .int p2)]) hx hb d_Mo_dots_1 hl (by decide) rfl (fun ls hl => ?_)
  exact hB_3 K p0 p1 p2 0 S _ _ _ h hP hD hS (lv_sub hl [1, 2, 3, 4, 0] rfl)
set_option maxHeartbeats 4000000 in
set_option maxRecDepth 100000 in
theorem l_Mo_part (l : Launch) (dC : Nat → ClassId) (dI : Nat → Nat → Nat) {K : Nat} {M : MA} {E : (Nat → Prop) → State → Prop} (X : lx_X l dC dI K M E) (sz : Nat) {S S' : MS} {p0 : Int32} {r : Int32} (h : f_Mo_part K S p0 = some (r, S')) : Met l y_Mo_part (.code y_Mo_part b_Mo_part 4 (some .boolean) :: V_Mq) ({ frames := 2, cells := 0, slots := 0, locals := 42 }) (va_Pc [.ref M.o, .int p0] (fun U => U.heap.size = sz ∧ at_ (dC, dI) (fun _ => True) (wM M S) (tM M) U ∧ E (va_A (wM M S) sz) U)) (va_Qi (fun (r_ : Int32) (u : Unit) => r_ = r) (fun (u : Unit) t => at_ (dC, dI) (va_A (wM M S) sz) (wM M S') (tM M) t) (va_A (wM M S) sz)) 0 0 (va_A (wM M S) sz) := by
  refine Met.ofW (cc := b_Mo_part) (maxL := 4) (ret := (some .boolean)) (by decide) rfl ?_
  intro p e s m args below meth c s₁ B hml hv
  obtain ⟨rfl, hsz, ⟨hP, hK, hD0⟩, hE⟩ := hv
  have hx := B.exec
  have hb := B.bytes
  have hr := B.returns
  have hts0 := atoms_spec (ws := .code y_Mo_part b_Mo_part 4 (some .boolean) :: V_Mq) B.pre
  have hts : ∀ w ∈ V_Mq, w.before ([.ref M.o, .int p0] : List Value).toArray s = true := fun w h => hts0 w (List.mem_cons_of_mem _ h)
  have hown : s.vm.findClass R_Mo = some m.cls := findClass_of_methodNamed B.named
  subst hsz
  have hD := hD0.self (sz := s.heap.size)
  generalize hAe : va_A (wM M S) s.heap.size = A at hD hE ⊢
  have hA : ∀ q : Nat, s.heap.size ≤ q → A q := fun q h => by rw [← hAe]; exact Or.inr h
  have hS : va_S A s.heap s.heap [] := va_S.rf
  have hP : va_P (dC, dI) classes (wM M S) s.heap := hP
  have hK : va_K (dC, dI) classes (tM M) s := hK
  have hEw : ∀ (H : Heap) (locs : List Loc), va_S A s.heap H locs → ∀ U : State, U.heap = H → s.WarmedH U.vm → E A U := fun H locs hS U hU hW => X.kept A s U H locs hE hS hU hW
  have hl := lv_entry ([.ref M.o, .int p0]) (n := 4) (Nat.le_of_ble_eq_true rfl)
  rw [lg_entry_eq]
  generalize (lg_sl ([.ref M.o, .int p0]) ++ List.replicate (4 - (lg_sl ([.ref M.o, .int p0])).length) Slot.unset).toArray = ls at hl ⊢
  have hl : lv_has ls 4 [(0, .ref M.o), (1, .int p0)] := hl
  refine qabs (fun Q hQ => ?_)
  have hB_25 : ∀ (S : MS) (H : Heap) (locs : List Loc) (ls : Array Slot), f_Mo_part_25 K S = some (r, S') → va_P (dC, dI) classes (wM M S) H → va_D A (wM M S) → va_S A s.heap H locs → lv_has ls 4 [] → W p l e ({ frames := 2, cells := 0, slots := 0, locals := 42 }) s m ([.ref M.o, .int p0] : List Value).toArray below meth c H locs 0 0 Q (F0 m 25 ls []) := by
    intro S H locs ls h hP hD hS hl
    rw [f_Mo_part_25] at h
    refine lv_iconst (v := 0) hx hb d_Mo_part_25 (by decide) ?_
    rw [hQ]
    have e1 : (0 : Int32) = r := congrArg Prod.fst (Option.some.inj h)
    have e2 : S = S' := congrArg Prod.snd (Option.some.inj h)
    have hP := lx_newP e2.symm hP
    have hD := lx_newD e2.symm hD
    exact W.zret (v := 0) hx hb hr rfl (fun t ht hW => ⟨⟨0, (), rfl, e1, by rw [ht]; exact hP, va_K.moved hW.alike hK, hD⟩, hS.F ht⟩) hS.2.2 d_Mo_part_26
  have hB_115 : ∀ (S : MS) (H : Heap) (locs : List Loc) (ls : Array Slot), f_Mo_part_115 K S = some (r, S') → va_P (dC, dI) classes (wM M S) H → va_D A (wM M S) → va_S A s.heap H locs → lv_has ls 4 [] → W p l e ({ frames := 2, cells := 0, slots := 0, locals := 42 }) s m ([.ref M.o, .int p0] : List Value).toArray below meth c H locs 0 0 Q (F0 m 115 ls []) := by
    intro S H locs ls h hP hD hS hl
    rw [f_Mo_part_115] at h
    refine lv_iconst (v := 0) hx hb d_Mo_part_115 (by decide) ?_
    rw [hQ]
    have e1 : (0 : Int32) = r := congrArg Prod.fst (Option.some.inj h)
    have e2 : S = S' := congrArg Prod.snd (Option.some.inj h)
    have hP := lx_newP e2.symm hP
    have hD := lx_newD e2.symm hD
    exact W.zret (v := 0) hx hb hr rfl (fun t ht hW => ⟨⟨0, (), rfl, e1, by rw [ht]; exact hP, va_K.moved hW.alike hK, hD⟩, hS.F ht⟩) hS.2.2 d_Mo_part_116
  have hB_175 : ∀ (rec_119 : Int32 → Int32 → MS → Option (Int32 × MS)) (hr_119 : ∀ (y_1 : Int32) (y_3 : Int32) (S : MS) (H : Heap) (locs : List Loc) (ls : Array Slot), rec_119 y_1 y_3 S = some (r, S') → va_P (dC, dI) classes (wM M S) H → va_D A (wM M S) → va_S A s.heap H locs → lv_has ls 4 [(0, .ref M.o), (1, .int y_1), (3, .int y_3)] → W p l e ({ frames := 2, cells := 0, slots := 0, locals := 42 }) s m ([.ref M.o, .int p0] : List Value).toArray below meth c H locs 0 0 Q (F0 m 119 ls [])), ∀ (y_1 : Int32) (y_3 : Int32) (z_1 : Int32) (z_3 : Int32) (z_4 : Int32) (S : MS) (H : Heap) (locs : List Loc) (ls : Array Slot), f_Mo_part_175 K rec_119 y_1 y_3 z_1 z_3 z_4 S = some (r, S') → va_P (dC, dI) classes (wM M S) H → va_D A (wM M S) → va_S A s.heap H locs → lv_has ls 4 [(0, .ref M.o), (1, .int y_1), (3, .int y_3)] → W p l e ({ frames := 2, cells := 0, slots := 0, locals := 42 }) s m ([.ref M.o, .int p0] : List Value).toArray below meth c H locs 0 0 Q (F0 m 175 ls [.int z_4, .int z_3, .ref M.o, .int z_1, .ref M.a_name]) := by
    intro rec_119 hr_119 y_1 y_3 z_1 z_3 z_4 S H locs ls h hP hD hS hl
    rw [f_Mo_part_175] at h
    refine lv_iadd hx hb d_Mo_part_175 ?_
    obtain ⟨r_22, S_22, hc_22, h⟩ := lf_cE h
    have hFc := lx_free hD hS hA
    refine va_calli (va_runV (As := [.int (z_3 + z_4)]) (rest := [.int z_1, .ref M.a_name]) ⟨hx, hb, hml, hown, hts⟩ (l_Mo_two l dC dI X _ hc_22) (cwV 1 hts (gwV good_Mq (u_Mq_Mo _ k_Mo_97) (u_Mq_Mo _ k_Mo_98) (u_Mq_Mo _ k_Mo_476) (u_Mq_Mo _ k_Mo_0) (wcs (u_Mq_Mo _ k_Mo_99) (fun _ h => h))) rfl rfl rfl (by decide +kernel) ⟨Nat.le_of_ble_eq_true rfl, Nat.le_of_ble_eq_true rfl⟩) (pv_ofE (X.same _) (fun U z1 z2 => X.mono _ _ U hFc (hEw _ _ hS U z1 z2)) hP hK hD (va_recv hK hP (ci := 12) (q0 := 0) rfl rfl)) rfl rfl hl.1 rfl (lv_room (Nat.le_of_ble_eq_true rfl)) d_Mo_part_176 ⟨by decide, by decide⟩) hS (fun q _ h => hFc q h) hFc (fun r_ u t H locs ht hvm hw hB hz1 hk1 hS => ?_)
    rw [hw]
    obtain ⟨hP, -, hD⟩ := hB
    rw [ht] at hP
    have hD := lx_dj hD hFc
    refine lv_i2c hx hb d_Mo_part_179 rfl ?_
    obtain ⟨g_23, h⟩ := lf_gE h
    refine va_cast hx hb hK hP hD hS 17 16 rfl rfl g_23 d_Mo_part_180 (fun H locs hP hD hS => ?_)
    obtain ⟨S_24, eS_24, h⟩ := lf_lX h
    have hP := lx_newP eS_24 hP
    have hD := lx_newD eS_24 hD
    obtain ⟨x_25, ex_25, h⟩ := lf_lX h
    refine lv_iinc (v := x_25) (lv' := [(3, .int x_25), (0, .ref M.o), (1, .int y_1)]) hx hb d_Mo_part_181 hl (k := 2) rfl (by rw [ex_25]; rfl) (by decide) rfl (fun ls hl => ?_)
    refine lv_goto (tgt := 119) hx hb d_Mo_part_184 (by decide) ?_
    exact hr_119 y_1 x_25 S_24 _ _ _ h hP hD hS (lv_sub hl [1, 2, 0] rfl)
  have hB_119 : ∀ (k : Nat), ∀ (y_1 : Int32) (y_3 : Int32) (S : MS) (H : Heap) (locs : List Loc) (ls : Array Slot), f_Mo_part_119 K k y_1 y_3 S = some (r, S') → va_P (dC, dI) classes (wM M S) H → va_D A (wM M S) → va_S A s.heap H locs → lv_has ls 4 [(0, .ref M.o), (1, .int y_1), (3, .int y_3)] → W p l e ({ frames := 2, cells := 0, slots := 0, locals := 42 }) s m ([.ref M.o, .int p0] : List Value).toArray below meth c H locs 0 0 Q (F0 m 119 ls []) := by
    intro k
    induction k with
    | zero => intro y_1 y_3 S H locs ls h; exact lf_no h
    | succ k hr_119 =>
      intro y_1 y_3 S H locs ls h hP hD hS hl
      rw [f_Mo_part_119] at h
      refine lv_iload_n hx hb d_Mo_part_119 rfl (lv_at hl 2 rfl) ?_
      refine lv_bipush (v := 13) hx hb d_Mo_part_120 (by decide) ?_
      refine lv_icmp_ge (tgt := 187) hx hb d_Mo_part_122 (by decide) (fun c_17 => ?_) (fun c_17 => ?_)
      · have h := lf_t h c_17
        refine lv_aload_n hx hb d_Mo_part_187 rfl (lv_at hl 0 rfl) ?_
        refine lv_dup hx hb d_Mo_part_188 rfl ?_
        refine va_get (D := (dC, dI)) (ci := 12) (v := .int S.v_met) (C := R_Mo) (T := F_Mo) (N := 66) hx hb hts (fun w h => u_Mq_Mo w (i_Mo w h)) hown hK hP 0 rfl rfl 40 (by decide) (hts _ (u_Mq_Mo _ k_Mo_47)) (fun _ h9 => h9) rfl d_Mo_part_189 ?_
        refine lv_iconst (v := 1) hx hb d_Mo_part_192 (by decide) ?_
        refine lv_iadd hx hb d_Mo_part_193 ?_
        refine va_put (D := (dC, dI)) (ci := 12) (v := .int (S.v_met + 1)) (ty := .int) (C := R_Mo) (T := F_Mo) (N := 66) hx hb hts (fun w h => u_Mq_Mo w (i_Mo w h)) t_Mo t_Mo_ok n_Mo hown hK hP hD hS 0 rfl rfl 40 (by decide) (hts _ (u_Mq_Mo _ k_Mo_47)) (fun _ h9 => h9) rfl (by decide +kernel) rfl rfl (Nat.le_of_ble_eq_true rfl) d_Mo_part_194 (fun H locs hP hD hS => ?_)
        obtain ⟨S_18, eS_18, h⟩ := lf_lX h
        have hP := lx_newP eS_18 hP
        have hD := lx_newD eS_18 hD
        refine lv_aload_n hx hb d_Mo_part_197 rfl (lv_at hl 0 rfl) ?_
        refine lv_dup hx hb d_Mo_part_198 rfl ?_
        refine va_get (D := (dC, dI)) (ci := 12) (v := .int S_18.v_left) (C := R_Mo) (T := F_Mo) (N := 66) hx hb hts (fun w h => u_Mq_Mo w (i_Mo w h)) hown hK hP 0 rfl rfl 41 (by decide) (hts _ (u_Mq_Mo _ k_Mo_48)) (fun _ h9 => h9) rfl d_Mo_part_199 ?_
        refine lv_iconst (v := 1) hx hb d_Mo_part_202 (by decide) ?_
        refine lv_isub hx hb d_Mo_part_203 ?_
        refine va_put (D := (dC, dI)) (ci := 12) (v := .int (S_18.v_left - 1)) (ty := .int) (C := R_Mo) (T := F_Mo) (N := 66) hx hb hts (fun w h => u_Mq_Mo w (i_Mo w h)) t_Mo t_Mo_ok n_Mo hown hK hP hD hS 0 rfl rfl 41 (by decide) (hts _ (u_Mq_Mo _ k_Mo_48)) (fun _ h9 => h9) rfl (by decide +kernel) rfl rfl (Nat.le_of_ble_eq_true rfl) d_Mo_part_204 (fun H locs hP hD hS => ?_)
        obtain ⟨S_19, eS_19, h⟩ := lf_lX h
        have hP := lx_newP eS_19 hP
        have hD := lx_newD eS_19 hD
        refine lv_iconst (v := 1) hx hb d_Mo_part_207 (by decide) ?_
        rw [hQ]
        have e1 : (1 : Int32) = r := congrArg Prod.fst (Option.some.inj h)
        have e2 : S_19 = S' := congrArg Prod.snd (Option.some.inj h)
        have hP := lx_newP e2.symm hP
        have hD := lx_newD e2.symm hD
        exact W.zret (v := 1) hx hb hr rfl (fun t ht hW => ⟨⟨1, (), rfl, e1, by rw [ht]; exact hP, va_K.moved hW.alike hK, hD⟩, hS.F ht⟩) hS.2.2 d_Mo_part_208
      · have h := lf_f h c_17
        refine lv_aload_n hx hb d_Mo_part_125 rfl (lv_at hl 0 rfl) ?_
        refine va_get (D := (dC, dI)) (ci := 12) (v := .ref M.a_name) (C := R_Mo) (T := F_Mo) (N := 66) hx hb hts (fun w h => u_Mq_Mo w (i_Mo w h)) hown hK hP 0 rfl rfl 38 (by decide) (hts _ (u_Mq_Mo _ k_Mo_45)) (fun _ h9 => h9) rfl d_Mo_part_126 ?_
        refine lv_bipush (v := 13) hx hb d_Mo_part_129 (by decide) ?_
        refine lv_aload_n hx hb d_Mo_part_131 rfl (lv_at hl 0 rfl) ?_
        refine va_get (D := (dC, dI)) (ci := 12) (v := .int S.v_left) (C := R_Mo) (T := F_Mo) (N := 66) hx hb hts (fun w h => u_Mq_Mo w (i_Mo w h)) hown hK hP 0 rfl rfl 41 (by decide) (hts _ (u_Mq_Mo _ k_Mo_48)) (fun _ h9 => h9) rfl d_Mo_part_132 ?_
        refine lv_iconst (v := 1) hx hb d_Mo_part_135 (by decide) ?_
        refine lv_isub hx hb d_Mo_part_136 ?_
        refine lv_imul hx hb d_Mo_part_137 ?_
        refine lv_iload_n hx hb d_Mo_part_138 rfl (lv_at hl 2 rfl) ?_
        refine lv_iadd hx hb d_Mo_part_139 ?_
        refine lv_aload_n hx hb d_Mo_part_140 rfl (lv_at hl 0 rfl) ?_
        refine lv_iload_n hx hb d_Mo_part_141 rfl (lv_at hl 1 rfl) ?_
        refine lv_iload_n hx hb d_Mo_part_142 rfl (lv_at hl 2 rfl) ?_
        refine lv_iconst (v := 5) hx hb d_Mo_part_143 (by decide) ?_
        refine lv_icmp_ge (tgt := 155) hx hb d_Mo_part_144 (by decide) (fun c_20 => ?_) (fun c_20 => ?_)
        · have h := lf_t h c_20
          refine lv_iload_n hx hb d_Mo_part_155 rfl (lv_at hl 2 rfl) ?_
          refine lv_bipush (v := 11) hx hb d_Mo_part_156 (by decide) ?_
          refine lv_icmp_ge (tgt := 169) hx hb d_Mo_part_158 (by decide) (fun c_21 => ?_) (fun c_21 => ?_)
          · have h := lf_t h c_21
            refine lv_bipush (v := 6) hx hb d_Mo_part_169 (by decide) ?_
            refine lv_iconst (v := 2) hx hb d_Mo_part_171 (by decide) ?_
            refine lv_iload_n hx hb d_Mo_part_172 rfl (lv_at hl 2 rfl) ?_
            refine lv_imul hx hb d_Mo_part_173 ?_
            refine lv_iadd hx hb d_Mo_part_174 ?_
            exact hB_175 _ hr_119 y_1 y_3 ((13 * (S.v_left - 1)) + y_3) y_1 (6 + (2 * y_3)) S _ _ _ h hP hD hS (lv_sub hl [0, 1, 2] rfl)
          · have h := lf_f h c_21
            refine lv_iconst (v := 4) hx hb d_Mo_part_161 (by decide) ?_
            refine lv_iconst (v := 2) hx hb d_Mo_part_162 (by decide) ?_
            refine lv_iload_n hx hb d_Mo_part_163 rfl (lv_at hl 2 rfl) ?_
            refine lv_imul hx hb d_Mo_part_164 ?_
            refine lv_iadd hx hb d_Mo_part_165 ?_
            refine lv_goto (tgt := 175) hx hb d_Mo_part_166 (by decide) ?_
            exact hB_175 _ hr_119 y_1 y_3 ((13 * (S.v_left - 1)) + y_3) y_1 (4 + (2 * y_3)) S _ _ _ h hP hD hS (lv_sub hl [0, 1, 2] rfl)
        · have h := lf_f h c_20
          refine lv_iconst (v := 1) hx hb d_Mo_part_147 (by decide) ?_
          refine lv_iconst (v := 2) hx hb d_Mo_part_148 (by decide) ?_
          refine lv_iload_n hx hb d_Mo_part_149 rfl (lv_at hl 2 rfl) ?_
          refine lv_imul hx hb d_Mo_part_150 ?_
          refine lv_iadd hx hb d_Mo_part_151 ?_
          refine lv_goto (tgt := 175) hx hb d_Mo_part_152 (by decide) ?_
          exact hB_175 _ hr_119 y_1 y_3 ((13 * (S.v_left - 1)) + y_3) y_1 (1 + (2 * y_3)) S _ _ _ h hP hD hS (lv_sub hl [0, 1, 2] rfl)
  have hB_71 : ∀ (y_1 : Int32) (S : MS) (H : Heap) (locs : List Loc) (ls : Array Slot), f_Mo_part_71 K y_1 S = some (r, S') → va_P (dC, dI) classes (wM M S) H → va_D A (wM M S) → va_S A s.heap H locs → lv_has ls 4 [(0, .ref M.o), (1, .int y_1)] → W p l e ({ frames := 2, cells := 0, slots := 0, locals := 42 }) s m ([.ref M.o, .int p0] : List Value).toArray below meth c H locs 0 0 Q (F0 m 71 ls []) := by
    intro y_1 S H locs ls h hP hD hS hl
    rw [f_Mo_part_71] at h
    refine lv_aload_n hx hb d_Mo_part_71 rfl (lv_at hl 0 rfl) ?_
    refine va_get (D := (dC, dI)) (ci := 12) (v := .int S.v_left) (C := R_Mo) (T := F_Mo) (N := 66) hx hb hts (fun w h => u_Mq_Mo w (i_Mo w h)) hown hK hP 0 rfl rfl 41 (by decide) (hts _ (u_Mq_Mo _ k_Mo_48)) (fun _ h9 => h9) rfl d_Mo_part_72 ?_
    refine lv_if_eq (tgt := 115) hx hb d_Mo_part_75 (by decide) (fun c_10 => ?_) (fun c_10 => ?_)
    · have h := lf_t h c_10
      exact hB_115 S _ _ _ h hP hD hS (lv_sub hl [] rfl)
    · have h := lf_f h c_10
      refine lv_aload_n hx hb d_Mo_part_78 rfl (lv_at hl 0 rfl) ?_
      refine lv_iload_n hx hb d_Mo_part_79 rfl (lv_at hl 1 rfl) ?_
      refine lv_bipush (v := 12) hx hb d_Mo_part_80 (by decide) ?_
      refine lv_iadd hx hb d_Mo_part_82 ?_
      obtain ⟨r_11, S_11, hc_11, h⟩ := lf_cE h
      have hFc := lx_free hD hS hA
      refine va_calli (va_runV (As := [.int (y_1 + 12)]) (rest := []) ⟨hx, hb, hml, hown, hts⟩ (l_Mo_one l dC dI X _ hc_11) (cwV 1 hts (gwV good_Mq (u_Mq_Mo _ k_Mo_94) (u_Mq_Mo _ k_Mo_95) (u_Mq_Mo _ k_Mo_475) (u_Mq_Mo _ k_Mo_0) (wcs (u_Mq_Mo _ k_Mo_96) (fun _ h => h))) rfl rfl rfl (by decide +kernel) ⟨Nat.le_of_ble_eq_true rfl, Nat.le_of_ble_eq_true rfl⟩) (pv_ofE (X.same _) (fun U z1 z2 => X.mono _ _ U hFc (hEw _ _ hS U z1 z2)) hP hK hD (va_recv hK hP (ci := 12) (q0 := 0) rfl rfl)) rfl rfl hl.1 rfl (lv_room (Nat.le_of_ble_eq_true rfl)) d_Mo_part_83 ⟨by decide, by decide⟩) hS (fun q _ h => hFc q h) hFc (fun r_ u t H locs ht hvm hw hB hz1 hk1 hS => ?_)
      rw [hw]
      obtain ⟨hP, -, hD⟩ := hB
      rw [ht] at hP
      have hD := lx_dj hD hFc
      refine lv_if_ne (tgt := 115) hx hb d_Mo_part_86 (by decide) (fun c_12 => ?_) (fun c_12 => ?_)
      · have h := lf_f h c_12
        exact hB_115 S_11 _ _ _ h hP hD hS (lv_sub hl [] rfl)
      · have h := lf_t h c_12
        refine lv_aload_n hx hb d_Mo_part_89 rfl (lv_at hl 0 rfl) ?_
        refine lv_iload_n hx hb d_Mo_part_90 rfl (lv_at hl 1 rfl) ?_
        refine lv_bipush (v := 26) hx hb d_Mo_part_91 (by decide) ?_
        refine lv_iadd hx hb d_Mo_part_93 ?_
        obtain ⟨r_13, S_13, hc_13, h⟩ := lf_cE h
        have hFc := lx_free hD hS hA
        refine va_calli (va_runV (As := [.int (y_1 + 26)]) (rest := []) ⟨hx, hb, hml, hown, hts⟩ (l_Mo_two l dC dI X _ hc_13) (cwV 1 hts (gwV good_Mq (u_Mq_Mo _ k_Mo_97) (u_Mq_Mo _ k_Mo_98) (u_Mq_Mo _ k_Mo_476) (u_Mq_Mo _ k_Mo_0) (wcs (u_Mq_Mo _ k_Mo_99) (fun _ h => h))) rfl rfl rfl (by decide +kernel) ⟨Nat.le_of_ble_eq_true rfl, Nat.le_of_ble_eq_true rfl⟩) (pv_ofE (X.same _) (fun U z1 z2 => X.mono _ _ U hFc (hEw _ _ hS U z1 z2)) hP hK hD (va_recv hK hP (ci := 12) (q0 := 0) rfl rfl)) rfl rfl hl.1 rfl (lv_room (Nat.le_of_ble_eq_true rfl)) d_Mo_part_94 ⟨by decide, by decide⟩) hS (fun q _ h => hFc q h) hFc (fun r_ u t H locs ht hvm hw hB hz1 hk1 hS => ?_)
        rw [hw]
        obtain ⟨hP, -, hD⟩ := hB
        rw [ht] at hP
        have hD := lx_dj hD hFc
        refine lv_if_ne (tgt := 115) hx hb d_Mo_part_97 (by decide) (fun c_14 => ?_) (fun c_14 => ?_)
        · have h := lf_f h c_14
          exact hB_115 S_13 _ _ _ h hP hD hS (lv_sub hl [] rfl)
        · have h := lf_t h c_14
          refine lv_aload_n hx hb d_Mo_part_100 rfl (lv_at hl 0 rfl) ?_
          refine lv_iload_n hx hb d_Mo_part_101 rfl (lv_at hl 1 rfl) ?_
          refine lv_bipush (v := 13) hx hb d_Mo_part_102 (by decide) ?_
          refine lv_iadd hx hb d_Mo_part_104 ?_
          obtain ⟨r_15, S_15, hc_15, h⟩ := lf_cE h
          have hFc := lx_free hD hS hA
          refine va_calli (va_runV (As := [.int (y_1 + 13)]) (rest := []) ⟨hx, hb, hml, hown, hts⟩ (l_Mo_one l dC dI X _ hc_15) (cwV 1 hts (gwV good_Mq (u_Mq_Mo _ k_Mo_94) (u_Mq_Mo _ k_Mo_95) (u_Mq_Mo _ k_Mo_475) (u_Mq_Mo _ k_Mo_0) (wcs (u_Mq_Mo _ k_Mo_96) (fun _ h => h))) rfl rfl rfl (by decide +kernel) ⟨Nat.le_of_ble_eq_true rfl, Nat.le_of_ble_eq_true rfl⟩) (pv_ofE (X.same _) (fun U z1 z2 => X.mono _ _ U hFc (hEw _ _ hS U z1 z2)) hP hK hD (va_recv hK hP (ci := 12) (q0 := 0) rfl rfl)) rfl rfl hl.1 rfl (lv_room (Nat.le_of_ble_eq_true rfl)) d_Mo_part_105 ⟨by decide, by decide⟩) hS (fun q _ h => hFc q h) hFc (fun r_ u t H locs ht hvm hw hB hz1 hk1 hS => ?_)
          rw [hw]
          obtain ⟨hP, -, hD⟩ := hB
          rw [ht] at hP
          have hD := lx_dj hD hFc
          refine lv_aload_n hx hb d_Mo_part_108 rfl (lv_at hl 0 rfl) ?_
          refine va_get (D := (dC, dI)) (ci := 12) (v := .int S_15.v_sum) (C := R_Mo) (T := F_Mo) (N := 66) hx hb hts (fun w h => u_Mq_Mo w (i_Mo w h)) hown hK hP 0 rfl rfl 42 (by decide) (hts _ (u_Mq_Mo _ k_Mo_49)) (fun _ h9 => h9) rfl d_Mo_part_109 ?_
          refine lv_icmp_eq (tgt := 117) hx hb d_Mo_part_112 (by decide) (fun c_16 => ?_) (fun c_16 => ?_)
          · have h := lf_t h c_16
            refine lv_iconst (v := 0) hx hb d_Mo_part_117 (by decide) ?_
            refine lv_istore_n (lv' := [(3, .int 0), (0, .ref M.o), (1, .int y_1)]) hx hb d_Mo_part_118 rfl hl (by decide) rfl (fun ls hl => ?_)
            exact hB_119 K y_1 0 S_15 _ _ _ h hP hD hS (lv_sub hl [1, 2, 0] rfl)
          · have h := lf_f h c_16
            exact hB_115 S_15 _ _ _ h hP hD hS (lv_sub hl [] rfl)
  rw [f_Mo_part] at h
  refine lv_aload_n hx hb d_Mo_part_0 rfl (lv_at hl 0 rfl) ?_
  refine lv_iload_n hx hb d_Mo_part_1 rfl (lv_at hl 1 rfl) ?_
  obtain ⟨r_1, S_1, hc_1, h⟩ := lf_cE h
  have hFc := lx_free hD hS hA
  refine va_calli (va_runV (As := [.int p0]) (rest := []) ⟨hx, hb, hml, hown, hts⟩ (l_Mo_one l dC dI X _ hc_1) (cwV 1 hts (gwV good_Mq (u_Mq_Mo _ k_Mo_94) (u_Mq_Mo _ k_Mo_95) (u_Mq_Mo _ k_Mo_475) (u_Mq_Mo _ k_Mo_0) (wcs (u_Mq_Mo _ k_Mo_96) (fun _ h => h))) rfl rfl rfl (by decide +kernel) ⟨Nat.le_of_ble_eq_true rfl, Nat.le_of_ble_eq_true rfl⟩) (pv_ofE (X.same _) (fun U z1 z2 => X.mono _ _ U hFc (hEw _ _ hS U z1 z2)) hP hK hD (va_recv hK hP (ci := 12) (q0 := 0) rfl rfl)) rfl rfl hl.1 rfl (lv_room (Nat.le_of_ble_eq_true rfl)) d_Mo_part_2 ⟨by decide, by decide⟩) hS (fun q _ h => hFc q h) hFc (fun r_ u t H locs ht hvm hw hB hz1 hk1 hS => ?_)
  rw [hw]
  obtain ⟨hP, -, hD⟩ := hB
  rw [ht] at hP
  have hD := lx_dj hD hFc
  refine lv_istore_n (lv' := [(2, .int r_1), (0, .ref M.o), (1, .int p0)]) hx hb d_Mo_part_5 rfl hl (by decide) rfl (fun ls hl => ?_)
  refine lv_aload_n hx hb d_Mo_part_6 rfl (lv_at hl 1 rfl) ?_
  refine va_get (D := (dC, dI)) (ci := 12) (v := .int S_1.v_met) (C := R_Mo) (T := F_Mo) (N := 66) hx hb hts (fun w h => u_Mq_Mo w (i_Mo w h)) hown hK hP 0 rfl rfl 40 (by decide) (hts _ (u_Mq_Mo _ k_Mo_47)) (fun _ h9 => h9) rfl d_Mo_part_7 ?_
  refine lv_if_ne (tgt := 61) hx hb d_Mo_part_10 (by decide) (fun c_2 => ?_) (fun c_2 => ?_)
  · have h := lf_f h c_2
    refine lv_iload_n hx hb d_Mo_part_61 rfl (lv_at hl 0 rfl) ?_
    refine lv_aload_n hx hb d_Mo_part_62 rfl (lv_at hl 1 rfl) ?_
    refine va_get (D := (dC, dI)) (ci := 12) (v := .int S_1.v_left) (C := R_Mo) (T := F_Mo) (N := 66) hx hb hts (fun w h => u_Mq_Mo w (i_Mo w h)) hown hK hP 0 rfl rfl 41 (by decide) (hts _ (u_Mq_Mo _ k_Mo_48)) (fun _ h9 => h9) rfl d_Mo_part_63 ?_
    refine lv_icmp_eq (tgt := 71) hx hb d_Mo_part_66 (by decide) (fun c_3 => ?_) (fun c_3 => ?_)
    · have h := lf_t h c_3
      exact hB_71 p0 S_1 _ _ _ h hP hD hS (lv_sub hl [1, 2] rfl)
    · have h := lf_f h c_3
      refine lv_iconst (v := 0) hx hb d_Mo_part_69 (by decide) ?_
      rw [hQ]
      have e1 : (0 : Int32) = r := congrArg Prod.fst (Option.some.inj h)
      have e2 : S_1 = S' := congrArg Prod.snd (Option.some.inj h)
      have hP := lx_newP e2.symm hP
      have hD := lx_newD e2.symm hD
      exact W.zret (v := 0) hx hb hr rfl (fun t ht hW => ⟨⟨0, (), rfl, e1, by rw [ht]; exact hP, va_K.moved hW.alike hK, hD⟩, hS.F ht⟩) hS.2.2 d_Mo_part_70
  · have h := lf_t h c_2
    refine lv_iload_n hx hb d_Mo_part_13 rfl (lv_at hl 0 rfl) ?_
    refine lv_bipush (v := 65) hx hb d_Mo_part_14 (by decide) ?_
    refine lv_icmp_lt (tgt := 25) hx hb d_Mo_part_16 (by decide) (fun c_4 => ?_) (fun c_4 => ?_)
    · have h := lf_t h c_4
      exact hB_25 S_1 _ _ _ h hP hD hS (lv_sub hl [] rfl)
    · have h := lf_f h c_4
      refine lv_iload_n hx hb d_Mo_part_19 rfl (lv_at hl 0 rfl) ?_
      refine lv_bipush (v := 84) hx hb d_Mo_part_20 (by decide) ?_
      refine lv_icmp_le (tgt := 27) hx hb d_Mo_part_22 (by decide) (fun c_5 => ?_) (fun c_5 => ?_)
      · have h := lf_t h c_5
        refine lv_aload_n hx hb d_Mo_part_27 rfl (lv_at hl 1 rfl) ?_
        refine lv_iload_n hx hb d_Mo_part_28 rfl (lv_at hl 0 rfl) ?_
        refine lv_bipush (v := 64) hx hb d_Mo_part_29 (by decide) ?_
        refine lv_isub hx hb d_Mo_part_31 ?_
        refine va_put (D := (dC, dI)) (ci := 12) (v := .int (r_1 - 64)) (ty := .int) (C := R_Mo) (T := F_Mo) (N := 66) hx hb hts (fun w h => u_Mq_Mo w (i_Mo w h)) t_Mo t_Mo_ok n_Mo hown hK hP hD hS 0 rfl rfl 41 (by decide) (hts _ (u_Mq_Mo _ k_Mo_48)) (fun _ h9 => h9) rfl (by decide +kernel) rfl rfl (Nat.le_of_ble_eq_true rfl) d_Mo_part_32 (fun H locs hP hD hS => ?_)
        obtain ⟨S_6, eS_6, h⟩ := lf_lX h
        have hP := lx_newP eS_6 hP
        have hD := lx_newD eS_6 hD
        refine lv_aload_n hx hb d_Mo_part_35 rfl (lv_at hl 1 rfl) ?_
        refine lv_bipush (v := 13) hx hb d_Mo_part_36 (by decide) ?_
        refine lv_aload_n hx hb d_Mo_part_38 rfl (lv_at hl 1 rfl) ?_
        refine va_get (D := (dC, dI)) (ci := 12) (v := .int S_6.v_left) (C := R_Mo) (T := F_Mo) (N := 66) hx hb hts (fun w h => u_Mq_Mo w (i_Mo w h)) hown hK hP 0 rfl rfl 41 (by decide) (hts _ (u_Mq_Mo _ k_Mo_48)) (fun _ h9 => h9) rfl d_Mo_part_39 ?_
        refine lv_imul hx hb d_Mo_part_42 ?_
        refine va_put (D := (dC, dI)) (ci := 12) (v := .int (13 * S_6.v_left)) (ty := .int) (C := R_Mo) (T := F_Mo) (N := 66) hx hb hts (fun w h => u_Mq_Mo w (i_Mo w h)) t_Mo t_Mo_ok n_Mo hown hK hP hD hS 0 rfl rfl 39 (by decide) (hts _ (u_Mq_Mo _ k_Mo_46)) (fun _ h9 => h9) rfl (by decide +kernel) rfl rfl (Nat.le_of_ble_eq_true rfl) d_Mo_part_43 (fun H locs hP hD hS => ?_)
        obtain ⟨S_7, eS_7, h⟩ := lf_lX h
        have hP := lx_newP eS_7 hP
        have hD := lx_newD eS_7 hD
        refine lv_aload_n hx hb d_Mo_part_46 rfl (lv_at hl 1 rfl) ?_
        refine lv_aload_n hx hb d_Mo_part_47 rfl (lv_at hl 1 rfl) ?_
        refine lv_iload_n hx hb d_Mo_part_48 rfl (lv_at hl 2 rfl) ?_
        refine lv_bipush (v := 13) hx hb d_Mo_part_49 (by decide) ?_
        refine lv_iadd hx hb d_Mo_part_51 ?_
        obtain ⟨r_8, S_8, hc_8, h⟩ := lf_cE h
        have hFc := lx_free hD hS hA
        refine va_calli (va_runV (As := [.int (p0 + 13)]) (rest := [.ref M.o]) ⟨hx, hb, hml, hown, hts⟩ (l_Mo_one l dC dI X _ hc_8) (cwV 1 hts (gwV good_Mq (u_Mq_Mo _ k_Mo_94) (u_Mq_Mo _ k_Mo_95) (u_Mq_Mo _ k_Mo_475) (u_Mq_Mo _ k_Mo_0) (wcs (u_Mq_Mo _ k_Mo_96) (fun _ h => h))) rfl rfl rfl (by decide +kernel) ⟨Nat.le_of_ble_eq_true rfl, Nat.le_of_ble_eq_true rfl⟩) (pv_ofE (X.same _) (fun U z1 z2 => X.mono _ _ U hFc (hEw _ _ hS U z1 z2)) hP hK hD (va_recv hK hP (ci := 12) (q0 := 0) rfl rfl)) rfl rfl hl.1 rfl (lv_room (Nat.le_of_ble_eq_true rfl)) d_Mo_part_52 ⟨by decide, by decide⟩) hS (fun q _ h => hFc q h) hFc (fun r_ u t H locs ht hvm hw hB hz1 hk1 hS => ?_)
        rw [hw]
        obtain ⟨hP, -, hD⟩ := hB
        rw [ht] at hP
        have hD := lx_dj hD hFc
        refine va_put (D := (dC, dI)) (ci := 12) (v := .int r_8) (ty := .int) (C := R_Mo) (T := F_Mo) (N := 66) hx hb hts (fun w h => u_Mq_Mo w (i_Mo w h)) t_Mo t_Mo_ok n_Mo hown hK hP hD hS 0 rfl rfl 42 (by decide) (hts _ (u_Mq_Mo _ k_Mo_49)) (fun _ h9 => h9) rfl (by decide +kernel) rfl rfl (Nat.le_of_ble_eq_true rfl) d_Mo_part_55 (fun H locs hP hD hS => ?_)
        obtain ⟨S_9, eS_9, h⟩ := lf_lX h
        have hP := lx_newP eS_9 hP
        have hD := lx_newD eS_9 hD
        refine lv_goto (tgt := 71) hx hb d_Mo_part_58 (by decide) ?_
        exact hB_71 p0 S_9 _ _ _ h hP hD hS (lv_sub hl [1, 2] rfl)
      · have h := lf_f h c_5
        exact hB_25 S_1 _ _ _ h hP hD hS (lv_sub hl [] rfl)
