set_option maxHeartbeats 4000000 in
set_option maxRecDepth 100000 in
theorem l_Tr_beginKids (l : Launch) (dC : Nat → ClassId) (dI : Nat → Nat → Nat) {K : Nat} {M : CA} {E : (Nat → Prop) → State → Prop} (X : ly_X l dC dI K M E) (sz : Nat) {Y : CT} {G : CG} {S S' : CS} {p0 : Int32} (h : f_Tr_beginKids K G S p0 = some S') : Met l y_Tr_beginKids (.code y_Tr_beginKids cb_Tr_beginKids 2 none :: V_Vq) ({ frames := 1, cells := 0, slots := 0, locals := 21 }) (va_Pc [.ref M.o_Tr, .int p0] (fun U => U.heap.size = sz ∧ at_ (dC, dI) (fun _ => True) (wV M Y G S) (tV M) U ∧ E (va_A (wV M Y G S) sz) U)) (va_Qv (fun (u : Unit) => True) (fun (u : Unit) t => at_ (dC, dI) (va_A (wV M Y G S) sz) (wV M Y G S') (tV M) t) (va_A (wV M Y G S) sz)) 0 0 (va_A (wV M Y G S) sz) := by
  refine Met.ofW (cc := cb_Tr_beginKids) (maxL := 2) (ret := none) (by decide) rfl ?_
  intro p e s m args below meth c s₁ B hml hv
  obtain ⟨rfl, hsz, ⟨hP, hK, hD0⟩, hE⟩ := hv
  have hx := B.exec
  have hb := B.bytes
  have hr := B.returns
  have hts0 := atoms_spec (ws := .code y_Tr_beginKids cb_Tr_beginKids 2 none :: V_Vq) B.pre
  have hts : ∀ w ∈ V_Vq, w.before ([.ref M.o_Tr, .int p0] : List Value).toArray s = true := fun w h => hts0 w (List.mem_cons_of_mem _ h)
  have hown : s.vm.findClass R_Tr = some m.cls := findClass_of_methodNamed B.named
  subst hsz
  have hD := hD0.self (sz := s.heap.size)
  generalize hAe : va_A (wV M Y G S) s.heap.size = A at hD hE ⊢
  have hA : ∀ q : Nat, s.heap.size ≤ q → A q := fun q h => by rw [← hAe]; exact Or.inr h
  have hS : va_S A s.heap s.heap [] := va_S.rf
  have hP : va_P (dC, dI) classes (wV M Y G S) s.heap := hP
  have hK : va_K (dC, dI) classes (tV M) s := hK
  have hEw : ∀ (H : Heap) (locs : List Loc), va_S A s.heap H locs → ∀ U : State, U.heap = H → s.WarmedH U.vm → E A U := fun H locs hS U hU hW => X.kept A s U H locs hE hS hU hW
  have hl := lv_entry ([.ref M.o_Tr, .int p0]) (n := 2) (Nat.le_of_ble_eq_true rfl)
  rw [lg_entry_eq]
  generalize (lg_sl ([.ref M.o_Tr, .int p0]) ++ List.replicate (2 - (lg_sl ([.ref M.o_Tr, .int p0])).length) Slot.unset).toArray = ls at hl ⊢
  have hl : lv_has ls 2 [(0, .ref M.o_Tr), (1, .int p0)] := hl
  refine qabs (fun Q hQ => ?_)
  rw [f_Tr_beginKids] at h
  refine lv_aload_n hx hb d_Tr_beginKids_0 rfl (lv_at hl 0 rfl) ?_
  refine lv_iload_n hx hb d_Tr_beginKids_1 rfl (lv_at hl 1 rfl) ?_
  obtain ⟨r_1, S_1, hc_1, h⟩ := lf_cE h
  have hFc := lx_free hD hS hA
  refine va_calli (va_runV (As := [.int p0]) (rest := []) ⟨hx, hb, hml, hown, hts⟩ (l_Tr_has l dC dI X _ hc_1) (cwV 1 hts (gwV good_Vq (u_Vq_Tr _ k_Tr_38) (u_Vq_Tr _ k_Tr_39) (u_Vq_Tr _ k_Tr_40) (u_Vq_Tr _ k_Tr_0) (wcs (u_Vq_Tr _ k_Tr_41) (fun _ h => h))) rfl rfl rfl (by decide +kernel) ⟨Nat.le_of_ble_eq_true rfl, Nat.le_of_ble_eq_true rfl⟩) (pv_ofE (X.same _) (fun U z1 z2 => X.mono _ _ U hFc (hEw _ _ hS U z1 z2)) hP hK hD (va_recv hK hP (ci := 5) (q0 := 4) rfl rfl)) rfl rfl hl.1 rfl (lv_room (Nat.le_of_ble_eq_true rfl)) d_Tr_beginKids_2 ⟨by decide, by decide⟩) hS (fun q _ h => hFc q h) hFc (fun r_ u t H locs ht hvm hw hB hz1 hk1 hS => ?_)
  rw [hw]
  obtain ⟨hP, -, hD⟩ := hB
  rw [ht] at hP
  have hD := lx_dj hD hFc
  refine lv_if_eq (tgt := 18) hx hb d_Tr_beginKids_5 (by decide) (fun c_2 => ?_) (fun c_2 => ?_)
  · have h := lf_t h c_2
    rw [hQ]
    have e2 : S_1 = S' := Option.some.inj h
    have hP := ly_newP e2.symm hP
    have hD := ly_newD e2.symm hD
    exact W.vret hx hb hr (fun t ht hW => ⟨⟨(), rfl, trivial, by rw [ht]; exact hP, va_K.moved hW.alike hK, hD⟩, hS.F ht⟩) hS.2.2 d_Tr_beginKids_18
  · have h := lf_f h c_2
    refine lv_aload_n hx hb d_Tr_beginKids_8 rfl (lv_at hl 0 rfl) ?_
    refine va_get (D := (dC, dI)) (ci := 5) (v := .ref Y.a_kids) (C := R_Tr) (T := F_Tr) (N := 18) hx hb hts (fun w h => u_Vq_Tr w (i_Tr w h)) hown hK hP 4 rfl rfl 9 (by decide) (hts _ (u_Vq_Tr _ k_Tr_14)) (fun _ h9 => h9) rfl d_Tr_beginKids_9 ?_
    refine lv_iload_n hx hb d_Tr_beginKids_12 rfl (lv_at hl 1 rfl) ?_
    refine lv_aload_n hx hb d_Tr_beginKids_13 rfl (lv_at hl 0 rfl) ?_
    refine va_get (D := (dC, dI)) (ci := 5) (v := .int S_1.v_Tr_count) (C := R_Tr) (T := F_Tr) (N := 18) hx hb hts (fun w h => u_Vq_Tr w (i_Tr w h)) hown hK hP 4 rfl rfl 0 (by decide) (hts _ (u_Vq_Tr _ k_Tr_5)) (fun _ h9 => h9) rfl d_Tr_beginKids_14 ?_
    obtain ⟨g_3, h⟩ := lf_gE h
    refine va_iast hx hb hK hP hD hS 24 2 rfl rfl g_3 d_Tr_beginKids_17 (fun H locs hP hD hS => ?_)
    obtain ⟨S_4, eS_4, h⟩ := lf_lX h
    have hP := ly_newP eS_4 hP
    have hD := ly_newD eS_4 hD
    rw [hQ]
    have e2 : S_4 = S' := Option.some.inj h
    have hP := ly_newP e2.symm hP
    have hD := ly_newD e2.symm hD
    exact W.vret hx hb hr (fun t ht hW => ⟨⟨(), rfl, trivial, by rw [ht]; exact hP, va_K.moved hW.alike hK, hD⟩, hS.F ht⟩) hS.2.2 d_Tr_beginKids_18
set_option maxHeartbeats 4000000 in
set_option maxRecDepth 100000 in
theorem l_Tr_endKids (l : Launch) (dC : Nat → ClassId) (dI : Nat → Nat → Nat) {K : Nat} {M : CA} {E : (Nat → Prop) → State → Prop} (X : ly_X l dC dI K M E) (sz : Nat) {Y : CT} {G : CG} {S S' : CS} {p0 : Int32} (h : f_Tr_endKids K G S p0 = some S') : Met l y_Tr_endKids (.code y_Tr_endKids cb_Tr_endKids 2 none :: V_Vq) ({ frames := 1, cells := 0, slots := 0, locals := 21 }) (va_Pc [.ref M.o_Tr, .int p0] (fun U => U.heap.size = sz ∧ at_ (dC, dI) (fun _ => True) (wV M Y G S) (tV M) U ∧ E (va_A (wV M Y G S) sz) U)) (va_Qv (fun (u : Unit) => True) (fun (u : Unit) t => at_ (dC, dI) (va_A (wV M Y G S) sz) (wV M Y G S') (tV M) t) (va_A (wV M Y G S) sz)) 0 0 (va_A (wV M Y G S) sz) := by
  refine Met.ofW (cc := cb_Tr_endKids) (maxL := 2) (ret := none) (by decide) rfl ?_
  intro p e s m args below meth c s₁ B hml hv
  obtain ⟨rfl, hsz, ⟨hP, hK, hD0⟩, hE⟩ := hv
  have hx := B.exec
  have hb := B.bytes
  have hr := B.returns
  have hts0 := atoms_spec (ws := .code y_Tr_endKids cb_Tr_endKids 2 none :: V_Vq) B.pre
  have hts : ∀ w ∈ V_Vq, w.before ([.ref M.o_Tr, .int p0] : List Value).toArray s = true := fun w h => hts0 w (List.mem_cons_of_mem _ h)
  have hown : s.vm.findClass R_Tr = some m.cls := findClass_of_methodNamed B.named
  subst hsz
  have hD := hD0.self (sz := s.heap.size)
  generalize hAe : va_A (wV M Y G S) s.heap.size = A at hD hE ⊢
  have hA : ∀ q : Nat, s.heap.size ≤ q → A q := fun q h => by rw [← hAe]; exact Or.inr h
  have hS : va_S A s.heap s.heap [] := va_S.rf
  have hP : va_P (dC, dI) classes (wV M Y G S) s.heap := hP
  have hK : va_K (dC, dI) classes (tV M) s := hK
  have hEw : ∀ (H : Heap) (locs : List Loc), va_S A s.heap H locs → ∀ U : State, U.heap = H → s.WarmedH U.vm → E A U := fun H locs hS U hU hW => X.kept A s U H locs hE hS hU hW
  have hl := lv_entry ([.ref M.o_Tr, .int p0]) (n := 2) (Nat.le_of_ble_eq_true rfl)
  rw [lg_entry_eq]
  generalize (lg_sl ([.ref M.o_Tr, .int p0]) ++ List.replicate (2 - (lg_sl ([.ref M.o_Tr, .int p0])).length) Slot.unset).toArray = ls at hl ⊢
  have hl : lv_has ls 2 [(0, .ref M.o_Tr), (1, .int p0)] := hl
  refine qabs (fun Q hQ => ?_)
  rw [f_Tr_endKids] at h
  refine lv_aload_n hx hb d_Tr_endKids_0 rfl (lv_at hl 0 rfl) ?_
  refine lv_iload_n hx hb d_Tr_endKids_1 rfl (lv_at hl 1 rfl) ?_
  obtain ⟨r_1, S_1, hc_1, h⟩ := lf_cE h
  have hFc := lx_free hD hS hA
  refine va_calli (va_runV (As := [.int p0]) (rest := []) ⟨hx, hb, hml, hown, hts⟩ (l_Tr_has l dC dI X _ hc_1) (cwV 1 hts (gwV good_Vq (u_Vq_Tr _ k_Tr_38) (u_Vq_Tr _ k_Tr_39) (u_Vq_Tr _ k_Tr_40) (u_Vq_Tr _ k_Tr_0) (wcs (u_Vq_Tr _ k_Tr_41) (fun _ h => h))) rfl rfl rfl (by decide +kernel) ⟨Nat.le_of_ble_eq_true rfl, Nat.le_of_ble_eq_true rfl⟩) (pv_ofE (X.same _) (fun U z1 z2 => X.mono _ _ U hFc (hEw _ _ hS U z1 z2)) hP hK hD (va_recv hK hP (ci := 5) (q0 := 4) rfl rfl)) rfl rfl hl.1 rfl (lv_room (Nat.le_of_ble_eq_true rfl)) d_Tr_endKids_2 ⟨by decide, by decide⟩) hS (fun q _ h => hFc q h) hFc (fun r_ u t H locs ht hvm hw hB hz1 hk1 hS => ?_)
  rw [hw]
  obtain ⟨hP, -, hD⟩ := hB
  rw [ht] at hP
  have hD := lx_dj hD hFc
  refine lv_if_eq (tgt := 25) hx hb d_Tr_endKids_5 (by decide) (fun c_2 => ?_) (fun c_2 => ?_)
  · have h := lf_t h c_2
    rw [hQ]
    have e2 : S_1 = S' := Option.some.inj h
    have hP := ly_newP e2.symm hP
    have hD := ly_newD e2.symm hD
    exact W.vret hx hb hr (fun t ht hW => ⟨⟨(), rfl, trivial, by rw [ht]; exact hP, va_K.moved hW.alike hK, hD⟩, hS.F ht⟩) hS.2.2 d_Tr_endKids_25
  · have h := lf_f h c_2
    refine lv_aload_n hx hb d_Tr_endKids_8 rfl (lv_at hl 0 rfl) ?_
    refine va_get (D := (dC, dI)) (ci := 5) (v := .ref Y.a_kidCount) (C := R_Tr) (T := F_Tr) (N := 18) hx hb hts (fun w h => u_Vq_Tr w (i_Tr w h)) hown hK hP 4 rfl rfl 10 (by decide) (hts _ (u_Vq_Tr _ k_Tr_15)) (fun _ h9 => h9) rfl d_Tr_endKids_9 ?_
    refine lv_iload_n hx hb d_Tr_endKids_12 rfl (lv_at hl 1 rfl) ?_
    refine lv_aload_n hx hb d_Tr_endKids_13 rfl (lv_at hl 0 rfl) ?_
    refine va_get (D := (dC, dI)) (ci := 5) (v := .int S_1.v_Tr_count) (C := R_Tr) (T := F_Tr) (N := 18) hx hb hts (fun w h => u_Vq_Tr w (i_Tr w h)) hown hK hP 4 rfl rfl 0 (by decide) (hts _ (u_Vq_Tr _ k_Tr_5)) (fun _ h9 => h9) rfl d_Tr_endKids_14 ?_
    refine lv_aload_n hx hb d_Tr_endKids_17 rfl (lv_at hl 0 rfl) ?_
    refine va_get (D := (dC, dI)) (ci := 5) (v := .ref Y.a_kids) (C := R_Tr) (T := F_Tr) (N := 18) hx hb hts (fun w h => u_Vq_Tr w (i_Tr w h)) hown hK hP 4 rfl rfl 9 (by decide) (hts _ (u_Vq_Tr _ k_Tr_14)) (fun _ h9 => h9) rfl d_Tr_endKids_18 ?_
    refine lv_iload_n hx hb d_Tr_endKids_21 rfl (lv_at hl 1 rfl) ?_
    obtain ⟨g_3, h⟩ := lf_gE h
    refine va_iald hx hb hK hP 24 2 rfl rfl g_3 d_Tr_endKids_22 ?_
    refine lv_isub hx hb d_Tr_endKids_23 ?_
    obtain ⟨g_4, h⟩ := lf_gE h
    refine va_iast hx hb hK hP hD hS 25 2 rfl rfl g_4 d_Tr_endKids_24 (fun H locs hP hD hS => ?_)
    obtain ⟨S_5, eS_5, h⟩ := lf_lX h
    have hP := ly_newP eS_5 hP
    have hD := ly_newD eS_5 hD
    rw [hQ]
    have e2 : S_5 = S' := Option.some.inj h
    have hP := ly_newP e2.symm hP
    have hD := ly_newD e2.symm hD
    exact W.vret hx hb hr (fun t ht hW => ⟨⟨(), rfl, trivial, by rw [ht]; exact hP, va_K.moved hW.alike hK, hD⟩, hS.F ht⟩) hS.2.2 d_Tr_endKids_25
set_option maxHeartbeats 4000000 in
set_option maxRecDepth 100000 in
theorem l_Tr_isNamedAsRecord (l : Launch) (dC : Nat → ClassId) (dI : Nat → Nat → Nat) {K : Nat} {M : CA} {E : (Nat → Prop) → State → Prop} (X : ly_X l dC dI K M E) (sz : Nat) {Y : CT} {G : CG} {S S' : CS} {p0 : Int32} {r : Int32} (h : f_Tr_isNamedAsRecord K G S p0 = some (r, S')) : Met l y_Tr_isNamedAsRecord (.code y_Tr_isNamedAsRecord cb_Tr_isNamedAsRecord 3 (some .boolean) :: V_Vq) ({ frames := 7, cells := 0, slots := 0, locals := 221 }) (va_Pc [.ref M.o_Tr, .int p0] (fun U => U.heap.size = sz ∧ at_ (dC, dI) (fun _ => True) (wV M Y G S) (tV M) U ∧ E (va_A (wV M Y G S) sz) U)) (va_Qi (fun (r_ : Int32) (u : Unit) => r_ = r) (fun (u : Unit) t => at_ (dC, dI) (va_A (wV M Y G S) sz) (wV M Y G S') (tV M) t) (va_A (wV M Y G S) sz)) 0 0 (va_A (wV M Y G S) sz) := by
  refine Met.ofW (cc := cb_Tr_isNamedAsRecord) (maxL := 3) (ret := (some .boolean)) (by decide) rfl ?_
  intro p e s m args below meth c s₁ B hml hv
  obtain ⟨rfl, hsz, ⟨hP, hK, hD0⟩, hE⟩ := hv
  have hx := B.exec
  have hb := B.bytes
  have hr := B.returns
  have hts0 := atoms_spec (ws := .code y_Tr_isNamedAsRecord cb_Tr_isNamedAsRecord 3 (some .boolean) :: V_Vq) B.pre
  have hts : ∀ w ∈ V_Vq, w.before ([.ref M.o_Tr, .int p0] : List Value).toArray s = true := fun w h => hts0 w (List.mem_cons_of_mem _ h)
  have hown : s.vm.findClass R_Tr = some m.cls := findClass_of_methodNamed B.named
  subst hsz
  have hD := hD0.self (sz := s.heap.size)
  generalize hAe : va_A (wV M Y G S) s.heap.size = A at hD hE ⊢
  have hA : ∀ q : Nat, s.heap.size ≤ q → A q := fun q h => by rw [← hAe]; exact Or.inr h
  have hS : va_S A s.heap s.heap [] := va_S.rf
  have hP : va_P (dC, dI) classes (wV M Y G S) s.heap := hP
  have hK : va_K (dC, dI) classes (tV M) s := hK
  have hEw : ∀ (H : Heap) (locs : List Loc), va_S A s.heap H locs → ∀ U : State, U.heap = H → s.WarmedH U.vm → E A U := fun H locs hS U hU hW => X.kept A s U H locs hE hS hU hW
  have hl := lv_entry ([.ref M.o_Tr, .int p0]) (n := 3) (Nat.le_of_ble_eq_true rfl)
  rw [lg_entry_eq]
  generalize (lg_sl ([.ref M.o_Tr, .int p0]) ++ List.replicate (3 - (lg_sl ([.ref M.o_Tr, .int p0])).length) Slot.unset).toArray = ls at hl ⊢
  have hl : lv_has ls 3 [(0, .ref M.o_Tr), (1, .int p0)] := hl
  refine qabs (fun Q hQ => ?_)
  have hB_22 : ∀ (S : CS) (H : Heap) (locs : List Loc) (ls : Array Slot), f_Tr_isNamedAsRecord_22 K G S = some (r, S') → va_P (dC, dI) classes (wV M Y G S) H → va_D A (wV M Y G S) → va_S A s.heap H locs → lv_has ls 3 [] → W p l e ({ frames := 7, cells := 0, slots := 0, locals := 221 }) s m ([.ref M.o_Tr, .int p0] : List Value).toArray below meth c H locs 0 0 Q (F0 m 22 ls []) := by
    intro S H locs ls h hP hD hS hl
    rw [f_Tr_isNamedAsRecord_22] at h
    refine lv_iconst (v := 0) hx hb d_Tr_isNamedAsRecord_22 (by decide) ?_
    rw [hQ]
    have e1 : (0 : Int32) = r := congrArg Prod.fst (Option.some.inj h)
    have e2 : S = S' := congrArg Prod.snd (Option.some.inj h)
    have hP := ly_newP e2.symm hP
    have hD := ly_newD e2.symm hD
    exact W.zret (v := 0) hx hb hr rfl (fun t ht hW => ⟨⟨0, (), rfl, e1, by rw [ht]; exact hP, va_K.moved hW.alike hK, hD⟩, hS.F ht⟩) hS.2.2 d_Tr_isNamedAsRecord_23
  have hB_26 : ∀ (k : Nat), ∀ (y_1 : Int32) (y_2 : Int32) (S : CS) (H : Heap) (locs : List Loc) (ls : Array Slot), f_Tr_isNamedAsRecord_26 K G k y_1 y_2 S = some (r, S') → va_P (dC, dI) classes (wV M Y G S) H → va_D A (wV M Y G S) → va_S A s.heap H locs → lv_has ls 3 [(0, .ref M.o_Tr), (1, .int y_1), (2, .int y_2)] → W p l e ({ frames := 7, cells := 0, slots := 0, locals := 221 }) s m ([.ref M.o_Tr, .int p0] : List Value).toArray below meth c H locs 0 0 Q (F0 m 26 ls []) := by
    intro k
    induction k with
    | zero => intro y_1 y_2 S H locs ls h; exact lf_no h
    | succ k hr_26 =>
      intro y_1 y_2 S H locs ls h hP hD hS hl
      rw [f_Tr_isNamedAsRecord_26] at h
      refine lv_iload_n hx hb d_Tr_isNamedAsRecord_26 rfl (lv_at hl 2 rfl) ?_
      refine va_ldcS hx hb hown (X.str_Tr_98 A s hE) d_Tr_isNamedAsRecord_27 ?_
      have hFc := lx_free0 hS hA
      refine va_calli (va_runV (As := []) (rest := [.int y_2]) ⟨hx, hb, hml, hown, hts⟩ (X.length_Tr_98 _) (cwV 0 hts (gwV good_Vq (u_Vq_Tr _ k_Tr_80) (k_Vq_3) (k_Vq_4) (k_Vq_0) (wcs (k_Vq_5) (fun _ h => h))) rfl rfl rfl (by decide +kernel) ⟨Nat.le_of_ble_eq_true rfl, Nat.le_of_ble_eq_true rfl⟩) (pv_ofE (W := []) (tys := []) (X.same _) (fun U z1 z2 => X.mono _ _ U hFc (hEw _ _ hS U z1 z2)) (hP.sub (ws' := []) [] rfl) (hK.sub [] rfl) (hD.sub (ws' := []) [] (by decide) rfl) (X.recv_Tr_98 _ (lx_s s _) (hEw _ _ hS (lx_s s _) rfl (State.WarmedH.refl s)))) rfl rfl hl.1 rfl (lv_room (Nat.le_of_ble_eq_true rfl)) d_Tr_isNamedAsRecord_29 ⟨by decide, by decide⟩) hS (fun q _ h => hFc q h) hFc (fun r_ u t H locs ht hvm hw hB hz1 hk1 hS => ?_)
      rw [hw]
      have hP := lx_stat (A := A) hP hk1
      refine lv_icmp_ge (tgt := 71) hx hb d_Tr_isNamedAsRecord_32 (by decide) (fun c_7 => ?_) (fun c_7 => ?_)
      · have h := lf_t h c_7
        refine lv_iconst (v := 1) hx hb d_Tr_isNamedAsRecord_71 (by decide) ?_
        rw [hQ]
        have e1 : (1 : Int32) = r := congrArg Prod.fst (Option.some.inj h)
        have e2 : S = S' := congrArg Prod.snd (Option.some.inj h)
        have hP := ly_newP e2.symm hP
        have hD := ly_newD e2.symm hD
        exact W.zret (v := 1) hx hb hr rfl (fun t ht hW => ⟨⟨1, (), rfl, e1, by rw [ht]; exact hP, va_K.moved hW.alike hK, hD⟩, hS.F ht⟩) hS.2.2 d_Tr_isNamedAsRecord_72
      · have h := lf_f h c_7
        refine lv_aload_n hx hb d_Tr_isNamedAsRecord_35 rfl (lv_at hl 0 rfl) ?_
        refine va_get (D := (dC, dI)) (ci := 5) (v := .ref Y.a_pool) (C := R_Tr) (T := F_Tr) (N := 18) hx hb hts (fun w h => u_Vq_Tr w (i_Tr w h)) hown hK hP 4 rfl rfl 16 (by decide) (hts _ (u_Vq_Tr _ k_Tr_21)) (fun _ h9 => h9) rfl d_Tr_isNamedAsRecord_36 ?_
        refine lv_aload_n hx hb d_Tr_isNamedAsRecord_39 rfl (lv_at hl 0 rfl) ?_
        refine va_get (D := (dC, dI)) (ci := 5) (v := .ref Y.a_nameAt) (C := R_Tr) (T := F_Tr) (N := 18) hx hb hts (fun w h => u_Vq_Tr w (i_Tr w h)) hown hK hP 4 rfl rfl 11 (by decide) (hts _ (u_Vq_Tr _ k_Tr_16)) (fun _ h9 => h9) rfl d_Tr_isNamedAsRecord_40 ?_
        refine lv_iload_n hx hb d_Tr_isNamedAsRecord_43 rfl (lv_at hl 1 rfl) ?_
        obtain ⟨g_8, h⟩ := lf_gE h
        refine va_iald hx hb hK hP 26 2 rfl rfl g_8 d_Tr_isNamedAsRecord_44 ?_
        refine lv_iload_n hx hb d_Tr_isNamedAsRecord_45 rfl (lv_at hl 2 rfl) ?_
        refine lv_iadd hx hb d_Tr_isNamedAsRecord_46 ?_
        obtain ⟨g_9, h⟩ := lf_gE h
        refine va_iald hx hb hK hP 31 2 rfl rfl g_9 d_Tr_isNamedAsRecord_47 ?_
        obtain ⟨r_10, hc_10, h⟩ := lf_bE h
        have hFc := lx_free0 hS hA
        refine va_calli (va_runS (As := [.int (S.w_Tr_pool ((S.w_Tr_nameAt y_1.toNatClampNeg) + y_2).toNatClampNeg)]) (rest := []) ⟨hx, hb, hml, hown, hts⟩ (l_Wo_capital l dC dI  _ hc_10) (va_cwS 1 hts (gwS good_Vq (u_Vq_Tr _ k_Tr_63) (u_Vq_Wo _ k_Wo_17) (u_Vq_Wo _ k_Wo_0) (wcs (u_Vq_Wo _ k_Wo_18) (fun _ h => h))) rfl rfl rfl (by decide +kernel) ⟨Nat.le_of_ble_eq_true rfl, Nat.le_of_ble_eq_true rfl⟩) (ps_of (W := []) (tys := []) (hP.sub (ws' := []) [] rfl) (hK.sub [] rfl) (hD.sub (ws' := []) [] (by decide) rfl)) rfl rfl hl.1 rfl (lv_room (Nat.le_of_ble_eq_true rfl)) d_Tr_isNamedAsRecord_48 ⟨by decide, by decide⟩) hS (fun q _ h => hFc q h) hFc (fun r_ u t H locs ht hvm hw hB hz1 hk1 hS => ?_)
        rw [hw]
        have hP := lx_stat (A := A) hP hk1
        refine va_ldcS hx hb hown (X.str_Tr_98 A s hE) d_Tr_isNamedAsRecord_51 ?_
        refine lv_iload_n hx hb d_Tr_isNamedAsRecord_53 rfl (lv_at hl 2 rfl) ?_
        obtain ⟨x_11, hc_x_11, h⟩ := lf_bE h
        have hFc := lx_free0 hS hA
        refine va_calli (va_runV (As := [.int y_2]) (rest := [.int r_10]) ⟨hx, hb, hml, hown, hts⟩ (X.charAt_Tr_98 _ hc_x_11) (cwV 1 hts (gwV good_Vq (u_Vq_Tr _ k_Tr_81) (k_Vq_11) (k_Vq_12) (k_Vq_0) (wcs (k_Vq_13) (fun _ h => h))) rfl rfl rfl (by decide +kernel) ⟨Nat.le_of_ble_eq_true rfl, Nat.le_of_ble_eq_true rfl⟩) (pv_ofE (W := []) (tys := []) (X.same _) (fun U z1 z2 => X.mono _ _ U hFc (hEw _ _ hS U z1 z2)) (hP.sub (ws' := []) [] rfl) (hK.sub [] rfl) (hD.sub (ws' := []) [] (by decide) rfl) (X.recv_Tr_98 _ (lx_s s _) (hEw _ _ hS (lx_s s _) rfl (State.WarmedH.refl s)))) rfl rfl hl.1 rfl (lv_room (Nat.le_of_ble_eq_true rfl)) d_Tr_isNamedAsRecord_54 ⟨by decide, by decide⟩) hS (fun q _ h => hFc q h) hFc (fun r_ u t H locs ht hvm hw hB hz1 hk1 hS => ?_)
        rw [hw]
        have hP := lx_stat (A := A) hP hk1
        obtain ⟨r_12, hc_12, h⟩ := lf_bE h
        have hFc := lx_free0 hS hA
        refine va_calli (va_runS (As := [.int x_11]) (rest := [.int r_10]) ⟨hx, hb, hml, hown, hts⟩ (l_Wo_capital l dC dI  _ hc_12) (va_cwS 1 hts (gwS good_Vq (u_Vq_Tr _ k_Tr_63) (u_Vq_Wo _ k_Wo_17) (u_Vq_Wo _ k_Wo_0) (wcs (u_Vq_Wo _ k_Wo_18) (fun _ h => h))) rfl rfl rfl (by decide +kernel) ⟨Nat.le_of_ble_eq_true rfl, Nat.le_of_ble_eq_true rfl⟩) (ps_of (W := []) (tys := []) (hP.sub (ws' := []) [] rfl) (hK.sub [] rfl) (hD.sub (ws' := []) [] (by decide) rfl)) rfl rfl hl.1 rfl (lv_room (Nat.le_of_ble_eq_true rfl)) d_Tr_isNamedAsRecord_57 ⟨by decide, by decide⟩) hS (fun q _ h => hFc q h) hFc (fun r_ u t H locs ht hvm hw hB hz1 hk1 hS => ?_)
        rw [hw]
        have hP := lx_stat (A := A) hP hk1
        refine lv_icmp_eq (tgt := 65) hx hb d_Tr_isNamedAsRecord_60 (by decide) (fun c_13 => ?_) (fun c_13 => ?_)
        · have h := lf_t h c_13
          obtain ⟨x_14, ex_14, h⟩ := lf_lX h
          refine lv_iinc (v := x_14) (lv' := [(2, .int x_14), (0, .ref M.o_Tr), (1, .int y_1)]) hx hb d_Tr_isNamedAsRecord_65 hl (k := 2) rfl (by rw [ex_14]; rfl) (by decide) rfl (fun ls hl => ?_)
          refine lv_goto (tgt := 26) hx hb d_Tr_isNamedAsRecord_68 (by decide) ?_
          exact hr_26 y_1 x_14 S _ _ _ h hP hD hS (lv_sub hl [1, 2, 0] rfl)
        · have h := lf_f h c_13
          refine lv_iconst (v := 0) hx hb d_Tr_isNamedAsRecord_63 (by decide) ?_
          rw [hQ]
          have e1 : (0 : Int32) = r := congrArg Prod.fst (Option.some.inj h)
          have e2 : S = S' := congrArg Prod.snd (Option.some.inj h)
          have hP := ly_newP e2.symm hP
          have hD := ly_newD e2.symm hD
          exact W.zret (v := 0) hx hb hr rfl (fun t ht hW => ⟨⟨0, (), rfl, e1, by rw [ht]; exact hP, va_K.moved hW.alike hK, hD⟩, hS.F ht⟩) hS.2.2 d_Tr_isNamedAsRecord_64
  rw [f_Tr_isNamedAsRecord] at h
  refine lv_aload_n hx hb d_Tr_isNamedAsRecord_0 rfl (lv_at hl 0 rfl) ?_
  refine lv_iload_n hx hb d_Tr_isNamedAsRecord_1 rfl (lv_at hl 1 rfl) ?_
  obtain ⟨r_1, S_1, hc_1, h⟩ := lf_cE h
  have hFc := lx_free hD hS hA
  refine va_calli (va_runV (As := [.int p0]) (rest := []) ⟨hx, hb, hml, hown, hts⟩ (l_Tr_has l dC dI X _ hc_1) (cwV 1 hts (gwV good_Vq (u_Vq_Tr _ k_Tr_38) (u_Vq_Tr _ k_Tr_39) (u_Vq_Tr _ k_Tr_40) (u_Vq_Tr _ k_Tr_0) (wcs (u_Vq_Tr _ k_Tr_41) (fun _ h => h))) rfl rfl rfl (by decide +kernel) ⟨Nat.le_of_ble_eq_true rfl, Nat.le_of_ble_eq_true rfl⟩) (pv_ofE (X.same _) (fun U z1 z2 => X.mono _ _ U hFc (hEw _ _ hS U z1 z2)) hP hK hD (va_recv hK hP (ci := 5) (q0 := 4) rfl rfl)) rfl rfl hl.1 rfl (lv_room (Nat.le_of_ble_eq_true rfl)) d_Tr_isNamedAsRecord_2 ⟨by decide, by decide⟩) hS (fun q _ h => hFc q h) hFc (fun r_ u t H locs ht hvm hw hB hz1 hk1 hS => ?_)
  rw [hw]
  obtain ⟨hP, -, hD⟩ := hB
  rw [ht] at hP
  have hD := lx_dj hD hFc
  refine lv_if_eq (tgt := 22) hx hb d_Tr_isNamedAsRecord_5 (by decide) (fun c_2 => ?_) (fun c_2 => ?_)
  · have h := lf_t h c_2
    exact hB_22 S_1 _ _ _ h hP hD hS (lv_sub hl [] rfl)
  · have h := lf_f h c_2
    refine lv_aload_n hx hb d_Tr_isNamedAsRecord_8 rfl (lv_at hl 0 rfl) ?_
    refine va_get (D := (dC, dI)) (ci := 5) (v := .ref Y.a_nameLength) (C := R_Tr) (T := F_Tr) (N := 18) hx hb hts (fun w h => u_Vq_Tr w (i_Tr w h)) hown hK hP 4 rfl rfl 12 (by decide) (hts _ (u_Vq_Tr _ k_Tr_17)) (fun _ h9 => h9) rfl d_Tr_isNamedAsRecord_9 ?_
    refine lv_iload_n hx hb d_Tr_isNamedAsRecord_12 rfl (lv_at hl 1 rfl) ?_
    obtain ⟨g_3, h⟩ := lf_gE h
    refine va_iald hx hb hK hP 27 2 rfl rfl g_3 d_Tr_isNamedAsRecord_13 ?_
    refine va_ldcS hx hb hown (X.str_Tr_98 A s hE) d_Tr_isNamedAsRecord_14 ?_
    have hFc := lx_free0 hS hA
    refine va_calli (va_runV (As := []) (rest := [.int (S_1.w_Tr_nameLength p0.toNatClampNeg)]) ⟨hx, hb, hml, hown, hts⟩ (X.length_Tr_98 _) (cwV 0 hts (gwV good_Vq (u_Vq_Tr _ k_Tr_80) (k_Vq_3) (k_Vq_4) (k_Vq_0) (wcs (k_Vq_5) (fun _ h => h))) rfl rfl rfl (by decide +kernel) ⟨Nat.le_of_ble_eq_true rfl, Nat.le_of_ble_eq_true rfl⟩) (pv_ofE (W := []) (tys := []) (X.same _) (fun U z1 z2 => X.mono _ _ U hFc (hEw _ _ hS U z1 z2)) (hP.sub (ws' := []) [] rfl) (hK.sub [] rfl) (hD.sub (ws' := []) [] (by decide) rfl) (X.recv_Tr_98 _ (lx_s s _) (hEw _ _ hS (lx_s s _) rfl (State.WarmedH.refl s)))) rfl rfl hl.1 rfl (lv_room (Nat.le_of_ble_eq_true rfl)) d_Tr_isNamedAsRecord_16 ⟨by decide, by decide⟩) hS (fun q _ h => hFc q h) hFc (fun r_ u t H locs ht hvm hw hB hz1 hk1 hS => ?_)
    rw [hw]
    have hP := lx_stat (A := A) hP hk1
    refine lv_icmp_eq (tgt := 24) hx hb d_Tr_isNamedAsRecord_19 (by decide) (fun c_5 => ?_) (fun c_5 => ?_)
    · have h := lf_t h c_5
      refine lv_iconst (v := 0) hx hb d_Tr_isNamedAsRecord_24 (by decide) ?_
      refine lv_istore_n (lv' := [(2, .int 0), (0, .ref M.o_Tr), (1, .int p0)]) hx hb d_Tr_isNamedAsRecord_25 rfl hl (by decide) rfl (fun ls hl => ?_)
      exact hB_26 K p0 0 S_1 _ _ _ h hP hD hS (lv_sub hl [1, 2, 0] rfl)
    · have h := lf_f h c_5
      exact hB_22 S_1 _ _ _ h hP hD hS (lv_sub hl [] rfl)
set_option maxHeartbeats 4000000 in
set_option maxRecDepth 100000 in
theorem l_Tr_nameSize (l : Launch) (dC : Nat → ClassId) (dI : Nat → Nat → Nat) {K : Nat} {M : CA} {E : (Nat → Prop) → State → Prop} (X : ly_X l dC dI K M E) (sz : Nat) {Y : CT} {G : CG} {S S' : CS} {p0 : Int32} {r : Int32} (h : f_Tr_nameSize K G S p0 = some (r, S')) : Met l y_Tr_nameSize (.code y_Tr_nameSize cb_Tr_nameSize 2 (some .int) :: V_Vq) ({ frames := 1, cells := 0, slots := 0, locals := 21 }) (va_Pc [.ref M.o_Tr, .int p0] (fun U => U.heap.size = sz ∧ at_ (dC, dI) (fun _ => True) (wV M Y G S) (tV M) U ∧ E (va_A (wV M Y G S) sz) U)) (va_Qi (fun (r_ : Int32) (u : Unit) => r_ = r) (fun (u : Unit) t => at_ (dC, dI) (va_A (wV M Y G S) sz) (wV M Y G S') (tV M) t) (va_A (wV M Y G S) sz)) 0 0 (va_A (wV M Y G S) sz) := by
  refine Met.ofW (cc := cb_Tr_nameSize) (maxL := 2) (ret := (some .int)) (by decide) rfl ?_
  intro p e s m args below meth c s₁ B hml hv
  obtain ⟨rfl, hsz, ⟨hP, hK, hD0⟩, hE⟩ := hv
  have hx := B.exec
  have hb := B.bytes
  have hr := B.returns
  have hts0 := atoms_spec (ws := .code y_Tr_nameSize cb_Tr_nameSize 2 (some .int) :: V_Vq) B.pre
  have hts : ∀ w ∈ V_Vq, w.before ([.ref M.o_Tr, .int p0] : List Value).toArray s = true := fun w h => hts0 w (List.mem_cons_of_mem _ h)
  have hown : s.vm.findClass R_Tr = some m.cls := findClass_of_methodNamed B.named
  subst hsz
  have hD := hD0.self (sz := s.heap.size)
  generalize hAe : va_A (wV M Y G S) s.heap.size = A at hD hE ⊢
  have hA : ∀ q : Nat, s.heap.size ≤ q → A q := fun q h => by rw [← hAe]; exact Or.inr h
  have hS : va_S A s.heap s.heap [] := va_S.rf
  have hP : va_P (dC, dI) classes (wV M Y G S) s.heap := hP
  have hK : va_K (dC, dI) classes (tV M) s := hK
  have hEw : ∀ (H : Heap) (locs : List Loc), va_S A s.heap H locs → ∀ U : State, U.heap = H → s.WarmedH U.vm → E A U := fun H locs hS U hU hW => X.kept A s U H locs hE hS hU hW
  have hl := lv_entry ([.ref M.o_Tr, .int p0]) (n := 2) (Nat.le_of_ble_eq_true rfl)
  rw [lg_entry_eq]
  generalize (lg_sl ([.ref M.o_Tr, .int p0]) ++ List.replicate (2 - (lg_sl ([.ref M.o_Tr, .int p0])).length) Slot.unset).toArray = ls at hl ⊢
  have hl : lv_has ls 2 [(0, .ref M.o_Tr), (1, .int p0)] := hl
  refine qabs (fun Q hQ => ?_)
  rw [f_Tr_nameSize] at h
  refine lv_aload_n hx hb d_Tr_nameSize_0 rfl (lv_at hl 0 rfl) ?_
  refine lv_iload_n hx hb d_Tr_nameSize_1 rfl (lv_at hl 1 rfl) ?_
  obtain ⟨r_1, S_1, hc_1, h⟩ := lf_cE h
  have hFc := lx_free hD hS hA
  refine va_calli (va_runV (As := [.int p0]) (rest := []) ⟨hx, hb, hml, hown, hts⟩ (l_Tr_has l dC dI X _ hc_1) (cwV 1 hts (gwV good_Vq (u_Vq_Tr _ k_Tr_38) (u_Vq_Tr _ k_Tr_39) (u_Vq_Tr _ k_Tr_40) (u_Vq_Tr _ k_Tr_0) (wcs (u_Vq_Tr _ k_Tr_41) (fun _ h => h))) rfl rfl rfl (by decide +kernel) ⟨Nat.le_of_ble_eq_true rfl, Nat.le_of_ble_eq_true rfl⟩) (pv_ofE (X.same _) (fun U z1 z2 => X.mono _ _ U hFc (hEw _ _ hS U z1 z2)) hP hK hD (va_recv hK hP (ci := 5) (q0 := 4) rfl rfl)) rfl rfl hl.1 rfl (lv_room (Nat.le_of_ble_eq_true rfl)) d_Tr_nameSize_2 ⟨by decide, by decide⟩) hS (fun q _ h => hFc q h) hFc (fun r_ u t H locs ht hvm hw hB hz1 hk1 hS => ?_)
  rw [hw]
  obtain ⟨hP, -, hD⟩ := hB
  rw [ht] at hP
  have hD := lx_dj hD hFc
  refine lv_if_eq (tgt := 17) hx hb d_Tr_nameSize_5 (by decide) (fun c_2 => ?_) (fun c_2 => ?_)
  · have h := lf_t h c_2
    refine lv_iconst (v := 0) hx hb d_Tr_nameSize_17 (by decide) ?_
    rw [hQ]
    have e1 : (0 : Int32) = r := congrArg Prod.fst (Option.some.inj h)
    have e2 : S_1 = S' := congrArg Prod.snd (Option.some.inj h)
    have hP := ly_newP e2.symm hP
    have hD := ly_newD e2.symm hD
    exact W.iret (v := 0) hx hb hr (fun t ht hW => ⟨⟨0, (), rfl, e1, by rw [ht]; exact hP, va_K.moved hW.alike hK, hD⟩, hS.F ht⟩) hS.2.2 d_Tr_nameSize_18
  · have h := lf_f h c_2
    refine lv_aload_n hx hb d_Tr_nameSize_8 rfl (lv_at hl 0 rfl) ?_
    refine va_get (D := (dC, dI)) (ci := 5) (v := .ref Y.a_nameBytes) (C := R_Tr) (T := F_Tr) (N := 18) hx hb hts (fun w h => u_Vq_Tr w (i_Tr w h)) hown hK hP 4 rfl rfl 13 (by decide) (hts _ (u_Vq_Tr _ k_Tr_18)) (fun _ h9 => h9) rfl d_Tr_nameSize_9 ?_
    refine lv_iload_n hx hb d_Tr_nameSize_12 rfl (lv_at hl 1 rfl) ?_
    obtain ⟨g_3, h⟩ := lf_gE h
    refine va_iald hx hb hK hP 28 2 rfl rfl g_3 d_Tr_nameSize_13 ?_
    refine lv_goto (tgt := 18) hx hb d_Tr_nameSize_14 (by decide) ?_
    rw [hQ]
    have e1 : (S_1.w_Tr_nameBytes p0.toNatClampNeg) = r := congrArg Prod.fst (Option.some.inj h)
    have e2 : S_1 = S' := congrArg Prod.snd (Option.some.inj h)
    have hP := ly_newP e2.symm hP
    have hD := ly_newD e2.symm hD
    exact W.iret (v := (S_1.w_Tr_nameBytes p0.toNatClampNeg)) hx hb hr (fun t ht hW => ⟨⟨(S_1.w_Tr_nameBytes p0.toNatClampNeg), (), rfl, e1, by rw [ht]; exact hP, va_K.moved hW.alike hK, hD⟩, hS.F ht⟩) hS.2.2 d_Tr_nameSize_18
set_option maxHeartbeats 4000000 in
set_option maxRecDepth 100000 in
theorem l_Tr_nameByte (l : Launch) (dC : Nat → ClassId) (dI : Nat → Nat → Nat) {K : Nat} {M : CA} {E : (Nat → Prop) → State → Prop} (X : ly_X l dC dI K M E) (sz : Nat) {Y : CT} {G : CG} {S S' : CS} {p0 : Int32} {p1 : Int32} {r : Int32} (h : f_Tr_nameByte K G S p0 p1 = some (r, S')) : Met l y_Tr_nameByte (.code y_Tr_nameByte cb_Tr_nameByte 7 (some .int) :: V_Vq) ({ frames := 2, cells := 0, slots := 0, locals := 43 }) (va_Pc [.ref M.o_Tr, .int p0, .int p1] (fun U => U.heap.size = sz ∧ at_ (dC, dI) (fun _ => True) (wV M Y G S) (tV M) U ∧ E (va_A (wV M Y G S) sz) U)) (va_Qi (fun (r_ : Int32) (u : Unit) => r_ = r) (fun (u : Unit) t => at_ (dC, dI) (va_A (wV M Y G S) sz) (wV M Y G S') (tV M) t) (va_A (wV M Y G S) sz)) 0 0 (va_A (wV M Y G S) sz) := by
  refine Met.ofW (cc := cb_Tr_nameByte) (maxL := 7) (ret := (some .int)) (by decide) rfl ?_
  intro p e s m args below meth c s₁ B hml hv
  obtain ⟨rfl, hsz, ⟨hP, hK, hD0⟩, hE⟩ := hv
  have hx := B.exec
  have hb := B.bytes
  have hr := B.returns
  have hts0 := atoms_spec (ws := .code y_Tr_nameByte cb_Tr_nameByte 7 (some .int) :: V_Vq) B.pre
  have hts : ∀ w ∈ V_Vq, w.before ([.ref M.o_Tr, .int p0, .int p1] : List Value).toArray s = true := fun w h => hts0 w (List.mem_cons_of_mem _ h)
  have hown : s.vm.findClass R_Tr = some m.cls := findClass_of_methodNamed B.named
  subst hsz
  have hD := hD0.self (sz := s.heap.size)
  generalize hAe : va_A (wV M Y G S) s.heap.size = A at hD hE ⊢
  have hA : ∀ q : Nat, s.heap.size ≤ q → A q := fun q h => by rw [← hAe]; exact Or.inr h
  have hS : va_S A s.heap s.heap [] := va_S.rf
  have hP : va_P (dC, dI) classes (wV M Y G S) s.heap := hP
  have hK : va_K (dC, dI) classes (tV M) s := hK
  have hEw : ∀ (H : Heap) (locs : List Loc), va_S A s.heap H locs → ∀ U : State, U.heap = H → s.WarmedH U.vm → E A U := fun H locs hS U hU hW => X.kept A s U H locs hE hS hU hW
  have hl := lv_entry ([.ref M.o_Tr, .int p0, .int p1]) (n := 7) (Nat.le_of_ble_eq_true rfl)
  rw [lg_entry_eq]
  generalize (lg_sl ([.ref M.o_Tr, .int p0, .int p1]) ++ List.replicate (7 - (lg_sl ([.ref M.o_Tr, .int p0, .int p1])).length) Slot.unset).toArray = ls at hl ⊢
  have hl : lv_has ls 7 [(0, .ref M.o_Tr), (1, .int p0), (2, .int p1)] := hl
  refine qabs (fun Q hQ => ?_)
  have hB_22 : ∀ (S : CS) (H : Heap) (locs : List Loc) (ls : Array Slot), f_Tr_nameByte_22 K G S = some (r, S') → va_P (dC, dI) classes (wV M Y G S) H → va_D A (wV M Y G S) → va_S A s.heap H locs → lv_has ls 7 [] → W p l e ({ frames := 2, cells := 0, slots := 0, locals := 43 }) s m ([.ref M.o_Tr, .int p0, .int p1] : List Value).toArray below meth c H locs 0 0 Q (F0 m 22 ls []) := by
    intro S H locs ls h hP hD hS hl
    rw [f_Tr_nameByte_22] at h
    refine lv_iconst (v := (-1)) hx hb d_Tr_nameByte_22 (by decide) ?_
    rw [hQ]
    have e1 : ((-1)) = r := congrArg Prod.fst (Option.some.inj h)
    have e2 : S = S' := congrArg Prod.snd (Option.some.inj h)
    have hP := ly_newP e2.symm hP
    have hD := ly_newD e2.symm hD
    exact W.iret (v := ((-1))) hx hb hr (fun t ht hW => ⟨⟨((-1)), (), rfl, e1, by rw [ht]; exact hP, va_K.moved hW.alike hK, hD⟩, hS.F ht⟩) hS.2.2 d_Tr_nameByte_23
  have hB_29 : ∀ (k : Nat), ∀ (y_1 : Int32) (y_3 : Int32) (y_4 : Int32) (S : CS) (H : Heap) (locs : List Loc) (ls : Array Slot), f_Tr_nameByte_29 K G k y_1 y_3 y_4 S = some (r, S') → va_P (dC, dI) classes (wV M Y G S) H → va_D A (wV M Y G S) → va_S A s.heap H locs → lv_has ls 7 [(0, .ref M.o_Tr), (1, .int y_1), (3, .int y_3), (4, .int y_4)] → W p l e ({ frames := 2, cells := 0, slots := 0, locals := 43 }) s m ([.ref M.o_Tr, .int p0, .int p1] : List Value).toArray below meth c H locs 0 0 Q (F0 m 29 ls []) := by
    intro k
    induction k with
    | zero => intro y_1 y_3 y_4 S H locs ls h; exact lf_no h
    | succ k hr_29 =>
      intro y_1 y_3 y_4 S H locs ls h hP hD hS hl
      rw [f_Tr_nameByte_29] at h
      refine lv_iload hx hb d_Tr_nameByte_29 (lv_at hl 3 rfl) ?_
      refine lv_aload_n hx hb d_Tr_nameByte_31 rfl (lv_at hl 0 rfl) ?_
      refine va_get (D := (dC, dI)) (ci := 5) (v := .ref Y.a_nameLength) (C := R_Tr) (T := F_Tr) (N := 18) hx hb hts (fun w h => u_Vq_Tr w (i_Tr w h)) hown hK hP 4 rfl rfl 12 (by decide) (hts _ (u_Vq_Tr _ k_Tr_17)) (fun _ h9 => h9) rfl d_Tr_nameByte_32 ?_
      refine lv_iload_n hx hb d_Tr_nameByte_35 rfl (lv_at hl 1 rfl) ?_
      obtain ⟨g_6, h⟩ := lf_gE h
      refine va_iald hx hb hK hP 27 2 rfl rfl g_6 d_Tr_nameByte_36 ?_
      refine lv_icmp_ge (tgt := 87) hx hb d_Tr_nameByte_37 (by decide) (fun c_7 => ?_) (fun c_7 => ?_)
      · have h := lf_t h c_7
        refine lv_iconst (v := (-1)) hx hb d_Tr_nameByte_87 (by decide) ?_
        rw [hQ]
        have e1 : ((-1)) = r := congrArg Prod.fst (Option.some.inj h)
        have e2 : S = S' := congrArg Prod.snd (Option.some.inj h)
        have hP := ly_newP e2.symm hP
        have hD := ly_newD e2.symm hD
        exact W.iret (v := ((-1))) hx hb hr (fun t ht hW => ⟨⟨((-1)), (), rfl, e1, by rw [ht]; exact hP, va_K.moved hW.alike hK, hD⟩, hS.F ht⟩) hS.2.2 d_Tr_nameByte_88
      · have h := lf_f h c_7
        refine lv_aload_n hx hb d_Tr_nameByte_40 rfl (lv_at hl 0 rfl) ?_
        refine va_get (D := (dC, dI)) (ci := 5) (v := .ref Y.a_pool) (C := R_Tr) (T := F_Tr) (N := 18) hx hb hts (fun w h => u_Vq_Tr w (i_Tr w h)) hown hK hP 4 rfl rfl 16 (by decide) (hts _ (u_Vq_Tr _ k_Tr_21)) (fun _ h9 => h9) rfl d_Tr_nameByte_41 ?_
        refine lv_aload_n hx hb d_Tr_nameByte_44 rfl (lv_at hl 0 rfl) ?_
        refine va_get (D := (dC, dI)) (ci := 5) (v := .ref Y.a_nameAt) (C := R_Tr) (T := F_Tr) (N := 18) hx hb hts (fun w h => u_Vq_Tr w (i_Tr w h)) hown hK hP 4 rfl rfl 11 (by decide) (hts _ (u_Vq_Tr _ k_Tr_16)) (fun _ h9 => h9) rfl d_Tr_nameByte_45 ?_
        refine lv_iload_n hx hb d_Tr_nameByte_48 rfl (lv_at hl 1 rfl) ?_
        obtain ⟨g_8, h⟩ := lf_gE h
        refine va_iald hx hb hK hP 26 2 rfl rfl g_8 d_Tr_nameByte_49 ?_
        refine lv_iload hx hb d_Tr_nameByte_50 (lv_at hl 3 rfl) ?_
        refine lv_iadd hx hb d_Tr_nameByte_52 ?_
        obtain ⟨g_9, h⟩ := lf_gE h
        refine va_iald hx hb hK hP 31 2 rfl rfl g_9 d_Tr_nameByte_53 ?_
        refine lv_topi (fun x_10 ex_10 => ?_)
        have h := lf_lE h ex_10
        refine lv_istore (lv' := [(5, .int x_10), (0, .ref M.o_Tr), (1, .int y_1), (3, .int y_3), (4, .int y_4)]) hx hb d_Tr_nameByte_54 hl (by decide) rfl (fun ls hl => ?_)
        refine lv_iload hx hb d_Tr_nameByte_56 (lv_at hl 0 rfl) ?_
        obtain ⟨r_11, hc_11, h⟩ := lf_bE h
        have hFc := lx_free0 hS hA
        refine va_calli (va_runS (As := [.int x_10]) (rest := []) ⟨hx, hb, hml, hown, hts⟩ (l_Wo_width l dC dI  _ hc_11) (va_cwS 1 hts (gwS good_Vq (u_Vq_Tr _ k_Tr_67) (u_Vq_Wo _ k_Wo_19) (u_Vq_Wo _ k_Wo_0) (wcs (u_Vq_Wo _ k_Wo_20) (fun _ h => h))) rfl rfl rfl (by decide +kernel) ⟨Nat.le_of_ble_eq_true rfl, Nat.le_of_ble_eq_true rfl⟩) (ps_of (W := []) (tys := []) (hP.sub (ws' := []) [] rfl) (hK.sub [] rfl) (hD.sub (ws' := []) [] (by decide) rfl)) rfl rfl hl.1 rfl (lv_room (Nat.le_of_ble_eq_true rfl)) d_Tr_nameByte_58 ⟨by decide, by decide⟩) hS (fun q _ h => hFc q h) hFc (fun r_ u t H locs ht hvm hw hB hz1 hk1 hS => ?_)
        rw [hw]
        have hP := lx_stat (A := A) hP hk1
        refine lv_istore (lv' := [(6, .int r_11), (5, .int x_10), (0, .ref M.o_Tr), (1, .int y_1), (3, .int y_3), (4, .int y_4)]) hx hb d_Tr_nameByte_61 hl (by decide) rfl (fun ls hl => ?_)
        refine lv_iload_n hx hb d_Tr_nameByte_63 rfl (lv_at hl 4 rfl) ?_
        refine lv_iload hx hb d_Tr_nameByte_64 (lv_at hl 0 rfl) ?_
        refine lv_icmp_ge (tgt := 76) hx hb d_Tr_nameByte_66 (by decide) (fun c_12 => ?_) (fun c_12 => ?_)
        · have h := lf_t h c_12
          refine lv_iload_n hx hb d_Tr_nameByte_76 rfl (lv_at hl 4 rfl) ?_
          refine lv_iload hx hb d_Tr_nameByte_77 (lv_at hl 0 rfl) ?_
          refine lv_isub hx hb d_Tr_nameByte_79 ?_
          refine lv_topi (fun x_13 ex_13 => ?_)
          have h := lf_lE h ex_13
          refine lv_istore_n (lv' := [(3, .int x_13), (6, .int r_11), (5, .int x_10), (0, .ref M.o_Tr), (1, .int y_1), (4, .int y_4)]) hx hb d_Tr_nameByte_80 rfl hl (by decide) rfl (fun ls hl => ?_)
          obtain ⟨x_14, ex_14, h⟩ := lf_lX h
          refine lv_iinc (v := x_14) (lv' := [(4, .int x_14), (3, .int x_13), (6, .int r_11), (5, .int x_10), (0, .ref M.o_Tr), (1, .int y_1)]) hx hb d_Tr_nameByte_81 hl (k := 5) rfl (by rw [ex_14]; rfl) (by decide) rfl (fun ls hl => ?_)
          refine lv_goto (tgt := 29) hx hb d_Tr_nameByte_84 (by decide) ?_
          exact hr_29 y_1 x_13 x_14 S _ _ _ h hP hD hS (lv_sub hl [4, 5, 1, 0] rfl)
        · have h := lf_f h c_12
          refine lv_iload hx hb d_Tr_nameByte_69 (lv_at hl 1 rfl) ?_
          refine lv_iload_n hx hb d_Tr_nameByte_71 rfl (lv_at hl 4 rfl) ?_
          obtain ⟨r_15, hc_15, h⟩ := lf_bE h
          have hFc := lx_free0 hS hA
          refine va_calli (va_runS (As := [.int x_10, .int y_3]) (rest := []) ⟨hx, hb, hml, hown, hts⟩ (l_Wo_byteOf l dC dI  _ hc_15) (va_cwS 2 hts (gwS good_Vq (u_Vq_Tr _ k_Tr_100) (u_Vq_Wo _ k_Wo_21) (u_Vq_Wo _ k_Wo_0) (wcs (u_Vq_Wo _ k_Wo_22) (fun _ h => h))) rfl rfl rfl (by decide +kernel) ⟨Nat.le_of_ble_eq_true rfl, Nat.le_of_ble_eq_true rfl⟩) (ps_of (W := []) (tys := []) (hP.sub (ws' := []) [] rfl) (hK.sub [] rfl) (hD.sub (ws' := []) [] (by decide) rfl)) rfl rfl hl.1 rfl (lv_room (Nat.le_of_ble_eq_true rfl)) d_Tr_nameByte_72 ⟨by decide, by decide⟩) hS (fun q _ h => hFc q h) hFc (fun r_ u t H locs ht hvm hw hB hz1 hk1 hS => ?_)
          rw [hw]
          have hP := lx_stat (A := A) hP hk1
          rw [hQ]
          have e1 : r_15 = r := congrArg Prod.fst (Option.some.inj h)
          have e2 : S = S' := congrArg Prod.snd (Option.some.inj h)
          have hP := ly_newP e2.symm hP
          have hD := ly_newD e2.symm hD
          exact W.iret (v := r_15) hx hb hr (fun t ht hW => ⟨⟨r_15, (), rfl, e1, by rw [ht]; exact hP, va_K.moved hW.alike hK, hD⟩, hS.F ht⟩) hS.2.2 d_Tr_nameByte_75
  rw [f_Tr_nameByte] at h
  refine lv_aload_n hx hb d_Tr_nameByte_0 rfl (lv_at hl 0 rfl) ?_
  refine lv_iload_n hx hb d_Tr_nameByte_1 rfl (lv_at hl 1 rfl) ?_
  obtain ⟨r_1, S_1, hc_1, h⟩ := lf_cE h
  have hFc := lx_free hD hS hA
  refine va_calli (va_runV (As := [.int p0]) (rest := []) ⟨hx, hb, hml, hown, hts⟩ (l_Tr_has l dC dI X _ hc_1) (cwV 1 hts (gwV good_Vq (u_Vq_Tr _ k_Tr_38) (u_Vq_Tr _ k_Tr_39) (u_Vq_Tr _ k_Tr_40) (u_Vq_Tr _ k_Tr_0) (wcs (u_Vq_Tr _ k_Tr_41) (fun _ h => h))) rfl rfl rfl (by decide +kernel) ⟨Nat.le_of_ble_eq_true rfl, Nat.le_of_ble_eq_true rfl⟩) (pv_ofE (X.same _) (fun U z1 z2 => X.mono _ _ U hFc (hEw _ _ hS U z1 z2)) hP hK hD (va_recv hK hP (ci := 5) (q0 := 4) rfl rfl)) rfl rfl hl.1 rfl (lv_room (Nat.le_of_ble_eq_true rfl)) d_Tr_nameByte_2 ⟨by decide, by decide⟩) hS (fun q _ h => hFc q h) hFc (fun r_ u t H locs ht hvm hw hB hz1 hk1 hS => ?_)
  rw [hw]
  obtain ⟨hP, -, hD⟩ := hB
  rw [ht] at hP
  have hD := lx_dj hD hFc
  refine lv_if_eq (tgt := 22) hx hb d_Tr_nameByte_5 (by decide) (fun c_2 => ?_) (fun c_2 => ?_)
  · have h := lf_t h c_2
    exact hB_22 S_1 _ _ _ h hP hD hS (lv_sub hl [] rfl)
  · have h := lf_f h c_2
    refine lv_iload_n hx hb d_Tr_nameByte_8 rfl (lv_at hl 2 rfl) ?_
    refine lv_if_lt (tgt := 22) hx hb d_Tr_nameByte_9 (by decide) (fun c_3 => ?_) (fun c_3 => ?_)
    · have h := lf_t h c_3
      exact hB_22 S_1 _ _ _ h hP hD hS (lv_sub hl [] rfl)
    · have h := lf_f h c_3
      refine lv_iload_n hx hb d_Tr_nameByte_12 rfl (lv_at hl 2 rfl) ?_
      refine lv_aload_n hx hb d_Tr_nameByte_13 rfl (lv_at hl 0 rfl) ?_
      refine va_get (D := (dC, dI)) (ci := 5) (v := .ref Y.a_nameBytes) (C := R_Tr) (T := F_Tr) (N := 18) hx hb hts (fun w h => u_Vq_Tr w (i_Tr w h)) hown hK hP 4 rfl rfl 13 (by decide) (hts _ (u_Vq_Tr _ k_Tr_18)) (fun _ h9 => h9) rfl d_Tr_nameByte_14 ?_
      refine lv_iload_n hx hb d_Tr_nameByte_17 rfl (lv_at hl 1 rfl) ?_
      obtain ⟨g_4, h⟩ := lf_gE h
      refine va_iald hx hb hK hP 28 2 rfl rfl g_4 d_Tr_nameByte_18 ?_
      refine lv_icmp_lt (tgt := 24) hx hb d_Tr_nameByte_19 (by decide) (fun c_5 => ?_) (fun c_5 => ?_)
      · have h := lf_t h c_5
        refine lv_iload_n hx hb d_Tr_nameByte_24 rfl (lv_at hl 2 rfl) ?_
        refine lv_istore_n (lv' := [(3, .int p1), (0, .ref M.o_Tr), (1, .int p0), (2, .int p1)]) hx hb d_Tr_nameByte_25 rfl hl (by decide) rfl (fun ls hl => ?_)
        refine lv_iconst (v := 0) hx hb d_Tr_nameByte_26 (by decide) ?_
        refine lv_istore (lv' := [(4, .int 0), (3, .int p1), (0, .ref M.o_Tr), (1, .int p0), (2, .int p1)]) hx hb d_Tr_nameByte_27 hl (by decide) rfl (fun ls hl => ?_)
        exact hB_29 K p0 p1 0 S_1 _ _ _ h hP hD hS (lv_sub hl [2, 3, 1, 0] rfl)
      · have h := lf_f h c_5
        exact hB_22 S_1 _ _ _ h hP hD hS (lv_sub hl [] rfl)
set_option maxHeartbeats 4000000 in
set_option maxRecDepth 100000 in
theorem l_In_isMarked (l : Launch) (dC : Nat → ClassId) (dI : Nat → Nat → Nat) {K : Nat} {M : CA} {E : (Nat → Prop) → State → Prop} (X : ly_X l dC dI K M E) (sz : Nat) {Y : CT} {G : CG} {S S' : CS} {r : Int32} (h : f_In_isMarked K G S = some (r, S')) : Met l y_In_isMarked (.code y_In_isMarked cb_In_isMarked 1 (some .boolean) :: V_Vq) ({ frames := 1, cells := 0, slots := 0, locals := 21 }) (va_Pc [.ref M.o_In] (fun U => U.heap.size = sz ∧ at_ (dC, dI) (fun _ => True) (wV M Y G S) (tV M) U ∧ E (va_A (wV M Y G S) sz) U)) (va_Qi (fun (r_ : Int32) (u : Unit) => r_ = r) (fun (u : Unit) t => at_ (dC, dI) (va_A (wV M Y G S) sz) (wV M Y G S') (tV M) t) (va_A (wV M Y G S) sz)) 0 0 (va_A (wV M Y G S) sz) := by
  refine Met.ofW (cc := cb_In_isMarked) (maxL := 1) (ret := (some .boolean)) (by decide) rfl ?_
  intro p e s m args below meth c s₁ B hml hv
  obtain ⟨rfl, hsz, ⟨hP, hK, hD0⟩, hE⟩ := hv
  have hx := B.exec
  have hb := B.bytes
  have hr := B.returns
  have hts0 := atoms_spec (ws := .code y_In_isMarked cb_In_isMarked 1 (some .boolean) :: V_Vq) B.pre
  have hts : ∀ w ∈ V_Vq, w.before ([.ref M.o_In] : List Value).toArray s = true := fun w h => hts0 w (List.mem_cons_of_mem _ h)
  have hown : s.vm.findClass R_In = some m.cls := findClass_of_methodNamed B.named
  subst hsz
  have hD := hD0.self (sz := s.heap.size)
  generalize hAe : va_A (wV M Y G S) s.heap.size = A at hD hE ⊢
  have hA : ∀ q : Nat, s.heap.size ≤ q → A q := fun q h => by rw [← hAe]; exact Or.inr h
  have hS : va_S A s.heap s.heap [] := va_S.rf
  have hP : va_P (dC, dI) classes (wV M Y G S) s.heap := hP
  have hK : va_K (dC, dI) classes (tV M) s := hK
  have hEw : ∀ (H : Heap) (locs : List Loc), va_S A s.heap H locs → ∀ U : State, U.heap = H → s.WarmedH U.vm → E A U := fun H locs hS U hU hW => X.kept A s U H locs hE hS hU hW
  have hl := lv_entry ([.ref M.o_In]) (n := 1) (Nat.le_of_ble_eq_true rfl)
  rw [lg_entry_eq]
  generalize (lg_sl ([.ref M.o_In]) ++ List.replicate (1 - (lg_sl ([.ref M.o_In])).length) Slot.unset).toArray = ls at hl ⊢
  have hl : lv_has ls 1 [(0, .ref M.o_In)] := hl
  refine qabs (fun Q hQ => ?_)
  rw [f_In_isMarked] at h
  refine lv_aload_n hx hb d_In_isMarked_0 rfl (lv_at hl 0 rfl) ?_
  refine va_get (D := (dC, dI)) (ci := 6) (v := .ref M.o_Dk) (C := R_In) (T := F_In) (N := 2) hx hb hts (fun w h => u_Vq_In w (i_In w h)) hown hK hP 9 rfl rfl 0 (by decide) (hts _ (u_Vq_In _ k_In_5)) (fun _ h9 => h9) rfl d_In_isMarked_1 ?_
  refine lv_sipush (v := 3584) hx hb d_In_isMarked_4 (by decide) ?_
  obtain ⟨r_1, S_1, hc_1, h⟩ := lf_cE h
  have hFc := lx_free hD hS hA
  refine va_calli (va_runV (As := [.int 3584]) (rest := []) ⟨hx, hb, hml, hown, hts⟩ (l_Dk_four l dC dI X _ hc_1) (cwV 1 hts (gwV good_Vq (u_Vq_In _ k_In_14) (u_Vq_Dk _ k_Dk_14) (u_Vq_Dk _ k_Dk_15) (u_Vq_Dk _ k_Dk_0) (wcs (u_Vq_Dk _ k_Dk_16) (fun _ h => h))) rfl rfl rfl (by decide +kernel) ⟨Nat.le_of_ble_eq_true rfl, Nat.le_of_ble_eq_true rfl⟩) (pv_ofE (X.same _) (fun U z1 z2 => X.mono _ _ U hFc (hEw _ _ hS U z1 z2)) hP hK hD (va_recv hK hP (ci := 0) (q0 := 1) rfl rfl)) rfl rfl hl.1 rfl (lv_room (Nat.le_of_ble_eq_true rfl)) d_In_isMarked_7 ⟨by decide, by decide⟩) hS (fun q _ h => hFc q h) hFc (fun r_ u t H locs ht hvm hw hB hz1 hk1 hS => ?_)
  rw [hw]
  obtain ⟨hP, -, hD⟩ := hB
  rw [ht] at hP
  have hD := lx_dj hD hFc
  refine lv_ldc (v := 1314018644) hx hb hown (hts _ (u_Vq_In _ k_In_15)) d_In_isMarked_10 ?_
  refine lv_icmp_ne (tgt := 19) hx hb d_In_isMarked_12 (by decide) (fun c_2 => ?_) (fun c_2 => ?_)
  · have h := lf_f h c_2
    refine lv_iconst (v := 0) hx hb d_In_isMarked_19 (by decide) ?_
    rw [hQ]
    have e1 : (0 : Int32) = r := congrArg Prod.fst (Option.some.inj h)
    have e2 : S_1 = S' := congrArg Prod.snd (Option.some.inj h)
    have hP := ly_newP e2.symm hP
    have hD := ly_newD e2.symm hD
    exact W.zret (v := 0) hx hb hr rfl (fun t ht hW => ⟨⟨0, (), rfl, e1, by rw [ht]; exact hP, va_K.moved hW.alike hK, hD⟩, hS.F ht⟩) hS.2.2 d_In_isMarked_20
  · have h := lf_t h c_2
    refine lv_iconst (v := 1) hx hb d_In_isMarked_15 (by decide) ?_
    refine lv_goto (tgt := 20) hx hb d_In_isMarked_16 (by decide) ?_
    rw [hQ]
    have e1 : (1 : Int32) = r := congrArg Prod.fst (Option.some.inj h)
    have e2 : S_1 = S' := congrArg Prod.snd (Option.some.inj h)
    have hP := ly_newP e2.symm hP
    have hD := ly_newD e2.symm hD
    exact W.zret (v := 1) hx hb hr rfl (fun t ht hW => ⟨⟨1, (), rfl, e1, by rw [ht]; exact hP, va_K.moved hW.alike hK, hD⟩, hS.F ht⟩) hS.2.2 d_In_isMarked_20
set_option maxHeartbeats 4000000 in
set_option maxRecDepth 100000 in
theorem l_In_markedSize (l : Launch) (dC : Nat → ClassId) (dI : Nat → Nat → Nat) {K : Nat} {M : CA} {E : (Nat → Prop) → State → Prop} (X : ly_X l dC dI K M E) (sz : Nat) {Y : CT} {G : CG} {S S' : CS} {r : Int32} (h : f_In_markedSize K G S = some (r, S')) : Met l y_In_markedSize (.code y_In_markedSize cb_In_markedSize 1 (some .int) :: V_Vq) ({ frames := 1, cells := 0, slots := 0, locals := 21 }) (va_Pc [.ref M.o_In] (fun U => U.heap.size = sz ∧ at_ (dC, dI) (fun _ => True) (wV M Y G S) (tV M) U ∧ E (va_A (wV M Y G S) sz) U)) (va_Qi (fun (r_ : Int32) (u : Unit) => r_ = r) (fun (u : Unit) t => at_ (dC, dI) (va_A (wV M Y G S) sz) (wV M Y G S') (tV M) t) (va_A (wV M Y G S) sz)) 0 0 (va_A (wV M Y G S) sz) := by
  refine Met.ofW (cc := cb_In_markedSize) (maxL := 1) (ret := (some .int)) (by decide) rfl ?_
  intro p e s m args below meth c s₁ B hml hv
  obtain ⟨rfl, hsz, ⟨hP, hK, hD0⟩, hE⟩ := hv
  have hx := B.exec
  have hb := B.bytes
  have hr := B.returns
  have hts0 := atoms_spec (ws := .code y_In_markedSize cb_In_markedSize 1 (some .int) :: V_Vq) B.pre
  have hts : ∀ w ∈ V_Vq, w.before ([.ref M.o_In] : List Value).toArray s = true := fun w h => hts0 w (List.mem_cons_of_mem _ h)
  have hown : s.vm.findClass R_In = some m.cls := findClass_of_methodNamed B.named
  subst hsz
  have hD := hD0.self (sz := s.heap.size)
  generalize hAe : va_A (wV M Y G S) s.heap.size = A at hD hE ⊢
  have hA : ∀ q : Nat, s.heap.size ≤ q → A q := fun q h => by rw [← hAe]; exact Or.inr h
  have hS : va_S A s.heap s.heap [] := va_S.rf
  have hP : va_P (dC, dI) classes (wV M Y G S) s.heap := hP
  have hK : va_K (dC, dI) classes (tV M) s := hK
  have hEw : ∀ (H : Heap) (locs : List Loc), va_S A s.heap H locs → ∀ U : State, U.heap = H → s.WarmedH U.vm → E A U := fun H locs hS U hU hW => X.kept A s U H locs hE hS hU hW
  have hl := lv_entry ([.ref M.o_In]) (n := 1) (Nat.le_of_ble_eq_true rfl)
  rw [lg_entry_eq]
  generalize (lg_sl ([.ref M.o_In]) ++ List.replicate (1 - (lg_sl ([.ref M.o_In])).length) Slot.unset).toArray = ls at hl ⊢
  have hl : lv_has ls 1 [(0, .ref M.o_In)] := hl
  refine qabs (fun Q hQ => ?_)
  rw [f_In_markedSize] at h
  refine lv_aload_n hx hb d_In_markedSize_0 rfl (lv_at hl 0 rfl) ?_
  refine va_get (D := (dC, dI)) (ci := 6) (v := .ref M.o_Dk) (C := R_In) (T := F_In) (N := 2) hx hb hts (fun w h => u_Vq_In w (i_In w h)) hown hK hP 9 rfl rfl 0 (by decide) (hts _ (u_Vq_In _ k_In_5)) (fun _ h9 => h9) rfl d_In_markedSize_1 ?_
  refine lv_sipush (v := 3588) hx hb d_In_markedSize_4 (by decide) ?_
  obtain ⟨r_1, S_1, hc_1, h⟩ := lf_cE h
  have hFc := lx_free hD hS hA
  refine va_calli (va_runV (As := [.int 3588]) (rest := []) ⟨hx, hb, hml, hown, hts⟩ (l_Dk_four l dC dI X _ hc_1) (cwV 1 hts (gwV good_Vq (u_Vq_In _ k_In_14) (u_Vq_Dk _ k_Dk_14) (u_Vq_Dk _ k_Dk_15) (u_Vq_Dk _ k_Dk_0) (wcs (u_Vq_Dk _ k_Dk_16) (fun _ h => h))) rfl rfl rfl (by decide +kernel) ⟨Nat.le_of_ble_eq_true rfl, Nat.le_of_ble_eq_true rfl⟩) (pv_ofE (X.same _) (fun U z1 z2 => X.mono _ _ U hFc (hEw _ _ hS U z1 z2)) hP hK hD (va_recv hK hP (ci := 0) (q0 := 1) rfl rfl)) rfl rfl hl.1 rfl (lv_room (Nat.le_of_ble_eq_true rfl)) d_In_markedSize_7 ⟨by decide, by decide⟩) hS (fun q _ h => hFc q h) hFc (fun r_ u t H locs ht hvm hw hB hz1 hk1 hS => ?_)
  rw [hw]
  obtain ⟨hP, -, hD⟩ := hB
  rw [ht] at hP
  have hD := lx_dj hD hFc
  rw [hQ]
  have e1 : r_1 = r := congrArg Prod.fst (Option.some.inj h)
  have e2 : S_1 = S' := congrArg Prod.snd (Option.some.inj h)
  have hP := ly_newP e2.symm hP
  have hD := ly_newD e2.symm hD
  exact W.iret (v := r_1) hx hb hr (fun t ht hW => ⟨⟨r_1, (), rfl, e1, by rw [ht]; exact hP, va_K.moved hW.alike hK, hD⟩, hS.F ht⟩) hS.2.2 d_In_markedSize_10
set_option maxHeartbeats 4000000 in
set_option maxRecDepth 100000 in
theorem l_In_markedInodes (l : Launch) (dC : Nat → ClassId) (dI : Nat → Nat → Nat) {K : Nat} {M : CA} {E : (Nat → Prop) → State → Prop} (X : ly_X l dC dI K M E) (sz : Nat) {Y : CT} {G : CG} {S S' : CS} {r : Int32} (h : f_In_markedInodes K G S = some (r, S')) : Met l y_In_markedInodes (.code y_In_markedInodes cb_In_markedInodes 1 (some .int) :: V_Vq) ({ frames := 1, cells := 0, slots := 0, locals := 21 }) (va_Pc [.ref M.o_In] (fun U => U.heap.size = sz ∧ at_ (dC, dI) (fun _ => True) (wV M Y G S) (tV M) U ∧ E (va_A (wV M Y G S) sz) U)) (va_Qi (fun (r_ : Int32) (u : Unit) => r_ = r) (fun (u : Unit) t => at_ (dC, dI) (va_A (wV M Y G S) sz) (wV M Y G S') (tV M) t) (va_A (wV M Y G S) sz)) 0 0 (va_A (wV M Y G S) sz) := by
  refine Met.ofW (cc := cb_In_markedInodes) (maxL := 1) (ret := (some .int)) (by decide) rfl ?_
  intro p e s m args below meth c s₁ B hml hv
  obtain ⟨rfl, hsz, ⟨hP, hK, hD0⟩, hE⟩ := hv
  have hx := B.exec
  have hb := B.bytes
  have hr := B.returns
  have hts0 := atoms_spec (ws := .code y_In_markedInodes cb_In_markedInodes 1 (some .int) :: V_Vq) B.pre
  have hts : ∀ w ∈ V_Vq, w.before ([.ref M.o_In] : List Value).toArray s = true := fun w h => hts0 w (List.mem_cons_of_mem _ h)
  have hown : s.vm.findClass R_In = some m.cls := findClass_of_methodNamed B.named
  subst hsz
  have hD := hD0.self (sz := s.heap.size)
  generalize hAe : va_A (wV M Y G S) s.heap.size = A at hD hE ⊢
  have hA : ∀ q : Nat, s.heap.size ≤ q → A q := fun q h => by rw [← hAe]; exact Or.inr h
  have hS : va_S A s.heap s.heap [] := va_S.rf
  have hP : va_P (dC, dI) classes (wV M Y G S) s.heap := hP
  have hK : va_K (dC, dI) classes (tV M) s := hK
  have hEw : ∀ (H : Heap) (locs : List Loc), va_S A s.heap H locs → ∀ U : State, U.heap = H → s.WarmedH U.vm → E A U := fun H locs hS U hU hW => X.kept A s U H locs hE hS hU hW
  have hl := lv_entry ([.ref M.o_In]) (n := 1) (Nat.le_of_ble_eq_true rfl)
  rw [lg_entry_eq]
  generalize (lg_sl ([.ref M.o_In]) ++ List.replicate (1 - (lg_sl ([.ref M.o_In])).length) Slot.unset).toArray = ls at hl ⊢
  have hl : lv_has ls 1 [(0, .ref M.o_In)] := hl
  refine qabs (fun Q hQ => ?_)
  rw [f_In_markedInodes] at h
  refine lv_aload_n hx hb d_In_markedInodes_0 rfl (lv_at hl 0 rfl) ?_
  refine va_get (D := (dC, dI)) (ci := 6) (v := .ref M.o_Dk) (C := R_In) (T := F_In) (N := 2) hx hb hts (fun w h => u_Vq_In w (i_In w h)) hown hK hP 9 rfl rfl 0 (by decide) (hts _ (u_Vq_In _ k_In_5)) (fun _ h9 => h9) rfl d_In_markedInodes_1 ?_
  refine lv_sipush (v := 3592) hx hb d_In_markedInodes_4 (by decide) ?_
  obtain ⟨r_1, S_1, hc_1, h⟩ := lf_cE h
  have hFc := lx_free hD hS hA
  refine va_calli (va_runV (As := [.int 3592]) (rest := []) ⟨hx, hb, hml, hown, hts⟩ (l_Dk_four l dC dI X _ hc_1) (cwV 1 hts (gwV good_Vq (u_Vq_In _ k_In_14) (u_Vq_Dk _ k_Dk_14) (u_Vq_Dk _ k_Dk_15) (u_Vq_Dk _ k_Dk_0) (wcs (u_Vq_Dk _ k_Dk_16) (fun _ h => h))) rfl rfl rfl (by decide +kernel) ⟨Nat.le_of_ble_eq_true rfl, Nat.le_of_ble_eq_true rfl⟩) (pv_ofE (X.same _) (fun U z1 z2 => X.mono _ _ U hFc (hEw _ _ hS U z1 z2)) hP hK hD (va_recv hK hP (ci := 0) (q0 := 1) rfl rfl)) rfl rfl hl.1 rfl (lv_room (Nat.le_of_ble_eq_true rfl)) d_In_markedInodes_7 ⟨by decide, by decide⟩) hS (fun q _ h => hFc q h) hFc (fun r_ u t H locs ht hvm hw hB hz1 hk1 hS => ?_)
  rw [hw]
  obtain ⟨hP, -, hD⟩ := hB
  rw [ht] at hP
  have hD := lx_dj hD hFc
  rw [hQ]
  have e1 : r_1 = r := congrArg Prod.fst (Option.some.inj h)
  have e2 : S_1 = S' := congrArg Prod.snd (Option.some.inj h)
  have hP := ly_newP e2.symm hP
  have hD := ly_newD e2.symm hD
  exact W.iret (v := r_1) hx hb hr (fun t ht hW => ⟨⟨r_1, (), rfl, e1, by rw [ht]; exact hP, va_K.moved hW.alike hK, hD⟩, hS.F ht⟩) hS.2.2 d_In_markedInodes_10
set_option maxHeartbeats 4000000 in
set_option maxRecDepth 100000 in
theorem l_In_isThere (l : Launch) (dC : Nat → ClassId) (dI : Nat → Nat → Nat) {K : Nat} {M : CA} {E : (Nat → Prop) → State → Prop} (X : ly_X l dC dI K M E) (sz : Nat) {Y : CT} {G : CG} {S S' : CS} {r : Int32} (h : f_In_isThere K G S = some (r, S')) : Met l y_In_isThere (.code y_In_isThere cb_In_isThere 1 (some .boolean) :: V_Vq) ({ frames := 2, cells := 0, slots := 0, locals := 41 }) (va_Pc [.ref M.o_In] (fun U => U.heap.size = sz ∧ at_ (dC, dI) (fun _ => True) (wV M Y G S) (tV M) U ∧ E (va_A (wV M Y G S) sz) U)) (va_Qi (fun (r_ : Int32) (u : Unit) => r_ = r) (fun (u : Unit) t => at_ (dC, dI) (va_A (wV M Y G S) sz) (wV M Y G S') (tV M) t) (va_A (wV M Y G S) sz)) 0 0 (va_A (wV M Y G S) sz) := by
  refine Met.ofW (cc := cb_In_isThere) (maxL := 1) (ret := (some .boolean)) (by decide) rfl ?_
  intro p e s m args below meth c s₁ B hml hv
  obtain ⟨rfl, hsz, ⟨hP, hK, hD0⟩, hE⟩ := hv
  have hx := B.exec
  have hb := B.bytes
  have hr := B.returns
  have hts0 := atoms_spec (ws := .code y_In_isThere cb_In_isThere 1 (some .boolean) :: V_Vq) B.pre
  have hts : ∀ w ∈ V_Vq, w.before ([.ref M.o_In] : List Value).toArray s = true := fun w h => hts0 w (List.mem_cons_of_mem _ h)
  have hown : s.vm.findClass R_In = some m.cls := findClass_of_methodNamed B.named
  subst hsz
  have hD := hD0.self (sz := s.heap.size)
  generalize hAe : va_A (wV M Y G S) s.heap.size = A at hD hE ⊢
  have hA : ∀ q : Nat, s.heap.size ≤ q → A q := fun q h => by rw [← hAe]; exact Or.inr h
  have hS : va_S A s.heap s.heap [] := va_S.rf
  have hP : va_P (dC, dI) classes (wV M Y G S) s.heap := hP
  have hK : va_K (dC, dI) classes (tV M) s := hK
  have hEw : ∀ (H : Heap) (locs : List Loc), va_S A s.heap H locs → ∀ U : State, U.heap = H → s.WarmedH U.vm → E A U := fun H locs hS U hU hW => X.kept A s U H locs hE hS hU hW
  have hl := lv_entry ([.ref M.o_In]) (n := 1) (Nat.le_of_ble_eq_true rfl)
  rw [lg_entry_eq]
  generalize (lg_sl ([.ref M.o_In]) ++ List.replicate (1 - (lg_sl ([.ref M.o_In])).length) Slot.unset).toArray = ls at hl ⊢
  have hl : lv_has ls 1 [(0, .ref M.o_In)] := hl
  refine qabs (fun Q hQ => ?_)
  have hB_26 : ∀ (S : CS) (H : Heap) (locs : List Loc) (ls : Array Slot), f_In_isThere_26 K G S = some (r, S') → va_P (dC, dI) classes (wV M Y G S) H → va_D A (wV M Y G S) → va_S A s.heap H locs → lv_has ls 1 [] → W p l e ({ frames := 2, cells := 0, slots := 0, locals := 41 }) s m ([.ref M.o_In] : List Value).toArray below meth c H locs 0 0 Q (F0 m 26 ls []) := by
    intro S H locs ls h hP hD hS hl
    rw [f_In_isThere_26] at h
    refine lv_iconst (v := 0) hx hb d_In_isThere_26 (by decide) ?_
    rw [hQ]
    have e1 : (0 : Int32) = r := congrArg Prod.fst (Option.some.inj h)
    have e2 : S = S' := congrArg Prod.snd (Option.some.inj h)
    have hP := ly_newP e2.symm hP
    have hD := ly_newD e2.symm hD
    exact W.zret (v := 0) hx hb hr rfl (fun t ht hW => ⟨⟨0, (), rfl, e1, by rw [ht]; exact hP, va_K.moved hW.alike hK, hD⟩, hS.F ht⟩) hS.2.2 d_In_isThere_27
  rw [f_In_isThere] at h
  refine lv_aload_n hx hb d_In_isThere_0 rfl (lv_at hl 0 rfl) ?_
  obtain ⟨r_1, S_1, hc_1, h⟩ := lf_cE h
  have hFc := lx_free hD hS hA
  refine va_calli (va_runV (As := []) (rest := []) ⟨hx, hb, hml, hown, hts⟩ (l_In_isMarked l dC dI X _ hc_1) (cwV 0 hts (gwV good_Vq (u_Vq_In _ k_In_10) (u_Vq_In _ k_In_11) (u_Vq_In _ k_In_12) (u_Vq_In _ k_In_0) (wcs (u_Vq_In _ k_In_13) (fun _ h => h))) rfl rfl rfl (by decide +kernel) ⟨Nat.le_of_ble_eq_true rfl, Nat.le_of_ble_eq_true rfl⟩) (pv_ofE (X.same _) (fun U z1 z2 => X.mono _ _ U hFc (hEw _ _ hS U z1 z2)) hP hK hD (va_recv hK hP (ci := 6) (q0 := 9) rfl rfl)) rfl rfl hl.1 rfl (lv_room (Nat.le_of_ble_eq_true rfl)) d_In_isThere_1 ⟨by decide, by decide⟩) hS (fun q _ h => hFc q h) hFc (fun r_ u t H locs ht hvm hw hB hz1 hk1 hS => ?_)
  rw [hw]
  obtain ⟨hP, -, hD⟩ := hB
  rw [ht] at hP
  have hD := lx_dj hD hFc
  refine lv_if_eq (tgt := 26) hx hb d_In_isThere_4 (by decide) (fun c_2 => ?_) (fun c_2 => ?_)
  · have h := lf_t h c_2
    exact hB_26 S_1 _ _ _ h hP hD hS (lv_sub hl [] rfl)
  · have h := lf_f h c_2
    refine lv_aload_n hx hb d_In_isThere_7 rfl (lv_at hl 0 rfl) ?_
    refine va_get (D := (dC, dI)) (ci := 6) (v := .ref M.o_Dk) (C := R_In) (T := F_In) (N := 2) hx hb hts (fun w h => u_Vq_In w (i_In w h)) hown hK hP 9 rfl rfl 0 (by decide) (hts _ (u_Vq_In _ k_In_5)) (fun _ h9 => h9) rfl d_In_isThere_8 ?_
    refine lv_sipush (v := 1080) hx hb d_In_isThere_11 (by decide) ?_
    obtain ⟨r_3, S_3, hc_3, h⟩ := lf_cE h
    have hFc := lx_free hD hS hA
    refine va_calli (va_runV (As := [.int 1080]) (rest := []) ⟨hx, hb, hml, hown, hts⟩ (l_Dk_two l dC dI X _ hc_3) (cwV 1 hts (gwV good_Vq (u_Vq_In _ k_In_16) (u_Vq_Dk _ k_Dk_17) (u_Vq_Dk _ k_Dk_18) (u_Vq_Dk _ k_Dk_0) (wcs (u_Vq_Dk _ k_Dk_19) (fun _ h => h))) rfl rfl rfl (by decide +kernel) ⟨Nat.le_of_ble_eq_true rfl, Nat.le_of_ble_eq_true rfl⟩) (pv_ofE (X.same _) (fun U z1 z2 => X.mono _ _ U hFc (hEw _ _ hS U z1 z2)) hP hK hD (va_recv hK hP (ci := 0) (q0 := 1) rfl rfl)) rfl rfl hl.1 rfl (lv_room (Nat.le_of_ble_eq_true rfl)) d_In_isThere_14 ⟨by decide, by decide⟩) hS (fun q _ h => hFc q h) hFc (fun r_ u t H locs ht hvm hw hB hz1 hk1 hS => ?_)
    rw [hw]
    obtain ⟨hP, -, hD⟩ := hB
    rw [ht] at hP
    have hD := lx_dj hD hFc
    refine lv_ldc (v := 61267) hx hb hown (hts _ (u_Vq_In _ k_In_17)) d_In_isThere_17 ?_
    refine lv_icmp_ne (tgt := 26) hx hb d_In_isThere_19 (by decide) (fun c_4 => ?_) (fun c_4 => ?_)
    · have h := lf_f h c_4
      exact hB_26 S_3 _ _ _ h hP hD hS (lv_sub hl [] rfl)
    · have h := lf_t h c_4
      refine lv_iconst (v := 1) hx hb d_In_isThere_22 (by decide) ?_
      refine lv_goto (tgt := 27) hx hb d_In_isThere_23 (by decide) ?_
      rw [hQ]
      have e1 : (1 : Int32) = r := congrArg Prod.fst (Option.some.inj h)
      have e2 : S_3 = S' := congrArg Prod.snd (Option.some.inj h)
      have hP := ly_newP e2.symm hP
      have hD := ly_newD e2.symm hD
      exact W.zret (v := 1) hx hb hr rfl (fun t ht hW => ⟨⟨1, (), rfl, e1, by rw [ht]; exact hP, va_K.moved hW.alike hK, hD⟩, hS.F ht⟩) hS.2.2 d_In_isThere_27
set_option maxHeartbeats 4000000 in
set_option maxRecDepth 100000 in
theorem l_In_groupSize (l : Launch) (dC : Nat → ClassId) (dI : Nat → Nat → Nat) {K : Nat} {M : CA} {E : (Nat → Prop) → State → Prop} (X : ly_X l dC dI K M E) (sz : Nat) {Y : CT} {G : CG} {S S' : CS} {r : Int32} (h : f_In_groupSize K G S = some (r, S')) : Met l y_In_groupSize (.code y_In_groupSize cb_In_groupSize 1 (some .int) :: V_Vq) ({ frames := 1, cells := 0, slots := 0, locals := 21 }) (va_Pc [.ref M.o_In] (fun U => U.heap.size = sz ∧ at_ (dC, dI) (fun _ => True) (wV M Y G S) (tV M) U ∧ E (va_A (wV M Y G S) sz) U)) (va_Qi (fun (r_ : Int32) (u : Unit) => r_ = r) (fun (u : Unit) t => at_ (dC, dI) (va_A (wV M Y G S) sz) (wV M Y G S') (tV M) t) (va_A (wV M Y G S) sz)) 0 0 (va_A (wV M Y G S) sz) := by
  refine Met.ofW (cc := cb_In_groupSize) (maxL := 1) (ret := (some .int)) (by decide) rfl ?_
  intro p e s m args below meth c s₁ B hml hv
  obtain ⟨rfl, hsz, ⟨hP, hK, hD0⟩, hE⟩ := hv
  have hx := B.exec
  have hb := B.bytes
  have hr := B.returns
  have hts0 := atoms_spec (ws := .code y_In_groupSize cb_In_groupSize 1 (some .int) :: V_Vq) B.pre
  have hts : ∀ w ∈ V_Vq, w.before ([.ref M.o_In] : List Value).toArray s = true := fun w h => hts0 w (List.mem_cons_of_mem _ h)
  have hown : s.vm.findClass R_In = some m.cls := findClass_of_methodNamed B.named
  subst hsz
  have hD := hD0.self (sz := s.heap.size)
  generalize hAe : va_A (wV M Y G S) s.heap.size = A at hD hE ⊢
  have hA : ∀ q : Nat, s.heap.size ≤ q → A q := fun q h => by rw [← hAe]; exact Or.inr h
  have hS : va_S A s.heap s.heap [] := va_S.rf
  have hP : va_P (dC, dI) classes (wV M Y G S) s.heap := hP
  have hK : va_K (dC, dI) classes (tV M) s := hK
  have hEw : ∀ (H : Heap) (locs : List Loc), va_S A s.heap H locs → ∀ U : State, U.heap = H → s.WarmedH U.vm → E A U := fun H locs hS U hU hW => X.kept A s U H locs hE hS hU hW
  have hl := lv_entry ([.ref M.o_In]) (n := 1) (Nat.le_of_ble_eq_true rfl)
  rw [lg_entry_eq]
  generalize (lg_sl ([.ref M.o_In]) ++ List.replicate (1 - (lg_sl ([.ref M.o_In])).length) Slot.unset).toArray = ls at hl ⊢
  have hl : lv_has ls 1 [(0, .ref M.o_In)] := hl
  refine qabs (fun Q hQ => ?_)
  rw [f_In_groupSize] at h
  refine lv_aload_n hx hb d_In_groupSize_0 rfl (lv_at hl 0 rfl) ?_
  refine va_get (D := (dC, dI)) (ci := 6) (v := .ref M.o_Dk) (C := R_In) (T := F_In) (N := 2) hx hb hts (fun w h => u_Vq_In w (i_In w h)) hown hK hP 9 rfl rfl 0 (by decide) (hts _ (u_Vq_In _ k_In_5)) (fun _ h9 => h9) rfl d_In_groupSize_1 ?_
  refine lv_sipush (v := 1056) hx hb d_In_groupSize_4 (by decide) ?_
  obtain ⟨r_1, S_1, hc_1, h⟩ := lf_cE h
  have hFc := lx_free hD hS hA
  refine va_calli (va_runV (As := [.int 1056]) (rest := []) ⟨hx, hb, hml, hown, hts⟩ (l_Dk_four l dC dI X _ hc_1) (cwV 1 hts (gwV good_Vq (u_Vq_In _ k_In_14) (u_Vq_Dk _ k_Dk_14) (u_Vq_Dk _ k_Dk_15) (u_Vq_Dk _ k_Dk_0) (wcs (u_Vq_Dk _ k_Dk_16) (fun _ h => h))) rfl rfl rfl (by decide +kernel) ⟨Nat.le_of_ble_eq_true rfl, Nat.le_of_ble_eq_true rfl⟩) (pv_ofE (X.same _) (fun U z1 z2 => X.mono _ _ U hFc (hEw _ _ hS U z1 z2)) hP hK hD (va_recv hK hP (ci := 0) (q0 := 1) rfl rfl)) rfl rfl hl.1 rfl (lv_room (Nat.le_of_ble_eq_true rfl)) d_In_groupSize_7 ⟨by decide, by decide⟩) hS (fun q _ h => hFc q h) hFc (fun r_ u t H locs ht hvm hw hB hz1 hk1 hS => ?_)
  rw [hw]
  obtain ⟨hP, -, hD⟩ := hB
  rw [ht] at hP
  have hD := lx_dj hD hFc
  rw [hQ]
  have e1 : r_1 = r := congrArg Prod.fst (Option.some.inj h)
  have e2 : S_1 = S' := congrArg Prod.snd (Option.some.inj h)
  have hP := ly_newP e2.symm hP
  have hD := ly_newD e2.symm hD
  exact W.iret (v := r_1) hx hb hr (fun t ht hW => ⟨⟨r_1, (), rfl, e1, by rw [ht]; exact hP, va_K.moved hW.alike hK, hD⟩, hS.F ht⟩) hS.2.2 d_In_groupSize_10
set_option maxHeartbeats 4000000 in
set_option maxRecDepth 100000 in
theorem l_In_shows (l : Launch) (dC : Nat → ClassId) (dI : Nat → Nat → Nat) {K : Nat} {M : CA} {E : (Nat → Prop) → State → Prop} (X : ly_X l dC dI K M E) (sz : Nat) {Y : CT} {G : CG} {S S' : CS} {p0 : Int32} {r : Int32} (h : f_In_shows K G S p0 = some (r, S')) : Met l y_In_shows (.code y_In_shows cb_In_shows 6 (some .boolean) :: V_Vq) ({ frames := 2, cells := 0, slots := 0, locals := 41 }) (va_Pc [.ref M.o_In, .int p0] (fun U => U.heap.size = sz ∧ at_ (dC, dI) (fun _ => True) (wV M Y G S) (tV M) U ∧ E (va_A (wV M Y G S) sz) U)) (va_Qi (fun (r_ : Int32) (u : Unit) => r_ = r) (fun (u : Unit) t => at_ (dC, dI) (va_A (wV M Y G S) sz) (wV M Y G S') (tV M) t) (va_A (wV M Y G S) sz)) 0 0 (va_A (wV M Y G S) sz) := by
  refine Met.ofW (cc := cb_In_shows) (maxL := 6) (ret := (some .boolean)) (by decide) rfl ?_
  intro p e s m args below meth c s₁ B hml hv
  obtain ⟨rfl, hsz, ⟨hP, hK, hD0⟩, hE⟩ := hv
  have hx := B.exec
  have hb := B.bytes
  have hr := B.returns
  have hts0 := atoms_spec (ws := .code y_In_shows cb_In_shows 6 (some .boolean) :: V_Vq) B.pre
  have hts : ∀ w ∈ V_Vq, w.before ([.ref M.o_In, .int p0] : List Value).toArray s = true := fun w h => hts0 w (List.mem_cons_of_mem _ h)
  have hown : s.vm.findClass R_In = some m.cls := findClass_of_methodNamed B.named
  subst hsz
  have hD := hD0.self (sz := s.heap.size)
  generalize hAe : va_A (wV M Y G S) s.heap.size = A at hD hE ⊢
  have hA : ∀ q : Nat, s.heap.size ≤ q → A q := fun q h => by rw [← hAe]; exact Or.inr h
  have hS : va_S A s.heap s.heap [] := va_S.rf
  have hP : va_P (dC, dI) classes (wV M Y G S) s.heap := hP
  have hK : va_K (dC, dI) classes (tV M) s := hK
  have hEw : ∀ (H : Heap) (locs : List Loc), va_S A s.heap H locs → ∀ U : State, U.heap = H → s.WarmedH U.vm → E A U := fun H locs hS U hU hW => X.kept A s U H locs hE hS hU hW
  have hl := lv_entry ([.ref M.o_In, .int p0]) (n := 6) (Nat.le_of_ble_eq_true rfl)
  rw [lg_entry_eq]
  generalize (lg_sl ([.ref M.o_In, .int p0]) ++ List.replicate (6 - (lg_sl ([.ref M.o_In, .int p0])).length) Slot.unset).toArray = ls at hl ⊢
  have hl : lv_has ls 6 [(0, .ref M.o_In), (1, .int p0)] := hl
  refine qabs (fun Q hQ => ?_)
  have hB_19 : ∀ (S : CS) (H : Heap) (locs : List Loc) (ls : Array Slot), f_In_shows_19 K G S = some (r, S') → va_P (dC, dI) classes (wV M Y G S) H → va_D A (wV M Y G S) → va_S A s.heap H locs → lv_has ls 6 [] → W p l e ({ frames := 2, cells := 0, slots := 0, locals := 41 }) s m ([.ref M.o_In, .int p0] : List Value).toArray below meth c H locs 0 0 Q (F0 m 19 ls []) := by
    intro S H locs ls h hP hD hS hl
    rw [f_In_shows_19] at h
    refine lv_iconst (v := 1) hx hb d_In_shows_19 (by decide) ?_
    rw [hQ]
    have e1 : (1 : Int32) = r := congrArg Prod.fst (Option.some.inj h)
    have e2 : S = S' := congrArg Prod.snd (Option.some.inj h)
    have hP := ly_newP e2.symm hP
    have hD := ly_newD e2.symm hD
    exact W.zret (v := 1) hx hb hr rfl (fun t ht hW => ⟨⟨1, (), rfl, e1, by rw [ht]; exact hP, va_K.moved hW.alike hK, hD⟩, hS.F ht⟩) hS.2.2 d_In_shows_20
  rw [f_In_shows] at h
  refine lv_aload_n hx hb d_In_shows_0 rfl (lv_at hl 0 rfl) ?_
  obtain ⟨r_1, S_1, hc_1, h⟩ := lf_cE h
  have hFc := lx_free hD hS hA
  refine va_calli (va_runV (As := []) (rest := []) ⟨hx, hb, hml, hown, hts⟩ (l_In_groupSize l dC dI X _ hc_1) (cwV 0 hts (gwV good_Vq (u_Vq_In _ k_In_21) (u_Vq_In _ k_In_22) (u_Vq_In _ k_In_23) (u_Vq_In _ k_In_0) (wcs (u_Vq_In _ k_In_24) (fun _ h => h))) rfl rfl rfl (by decide +kernel) ⟨Nat.le_of_ble_eq_true rfl, Nat.le_of_ble_eq_true rfl⟩) (pv_ofE (X.same _) (fun U z1 z2 => X.mono _ _ U hFc (hEw _ _ hS U z1 z2)) hP hK hD (va_recv hK hP (ci := 6) (q0 := 9) rfl rfl)) rfl rfl hl.1 rfl (lv_room (Nat.le_of_ble_eq_true rfl)) d_In_shows_1 ⟨by decide, by decide⟩) hS (fun q _ h => hFc q h) hFc (fun r_ u t H locs ht hvm hw hB hz1 hk1 hS => ?_)
  rw [hw]
  obtain ⟨hP, -, hD⟩ := hB
  rw [ht] at hP
  have hD := lx_dj hD hFc
  refine lv_istore_n (lv' := [(2, .int r_1), (0, .ref M.o_In), (1, .int p0)]) hx hb d_In_shows_4 rfl hl (by decide) rfl (fun ls hl => ?_)
  refine lv_iload_n hx hb d_In_shows_5 rfl (lv_at hl 2 rfl) ?_
  refine lv_iconst (v := 2) hx hb d_In_shows_6 (by decide) ?_
  refine lv_idiv hx hb d_In_shows_7 (by decide) ?_
  refine lv_topi (fun x_2 ex_2 => ?_)
  have h := lf_lE h ex_2
  refine lv_istore_n (lv' := [(3, .int x_2), (2, .int r_1), (0, .ref M.o_In), (1, .int p0)]) hx hb d_In_shows_8 rfl hl (by decide) rfl (fun ls hl => ?_)
  refine lv_iload_n hx hb d_In_shows_9 rfl (lv_at hl 0 rfl) ?_
  refine lv_iconst (v := 1) hx hb d_In_shows_10 (by decide) ?_
  refine lv_icmp_lt (tgt := 19) hx hb d_In_shows_11 (by decide) (fun c_3 => ?_) (fun c_3 => ?_)
  · have h := lf_t h c_3
    exact hB_19 S_1 _ _ _ h hP hD hS (lv_sub hl [] rfl)
  · have h := lf_f h c_3
    refine lv_iload_n hx hb d_In_shows_14 rfl (lv_at hl 1 rfl) ?_
    refine lv_iconst (v := 1) hx hb d_In_shows_15 (by decide) ?_
    refine lv_icmp_ge (tgt := 21) hx hb d_In_shows_16 (by decide) (fun c_4 => ?_) (fun c_4 => ?_)
    · have h := lf_t h c_4
      refine lv_iload_n hx hb d_In_shows_21 rfl (lv_at hl 0 rfl) ?_
      refine lv_iconst (v := 1) hx hb d_In_shows_22 (by decide) ?_
      refine lv_isub hx hb d_In_shows_23 ?_
      refine lv_iload_n hx hb d_In_shows_24 rfl (lv_at hl 1 rfl) ?_
      obtain ⟨g_5, h⟩ := lf_gE h
      refine lv_irem hx hb d_In_shows_25 g_5 ?_
      refine lv_topi (fun x_6 ex_6 => ?_)
      have h := lf_lE h ex_6
      refine lv_istore (lv' := [(4, .int x_6), (3, .int x_2), (2, .int r_1), (0, .ref M.o_In), (1, .int p0)]) hx hb d_In_shows_26 hl (by decide) rfl (fun ls hl => ?_)
      refine lv_aload_n hx hb d_In_shows_28 rfl (lv_at hl 3 rfl) ?_
      refine va_get (D := (dC, dI)) (ci := 6) (v := .ref M.o_Dk) (C := R_In) (T := F_In) (N := 2) hx hb hts (fun w h => u_Vq_In w (i_In w h)) hown hK hP 9 rfl rfl 0 (by decide) (hts _ (u_Vq_In _ k_In_5)) (fun _ h9 => h9) rfl d_In_shows_29 ?_
      refine lv_sipush (v := 2048) hx hb d_In_shows_32 (by decide) ?_
      refine lv_bipush (v := 32) hx hb d_In_shows_35 (by decide) ?_
      refine lv_iload_n hx hb d_In_shows_37 rfl (lv_at hl 1 rfl) ?_
      refine lv_iconst (v := 1) hx hb d_In_shows_38 (by decide) ?_
      refine lv_isub hx hb d_In_shows_39 ?_
      refine lv_iload_n hx hb d_In_shows_40 rfl (lv_at hl 2 rfl) ?_
      obtain ⟨g_7, h⟩ := lf_gE h
      refine lv_idiv hx hb d_In_shows_41 g_7 ?_
      refine lv_imul hx hb d_In_shows_42 ?_
      refine lv_iadd hx hb d_In_shows_43 ?_
      obtain ⟨r_8, S_8, hc_8, h⟩ := lf_cE h
      have hFc := lx_free hD hS hA
      refine va_calli (va_runV (As := [.int (2048 + (32 * ((x_2 - 1) / r_1)))]) (rest := []) ⟨hx, hb, hml, hown, hts⟩ (l_Dk_four l dC dI X _ hc_8) (cwV 1 hts (gwV good_Vq (u_Vq_In _ k_In_14) (u_Vq_Dk _ k_Dk_14) (u_Vq_Dk _ k_Dk_15) (u_Vq_Dk _ k_Dk_0) (wcs (u_Vq_Dk _ k_Dk_16) (fun _ h => h))) rfl rfl rfl (by decide +kernel) ⟨Nat.le_of_ble_eq_true rfl, Nat.le_of_ble_eq_true rfl⟩) (pv_ofE (X.same _) (fun U z1 z2 => X.mono _ _ U hFc (hEw _ _ hS U z1 z2)) hP hK hD (va_recv hK hP (ci := 0) (q0 := 1) rfl rfl)) rfl rfl hl.1 rfl (lv_room (Nat.le_of_ble_eq_true rfl)) d_In_shows_44 ⟨by decide, by decide⟩) hS (fun q _ h => hFc q h) hFc (fun r_ u t H locs ht hvm hw hB hz1 hk1 hS => ?_)
      rw [hw]
      obtain ⟨hP, -, hD⟩ := hB
      rw [ht] at hP
      have hD := lx_dj hD hFc
      refine lv_istore (lv' := [(5, .int r_8), (4, .int x_6), (3, .int x_2), (2, .int r_1), (0, .ref M.o_In), (1, .int p0)]) hx hb d_In_shows_47 hl (by decide) rfl (fun ls hl => ?_)
      refine lv_aload_n hx hb d_In_shows_49 rfl (lv_at hl 4 rfl) ?_
      refine va_get (D := (dC, dI)) (ci := 6) (v := .ref M.o_Dk) (C := R_In) (T := F_In) (N := 2) hx hb hts (fun w h => u_Vq_In w (i_In w h)) hown hK hP 9 rfl rfl 0 (by decide) (hts _ (u_Vq_In _ k_In_5)) (fun _ h9 => h9) rfl d_In_shows_50 ?_
      refine lv_iload hx hb d_In_shows_53 (lv_at hl 0 rfl) ?_
      refine lv_sipush (v := 1024) hx hb d_In_shows_55 (by decide) ?_
      refine lv_imul hx hb d_In_shows_58 ?_
      refine lv_iload hx hb d_In_shows_59 (lv_at hl 1 rfl) ?_
      refine lv_bipush (v := 8) hx hb d_In_shows_61 (by decide) ?_
      refine lv_idiv hx hb d_In_shows_63 (by decide) ?_
      refine lv_iadd hx hb d_In_shows_64 ?_
      obtain ⟨r_9, S_9, hc_9, h⟩ := lf_cE h
      have hFc := lx_free hD hS hA
      refine va_calli (va_runV (As := [.int ((r_8 * 1024) + (x_6 / 8))]) (rest := []) ⟨hx, hb, hml, hown, hts⟩ (l_Dk_one l dC dI X _ hc_9) (cwV 1 hts (gwV good_Vq (u_Vq_In _ k_In_25) (u_Vq_Dk _ k_Dk_20) (u_Vq_Dk _ k_Dk_21) (u_Vq_Dk _ k_Dk_0) (wcs (u_Vq_Dk _ k_Dk_22) (fun _ h => h))) rfl rfl rfl (by decide +kernel) ⟨Nat.le_of_ble_eq_true rfl, Nat.le_of_ble_eq_true rfl⟩) (pv_ofE (X.same _) (fun U z1 z2 => X.mono _ _ U hFc (hEw _ _ hS U z1 z2)) hP hK hD (va_recv hK hP (ci := 0) (q0 := 1) rfl rfl)) rfl rfl hl.1 rfl (lv_room (Nat.le_of_ble_eq_true rfl)) d_In_shows_65 ⟨by decide, by decide⟩) hS (fun q _ h => hFc q h) hFc (fun r_ u t H locs ht hvm hw hB hz1 hk1 hS => ?_)
      rw [hw]
      obtain ⟨hP, -, hD⟩ := hB
      rw [ht] at hP
      have hD := lx_dj hD hFc
      refine lv_iload hx hb d_In_shows_68 (lv_at hl 1 rfl) ?_
      refine lv_bipush (v := 8) hx hb d_In_shows_70 (by decide) ?_
      refine lv_irem hx hb d_In_shows_72 (by decide) ?_
      refine lv_ishr hx hb d_In_shows_73 ?_
      refine lv_iconst (v := 1) hx hb d_In_shows_74 (by decide) ?_
      refine lv_iand hx hb d_In_shows_75 ?_
      refine lv_if_eq (tgt := 83) hx hb d_In_shows_76 (by decide) (fun c_10 => ?_) (fun c_10 => ?_)
      · have h := lf_t h c_10
        refine lv_iconst (v := 0) hx hb d_In_shows_83 (by decide) ?_
        rw [hQ]
        have e1 : (0 : Int32) = r := congrArg Prod.fst (Option.some.inj h)
        have e2 : S_9 = S' := congrArg Prod.snd (Option.some.inj h)
        have hP := ly_newP e2.symm hP
        have hD := ly_newD e2.symm hD
        exact W.zret (v := 0) hx hb hr rfl (fun t ht hW => ⟨⟨0, (), rfl, e1, by rw [ht]; exact hP, va_K.moved hW.alike hK, hD⟩, hS.F ht⟩) hS.2.2 d_In_shows_84
      · have h := lf_f h c_10
        refine lv_iconst (v := 1) hx hb d_In_shows_79 (by decide) ?_
        refine lv_goto (tgt := 84) hx hb d_In_shows_80 (by decide) ?_
        rw [hQ]
        have e1 : (1 : Int32) = r := congrArg Prod.fst (Option.some.inj h)
        have e2 : S_9 = S' := congrArg Prod.snd (Option.some.inj h)
        have hP := ly_newP e2.symm hP
        have hD := ly_newD e2.symm hD
        exact W.zret (v := 1) hx hb hr rfl (fun t ht hW => ⟨⟨1, (), rfl, e1, by rw [ht]; exact hP, va_K.moved hW.alike hK, hD⟩, hS.F ht⟩) hS.2.2 d_In_shows_84
    · have h := lf_f h c_4
      exact hB_19 S_1 _ _ _ h hP hD hS (lv_sub hl [] rfl)
set_option maxHeartbeats 4000000 in
set_option maxRecDepth 100000 in
theorem l_In_inodePlace (l : Launch) (dC : Nat → ClassId) (dI : Nat → Nat → Nat) {K : Nat} {M : CA} {E : (Nat → Prop) → State → Prop} (X : ly_X l dC dI K M E) (sz : Nat) {Y : CT} {G : CG} {S S' : CS} {p0 : Int32} {r : Int32} (h : f_In_inodePlace K G S p0 = some (r, S')) : Met l y_In_inodePlace (.code y_In_inodePlace cb_In_inodePlace 4 (some .int) :: V_Vq) ({ frames := 1, cells := 0, slots := 0, locals := 21 }) (va_Pc [.ref M.o_In, .int p0] (fun U => U.heap.size = sz ∧ at_ (dC, dI) (fun _ => True) (wV M Y G S) (tV M) U ∧ E (va_A (wV M Y G S) sz) U)) (va_Qi (fun (r_ : Int32) (u : Unit) => r_ = r) (fun (u : Unit) t => at_ (dC, dI) (va_A (wV M Y G S) sz) (wV M Y G S') (tV M) t) (va_A (wV M Y G S) sz)) 0 0 (va_A (wV M Y G S) sz) := by
  refine Met.ofW (cc := cb_In_inodePlace) (maxL := 4) (ret := (some .int)) (by decide) rfl ?_
  intro p e s m args below meth c s₁ B hml hv
  obtain ⟨rfl, hsz, ⟨hP, hK, hD0⟩, hE⟩ := hv
  have hx := B.exec
  have hb := B.bytes
  have hr := B.returns
  have hts0 := atoms_spec (ws := .code y_In_inodePlace cb_In_inodePlace 4 (some .int) :: V_Vq) B.pre
  have hts : ∀ w ∈ V_Vq, w.before ([.ref M.o_In, .int p0] : List Value).toArray s = true := fun w h => hts0 w (List.mem_cons_of_mem _ h)
  have hown : s.vm.findClass R_In = some m.cls := findClass_of_methodNamed B.named
  subst hsz
  have hD := hD0.self (sz := s.heap.size)
  generalize hAe : va_A (wV M Y G S) s.heap.size = A at hD hE ⊢
  have hA : ∀ q : Nat, s.heap.size ≤ q → A q := fun q h => by rw [← hAe]; exact Or.inr h
  have hS : va_S A s.heap s.heap [] := va_S.rf
  have hP : va_P (dC, dI) classes (wV M Y G S) s.heap := hP
  have hK : va_K (dC, dI) classes (tV M) s := hK
  have hEw : ∀ (H : Heap) (locs : List Loc), va_S A s.heap H locs → ∀ U : State, U.heap = H → s.WarmedH U.vm → E A U := fun H locs hS U hU hW => X.kept A s U H locs hE hS hU hW
  have hl := lv_entry ([.ref M.o_In, .int p0]) (n := 4) (Nat.le_of_ble_eq_true rfl)
  rw [lg_entry_eq]
  generalize (lg_sl ([.ref M.o_In, .int p0]) ++ List.replicate (4 - (lg_sl ([.ref M.o_In, .int p0])).length) Slot.unset).toArray = ls at hl ⊢
  have hl : lv_has ls 4 [(0, .ref M.o_In), (1, .int p0)] := hl
  refine qabs (fun Q hQ => ?_)
  have hB_21 : ∀ (S : CS) (H : Heap) (locs : List Loc) (ls : Array Slot), f_In_inodePlace_21 K G S = some (r, S') → va_P (dC, dI) classes (wV M Y G S) H → va_D A (wV M Y G S) → va_S A s.heap H locs → lv_has ls 4 [] → W p l e ({ frames := 1, cells := 0, slots := 0, locals := 21 }) s m ([.ref M.o_In, .int p0] : List Value).toArray below meth c H locs 0 0 Q (F0 m 21 ls []) := by
    intro S H locs ls h hP hD hS hl
    rw [f_In_inodePlace_21] at h
    refine lv_iconst (v := 0) hx hb d_In_inodePlace_21 (by decide) ?_
    rw [hQ]
    have e1 : (0 : Int32) = r := congrArg Prod.fst (Option.some.inj h)
    have e2 : S = S' := congrArg Prod.snd (Option.some.inj h)
    have hP := ly_newP e2.symm hP
    have hD := ly_newD e2.symm hD
    exact W.iret (v := 0) hx hb hr (fun t ht hW => ⟨⟨0, (), rfl, e1, by rw [ht]; exact hP, va_K.moved hW.alike hK, hD⟩, hS.F ht⟩) hS.2.2 d_In_inodePlace_22
  rw [f_In_inodePlace] at h
  refine lv_aload_n hx hb d_In_inodePlace_0 rfl (lv_at hl 0 rfl) ?_
  refine va_get (D := (dC, dI)) (ci := 6) (v := .ref M.o_Dk) (C := R_In) (T := F_In) (N := 2) hx hb hts (fun w h => u_Vq_In w (i_In w h)) hown hK hP 9 rfl rfl 0 (by decide) (hts _ (u_Vq_In _ k_In_5)) (fun _ h9 => h9) rfl d_In_inodePlace_1 ?_
  refine lv_sipush (v := 1064) hx hb d_In_inodePlace_4 (by decide) ?_
  obtain ⟨r_1, S_1, hc_1, h⟩ := lf_cE h
  have hFc := lx_free hD hS hA
  refine va_calli (va_runV (As := [.int 1064]) (rest := []) ⟨hx, hb, hml, hown, hts⟩ (l_Dk_four l dC dI X _ hc_1) (cwV 1 hts (gwV good_Vq (u_Vq_In _ k_In_14) (u_Vq_Dk _ k_Dk_14) (u_Vq_Dk _ k_Dk_15) (u_Vq_Dk _ k_Dk_0) (wcs (u_Vq_Dk _ k_Dk_16) (fun _ h => h))) rfl rfl rfl (by decide +kernel) ⟨Nat.le_of_ble_eq_true rfl, Nat.le_of_ble_eq_true rfl⟩) (pv_ofE (X.same _) (fun U z1 z2 => X.mono _ _ U hFc (hEw _ _ hS U z1 z2)) hP hK hD (va_recv hK hP (ci := 0) (q0 := 1) rfl rfl)) rfl rfl hl.1 rfl (lv_room (Nat.le_of_ble_eq_true rfl)) d_In_inodePlace_7 ⟨by decide, by decide⟩) hS (fun q _ h => hFc q h) hFc (fun r_ u t H locs ht hvm hw hB hz1 hk1 hS => ?_)
  rw [hw]
  obtain ⟨hP, -, hD⟩ := hB
  rw [ht] at hP
  have hD := lx_dj hD hFc
  refine lv_istore_n (lv' := [(2, .int r_1), (0, .ref M.o_In), (1, .int p0)]) hx hb d_In_inodePlace_10 rfl hl (by decide) rfl (fun ls hl => ?_)
  refine lv_iload_n hx hb d_In_inodePlace_11 rfl (lv_at hl 2 rfl) ?_
  refine lv_iconst (v := 1) hx hb d_In_inodePlace_12 (by decide) ?_
  refine lv_icmp_lt (tgt := 21) hx hb d_In_inodePlace_13 (by decide) (fun c_2 => ?_) (fun c_2 => ?_)
  · have h := lf_t h c_2
    exact hB_21 S_1 _ _ _ h hP hD hS (lv_sub hl [] rfl)
  · have h := lf_f h c_2
    refine lv_iload_n hx hb d_In_inodePlace_16 rfl (lv_at hl 0 rfl) ?_
    refine lv_iconst (v := 1) hx hb d_In_inodePlace_17 (by decide) ?_
    refine lv_icmp_ge (tgt := 23) hx hb d_In_inodePlace_18 (by decide) (fun c_3 => ?_) (fun c_3 => ?_)
    · have h := lf_t h c_3
      refine lv_aload_n hx hb d_In_inodePlace_23 rfl (lv_at hl 1 rfl) ?_
      refine va_get (D := (dC, dI)) (ci := 6) (v := .ref M.o_Dk) (C := R_In) (T := F_In) (N := 2) hx hb hts (fun w h => u_Vq_In w (i_In w h)) hown hK hP 9 rfl rfl 0 (by decide) (hts _ (u_Vq_In _ k_In_5)) (fun _ h9 => h9) rfl d_In_inodePlace_24 ?_
      refine lv_sipush (v := 2048) hx hb d_In_inodePlace_27 (by decide) ?_
      refine lv_bipush (v := 32) hx hb d_In_inodePlace_30 (by decide) ?_
      refine lv_iload_n hx hb d_In_inodePlace_32 rfl (lv_at hl 2 rfl) ?_
      refine lv_iconst (v := 1) hx hb d_In_inodePlace_33 (by decide) ?_
      refine lv_isub hx hb d_In_inodePlace_34 ?_
      refine lv_iload_n hx hb d_In_inodePlace_35 rfl (lv_at hl 0 rfl) ?_
      obtain ⟨g_4, h⟩ := lf_gE h
      refine lv_idiv hx hb d_In_inodePlace_36 g_4 ?_
      refine lv_imul hx hb d_In_inodePlace_37 ?_
      refine lv_iadd hx hb d_In_inodePlace_38 ?_
      refine lv_bipush (v := 8) hx hb d_In_inodePlace_39 (by decide) ?_
      refine lv_iadd hx hb d_In_inodePlace_41 ?_
      obtain ⟨r_5, S_5, hc_5, h⟩ := lf_cE h
      have hFc := lx_free hD hS hA
      refine va_calli (va_runV (As := [.int ((2048 + (32 * ((p0 - 1) / r_1))) + 8)]) (rest := []) ⟨hx, hb, hml, hown, hts⟩ (l_Dk_four l dC dI X _ hc_5) (cwV 1 hts (gwV good_Vq (u_Vq_In _ k_In_14) (u_Vq_Dk _ k_Dk_14) (u_Vq_Dk _ k_Dk_15) (u_Vq_Dk _ k_Dk_0) (wcs (u_Vq_Dk _ k_Dk_16) (fun _ h => h))) rfl rfl rfl (by decide +kernel) ⟨Nat.le_of_ble_eq_true rfl, Nat.le_of_ble_eq_true rfl⟩) (pv_ofE (X.same _) (fun U z1 z2 => X.mono _ _ U hFc (hEw _ _ hS U z1 z2)) hP hK hD (va_recv hK hP (ci := 0) (q0 := 1) rfl rfl)) rfl rfl hl.1 rfl (lv_room (Nat.le_of_ble_eq_true rfl)) d_In_inodePlace_42 ⟨by decide, by decide⟩) hS (fun q _ h => hFc q h) hFc (fun r_ u t H locs ht hvm hw hB hz1 hk1 hS => ?_)
      rw [hw]
      obtain ⟨hP, -, hD⟩ := hB
      rw [ht] at hP
      have hD := lx_dj hD hFc
      refine lv_istore_n (lv' := [(3, .int r_5), (2, .int r_1), (0, .ref M.o_In), (1, .int p0)]) hx hb d_In_inodePlace_45 rfl hl (by decide) rfl (fun ls hl => ?_)
      refine lv_iload_n hx hb d_In_inodePlace_46 rfl (lv_at hl 0 rfl) ?_
      refine lv_sipush (v := 1024) hx hb d_In_inodePlace_47 (by decide) ?_
      refine lv_imul hx hb d_In_inodePlace_50 ?_
      refine lv_iload_n hx hb d_In_inodePlace_51 rfl (lv_at hl 3 rfl) ?_
      refine lv_iconst (v := 1) hx hb d_In_inodePlace_52 (by decide) ?_
      refine lv_isub hx hb d_In_inodePlace_53 ?_
      refine lv_iload_n hx hb d_In_inodePlace_54 rfl (lv_at hl 1 rfl) ?_
      obtain ⟨g_6, h⟩ := lf_gE h
      refine lv_irem hx hb d_In_inodePlace_55 g_6 ?_
      refine lv_sipush (v := 128) hx hb d_In_inodePlace_56 (by decide) ?_
      refine lv_imul hx hb d_In_inodePlace_59 ?_
      refine lv_iadd hx hb d_In_inodePlace_60 ?_
      rw [hQ]
      have e1 : ((r_5 * 1024) + (((p0 - 1) - (p0 - 1) / r_1 * r_1) * 128)) = r := congrArg Prod.fst (Option.some.inj h)
      have e2 : S_5 = S' := congrArg Prod.snd (Option.some.inj h)
      have hP := ly_newP e2.symm hP
      have hD := ly_newD e2.symm hD
      exact W.iret (v := ((r_5 * 1024) + (((p0 - 1) - (p0 - 1) / r_1 * r_1) * 128))) hx hb hr (fun t ht hW => ⟨⟨((r_5 * 1024) + (((p0 - 1) - (p0 - 1) / r_1 * r_1) * 128)), (), rfl, e1, by rw [ht]; exact hP, va_K.moved hW.alike hK, hD⟩, hS.F ht⟩) hS.2.2 d_In_inodePlace_61
    · have h := lf_f h c_3
      exact hB_21 S_1 _ _ _ h hP hD hS (lv_sub hl [] rfl)
set_option maxHeartbeats 4000000 in
set_option maxRecDepth 100000 in
theorem l_In_blockOf (l : Launch) (dC : Nat → ClassId) (dI : Nat → Nat → Nat) {K : Nat} {M : CA} {E : (Nat → Prop) → State → Prop} (X : ly_X l dC dI K M E) (sz : Nat) {Y : CT} {G : CG} {S S' : CS} {p0 : Int32} {p1 : Int32} {r : Int32} (h : f_In_blockOf K G S p0 p1 = some (r, S')) : Met l y_In_blockOf (.code y_In_blockOf cb_In_blockOf 5 (some .int) :: V_Vq) ({ frames := 1, cells := 0, slots := 0, locals := 21 }) (va_Pc [.ref M.o_In, .int p0, .int p1] (fun U => U.heap.size = sz ∧ at_ (dC, dI) (fun _ => True) (wV M Y G S) (tV M) U ∧ E (va_A (wV M Y G S) sz) U)) (va_Qi (fun (r_ : Int32) (u : Unit) => r_ = r) (fun (u : Unit) t => at_ (dC, dI) (va_A (wV M Y G S) sz) (wV M Y G S') (tV M) t) (va_A (wV M Y G S) sz)) 0 0 (va_A (wV M Y G S) sz) := by
  refine Met.ofW (cc := cb_In_blockOf) (maxL := 5) (ret := (some .int)) (by decide) rfl ?_
  intro p e s m args below meth c s₁ B hml hv
  obtain ⟨rfl, hsz, ⟨hP, hK, hD0⟩, hE⟩ := hv
  have hx := B.exec
  have hb := B.bytes
  have hr := B.returns
  have hts0 := atoms_spec (ws := .code y_In_blockOf cb_In_blockOf 5 (some .int) :: V_Vq) B.pre
  have hts : ∀ w ∈ V_Vq, w.before ([.ref M.o_In, .int p0, .int p1] : List Value).toArray s = true := fun w h => hts0 w (List.mem_cons_of_mem _ h)
  have hown : s.vm.findClass R_In = some m.cls := findClass_of_methodNamed B.named
  subst hsz
  have hD := hD0.self (sz := s.heap.size)
  generalize hAe : va_A (wV M Y G S) s.heap.size = A at hD hE ⊢
  have hA : ∀ q : Nat, s.heap.size ≤ q → A q := fun q h => by rw [← hAe]; exact Or.inr h
  have hS : va_S A s.heap s.heap [] := va_S.rf
  have hP : va_P (dC, dI) classes (wV M Y G S) s.heap := hP
  have hK : va_K (dC, dI) classes (tV M) s := hK
  have hEw : ∀ (H : Heap) (locs : List Loc), va_S A s.heap H locs → ∀ U : State, U.heap = H → s.WarmedH U.vm → E A U := fun H locs hS U hU hW => X.kept A s U H locs hE hS hU hW
  have hl := lv_entry ([.ref M.o_In, .int p0, .int p1]) (n := 5) (Nat.le_of_ble_eq_true rfl)
  rw [lg_entry_eq]
  generalize (lg_sl ([.ref M.o_In, .int p0, .int p1]) ++ List.replicate (5 - (lg_sl ([.ref M.o_In, .int p0, .int p1])).length) Slot.unset).toArray = ls at hl ⊢
  have hl : lv_has ls 5 [(0, .ref M.o_In), (1, .int p0), (2, .int p1)] := hl
  refine qabs (fun Q hQ => ?_)
  rw [f_In_blockOf] at h
  refine lv_iload_n hx hb d_In_blockOf_0 rfl (lv_at hl 2 rfl) ?_
  refine lv_bipush (v := 12) hx hb d_In_blockOf_1 (by decide) ?_
  refine lv_icmp_ge (tgt := 22) hx hb d_In_blockOf_3 (by decide) (fun c_1 => ?_) (fun c_1 => ?_)
  · have h := lf_t h c_1
    refine lv_iload_n hx hb d_In_blockOf_22 rfl (lv_at hl 2 rfl) ?_
    refine lv_bipush (v := 12) hx hb d_In_blockOf_23 (by decide) ?_
    refine lv_isub hx hb d_In_blockOf_25 ?_
    refine lv_topi (fun x_2 ex_2 => ?_)
    have h := lf_lE h ex_2
    refine lv_istore_n (lv' := [(3, .int x_2), (0, .ref M.o_In), (1, .int p0), (2, .int p1)]) hx hb d_In_blockOf_26 rfl hl (by decide) rfl (fun ls hl => ?_)
    refine lv_iload_n hx hb d_In_blockOf_27 rfl (lv_at hl 0 rfl) ?_
    refine lv_sipush (v := 256) hx hb d_In_blockOf_28 (by decide) ?_
    refine lv_icmp_ge (tgt := 61) hx hb d_In_blockOf_31 (by decide) (fun c_3 => ?_) (fun c_3 => ?_)
    · have h := lf_t h c_3
      obtain ⟨x_4, ex_4, h⟩ := lf_lX h
      refine lv_iincW (v := x_4) (lv' := [(3, .int x_4), (0, .ref M.o_In), (1, .int p0), (2, .int p1)]) hx hb d_In_blockOf_61 hl (k := 0) rfl (by rw [ex_4]; rfl) (by decide) rfl (fun ls hl => ?_)
      refine lv_aload_n hx hb d_In_blockOf_67 rfl (lv_at hl 1 rfl) ?_
      refine va_get (D := (dC, dI)) (ci := 6) (v := .ref M.o_Dk) (C := R_In) (T := F_In) (N := 2) hx hb hts (fun w h => u_Vq_In w (i_In w h)) hown hK hP 9 rfl rfl 0 (by decide) (hts _ (u_Vq_In _ k_In_5)) (fun _ h9 => h9) rfl d_In_blockOf_68 ?_
      refine lv_aload_n hx hb d_In_blockOf_71 rfl (lv_at hl 1 rfl) ?_
      refine va_get (D := (dC, dI)) (ci := 6) (v := .ref M.o_Dk) (C := R_In) (T := F_In) (N := 2) hx hb hts (fun w h => u_Vq_In w (i_In w h)) hown hK hP 9 rfl rfl 0 (by decide) (hts _ (u_Vq_In _ k_In_5)) (fun _ h9 => h9) rfl d_In_blockOf_72 ?_
      refine lv_iload_n hx hb d_In_blockOf_75 rfl (lv_at hl 2 rfl) ?_
      refine lv_bipush (v := 92) hx hb d_In_blockOf_76 (by decide) ?_
      refine lv_iadd hx hb d_In_blockOf_78 ?_
      obtain ⟨r_5, S_5, hc_5, h⟩ := lf_cE h
      have hFc := lx_free hD hS hA
      refine va_calli (va_runV (As := [.int (p0 + 92)]) (rest := [.ref M.o_Dk]) ⟨hx, hb, hml, hown, hts⟩ (l_Dk_four l dC dI X _ hc_5) (cwV 1 hts (gwV good_Vq (u_Vq_In _ k_In_14) (u_Vq_Dk _ k_Dk_14) (u_Vq_Dk _ k_Dk_15) (u_Vq_Dk _ k_Dk_0) (wcs (u_Vq_Dk _ k_Dk_16) (fun _ h => h))) rfl rfl rfl (by decide +kernel) ⟨Nat.le_of_ble_eq_true rfl, Nat.le_of_ble_eq_true rfl⟩) (pv_ofE (X.same _) (fun U z1 z2 => X.mono _ _ U hFc (hEw _ _ hS U z1 z2)) hP hK hD (va_recv hK hP (ci := 0) (q0 := 1) rfl rfl)) rfl rfl hl.1 rfl (lv_room (Nat.le_of_ble_eq_true rfl)) d_In_blockOf_79 ⟨by decide, by decide⟩) hS (fun q _ h => hFc q h) hFc (fun r_ u t H locs ht hvm hw hB hz1 hk1 hS => ?_)
      rw [hw]
      obtain ⟨hP, -, hD⟩ := hB
      rw [ht] at hP
      have hD := lx_dj hD hFc
      refine lv_sipush (v := 1024) hx hb d_In_blockOf_82 (by decide) ?_
      refine lv_imul hx hb d_In_blockOf_85 ?_
      refine lv_iconst (v := 4) hx hb d_In_blockOf_86 (by decide) ?_
      refine lv_iload_n hx hb d_In_blockOf_87 rfl (lv_at hl 0 rfl) ?_
      refine lv_sipush (v := 256) hx hb d_In_blockOf_88 (by decide) ?_
      refine lv_idiv hx hb d_In_blockOf_91 (by decide) ?_
      refine lv_imul hx hb d_In_blockOf_92 ?_
      refine lv_iadd hx hb d_In_blockOf_93 ?_
      obtain ⟨r_6, S_6, hc_6, h⟩ := lf_cE h
      have hFc := lx_free hD hS hA
      refine va_calli (va_runV (As := [.int ((r_5 * 1024) + (4 * (x_4 / 256)))]) (rest := []) ⟨hx, hb, hml, hown, hts⟩ (l_Dk_four l dC dI X _ hc_6) (cwV 1 hts (gwV good_Vq (u_Vq_In _ k_In_14) (u_Vq_Dk _ k_Dk_14) (u_Vq_Dk _ k_Dk_15) (u_Vq_Dk _ k_Dk_0) (wcs (u_Vq_Dk _ k_Dk_16) (fun _ h => h))) rfl rfl rfl (by decide +kernel) ⟨Nat.le_of_ble_eq_true rfl, Nat.le_of_ble_eq_true rfl⟩) (pv_ofE (X.same _) (fun U z1 z2 => X.mono _ _ U hFc (hEw _ _ hS U z1 z2)) hP hK hD (va_recv hK hP (ci := 0) (q0 := 1) rfl rfl)) rfl rfl hl.1 rfl (lv_room (Nat.le_of_ble_eq_true rfl)) d_In_blockOf_94 ⟨by decide, by decide⟩) hS (fun q _ h => hFc q h) hFc (fun r_ u t H locs ht hvm hw hB hz1 hk1 hS => ?_)
      rw [hw]
      obtain ⟨hP, -, hD⟩ := hB
      rw [ht] at hP
      have hD := lx_dj hD hFc
      refine lv_istore (lv' := [(4, .int r_6), (3, .int x_4), (0, .ref M.o_In), (1, .int p0), (2, .int p1)]) hx hb d_In_blockOf_97 hl (by decide) rfl (fun ls hl => ?_)
      refine lv_aload_n hx hb d_In_blockOf_99 rfl (lv_at hl 2 rfl) ?_
      refine va_get (D := (dC, dI)) (ci := 6) (v := .ref M.o_Dk) (C := R_In) (T := F_In) (N := 2) hx hb hts (fun w h => u_Vq_In w (i_In w h)) hown hK hP 9 rfl rfl 0 (by decide) (hts _ (u_Vq_In _ k_In_5)) (fun _ h9 => h9) rfl d_In_blockOf_100 ?_
      refine lv_iload hx hb d_In_blockOf_103 (lv_at hl 0 rfl) ?_
      refine lv_sipush (v := 1024) hx hb d_In_blockOf_105 (by decide) ?_
      refine lv_imul hx hb d_In_blockOf_108 ?_
      refine lv_iconst (v := 4) hx hb d_In_blockOf_109 (by decide) ?_
      refine lv_iload_n hx hb d_In_blockOf_110 rfl (lv_at hl 1 rfl) ?_
      refine lv_sipush (v := 256) hx hb d_In_blockOf_111 (by decide) ?_
      refine lv_irem hx hb d_In_blockOf_114 (by decide) ?_
      refine lv_imul hx hb d_In_blockOf_115 ?_
      refine lv_iadd hx hb d_In_blockOf_116 ?_
      obtain ⟨r_7, S_7, hc_7, h⟩ := lf_cE h
      have hFc := lx_free hD hS hA
      refine va_calli (va_runV (As := [.int ((r_6 * 1024) + (4 * (x_4 - x_4 / 256 * 256)))]) (rest := []) ⟨hx, hb, hml, hown, hts⟩ (l_Dk_four l dC dI X _ hc_7) (cwV 1 hts (gwV good_Vq (u_Vq_In _ k_In_14) (u_Vq_Dk _ k_Dk_14) (u_Vq_Dk _ k_Dk_15) (u_Vq_Dk _ k_Dk_0) (wcs (u_Vq_Dk _ k_Dk_16) (fun _ h => h))) rfl rfl rfl (by decide +kernel) ⟨Nat.le_of_ble_eq_true rfl, Nat.le_of_ble_eq_true rfl⟩) (pv_ofE (X.same _) (fun U z1 z2 => X.mono _ _ U hFc (hEw _ _ hS U z1 z2)) hP hK hD (va_recv hK hP (ci := 0) (q0 := 1) rfl rfl)) rfl rfl hl.1 rfl (lv_room (Nat.le_of_ble_eq_true rfl)) d_In_blockOf_117 ⟨by decide, by decide⟩) hS (fun q _ h => hFc q h) hFc (fun r_ u t H locs ht hvm hw hB hz1 hk1 hS => ?_)
      rw [hw]
      obtain ⟨hP, -, hD⟩ := hB
      rw [ht] at hP
      have hD := lx_dj hD hFc
      rw [hQ]
      have e1 : r_7 = r := congrArg Prod.fst (Option.some.inj h)
      have e2 : S_7 = S' := congrArg Prod.snd (Option.some.inj h)
      have hP := ly_newP e2.symm hP
      have hD := ly_newD e2.symm hD
      exact W.iret (v := r_7) hx hb hr (fun t ht hW => ⟨⟨r_7, (), rfl, e1, by rw [ht]; exact hP, va_K.moved hW.alike hK, hD⟩, hS.F ht⟩) hS.2.2 d_In_blockOf_120
    · have h := lf_f h c_3
      refine lv_aload_n hx hb d_In_blockOf_34 rfl (lv_at hl 1 rfl) ?_
      refine va_get (D := (dC, dI)) (ci := 6) (v := .ref M.o_Dk) (C := R_In) (T := F_In) (N := 2) hx hb hts (fun w h => u_Vq_In w (i_In w h)) hown hK hP 9 rfl rfl 0 (by decide) (hts _ (u_Vq_In _ k_In_5)) (fun _ h9 => h9) rfl d_In_blockOf_35 ?_
      refine lv_aload_n hx hb d_In_blockOf_38 rfl (lv_at hl 1 rfl) ?_
      refine va_get (D := (dC, dI)) (ci := 6) (v := .ref M.o_Dk) (C := R_In) (T := F_In) (N := 2) hx hb hts (fun w h => u_Vq_In w (i_In w h)) hown hK hP 9 rfl rfl 0 (by decide) (hts _ (u_Vq_In _ k_In_5)) (fun _ h9 => h9) rfl d_In_blockOf_39 ?_
      refine lv_iload_n hx hb d_In_blockOf_42 rfl (lv_at hl 2 rfl) ?_
      refine lv_bipush (v := 88) hx hb d_In_blockOf_43 (by decide) ?_
      refine lv_iadd hx hb d_In_blockOf_45 ?_
      obtain ⟨r_8, S_8, hc_8, h⟩ := lf_cE h
      have hFc := lx_free hD hS hA
      refine va_calli (va_runV (As := [.int (p0 + 88)]) (rest := [.ref M.o_Dk]) ⟨hx, hb, hml, hown, hts⟩ (l_Dk_four l dC dI X _ hc_8) (cwV 1 hts (gwV good_Vq (u_Vq_In _ k_In_14) (u_Vq_Dk _ k_Dk_14) (u_Vq_Dk _ k_Dk_15) (u_Vq_Dk _ k_Dk_0) (wcs (u_Vq_Dk _ k_Dk_16) (fun _ h => h))) rfl rfl rfl (by decide +kernel) ⟨Nat.le_of_ble_eq_true rfl, Nat.le_of_ble_eq_true rfl⟩) (pv_ofE (X.same _) (fun U z1 z2 => X.mono _ _ U hFc (hEw _ _ hS U z1 z2)) hP hK hD (va_recv hK hP (ci := 0) (q0 := 1) rfl rfl)) rfl rfl hl.1 rfl (lv_room (Nat.le_of_ble_eq_true rfl)) d_In_blockOf_46 ⟨by decide, by decide⟩) hS (fun q _ h => hFc q h) hFc (fun r_ u t H locs ht hvm hw hB hz1 hk1 hS => ?_)
      rw [hw]
      obtain ⟨hP, -, hD⟩ := hB
      rw [ht] at hP
      have hD := lx_dj hD hFc
      refine lv_sipush (v := 1024) hx hb d_In_blockOf_49 (by decide) ?_
      refine lv_imul hx hb d_In_blockOf_52 ?_
      refine lv_iconst (v := 4) hx hb d_In_blockOf_53 (by decide) ?_
      refine lv_iload_n hx hb d_In_blockOf_54 rfl (lv_at hl 0 rfl) ?_
      refine lv_imul hx hb d_In_blockOf_55 ?_
      refine lv_iadd hx hb d_In_blockOf_56 ?_
      obtain ⟨r_9, S_9, hc_9, h⟩ := lf_cE h
      have hFc := lx_free hD hS hA
      refine va_calli (va_runV (As := [.int ((r_8 * 1024) + (4 * x_2))]) (rest := []) ⟨hx, hb, hml, hown, hts⟩ (l_Dk_four l dC dI X _ hc_9) (cwV 1 hts (gwV good_Vq (u_Vq_In _ k_In_14) (u_Vq_Dk _ k_Dk_14) (u_Vq_Dk _ k_Dk_15) (u_Vq_Dk _ k_Dk_0) (wcs (u_Vq_Dk _ k_Dk_16) (fun _ h => h))) rfl rfl rfl (by decide +kernel) ⟨Nat.le_of_ble_eq_true rfl, Nat.le_of_ble_eq_true rfl⟩) (pv_ofE (X.same _) (fun U z1 z2 => X.mono _ _ U hFc (hEw _ _ hS U z1 z2)) hP hK hD (va_recv hK hP (ci := 0) (q0 := 1) rfl rfl)) rfl rfl hl.1 rfl (lv_room (Nat.le_of_ble_eq_true rfl)) d_In_blockOf_57 ⟨by decide, by decide⟩) hS (fun q _ h => hFc q h) hFc (fun r_ u t H locs ht hvm hw hB hz1 hk1 hS => ?_)
      rw [hw]
      obtain ⟨hP, -, hD⟩ := hB
      rw [ht] at hP
      have hD := lx_dj hD hFc
      rw [hQ]
      have e1 : r_9 = r := congrArg Prod.fst (Option.some.inj h)
      have e2 : S_9 = S' := congrArg Prod.snd (Option.some.inj h)
      have hP := ly_newP e2.symm hP
      have hD := ly_newD e2.symm hD
      exact W.iret (v := r_9) hx hb hr (fun t ht hW => ⟨⟨r_9, (), rfl, e1, by rw [ht]; exact hP, va_K.moved hW.alike hK, hD⟩, hS.F ht⟩) hS.2.2 d_In_blockOf_60
  · have h := lf_f h c_1
    refine lv_aload_n hx hb d_In_blockOf_6 rfl (lv_at hl 0 rfl) ?_
    refine va_get (D := (dC, dI)) (ci := 6) (v := .ref M.o_Dk) (C := R_In) (T := F_In) (N := 2) hx hb hts (fun w h => u_Vq_In w (i_In w h)) hown hK hP 9 rfl rfl 0 (by decide) (hts _ (u_Vq_In _ k_In_5)) (fun _ h9 => h9) rfl d_In_blockOf_7 ?_
    refine lv_iload_n hx hb d_In_blockOf_10 rfl (lv_at hl 1 rfl) ?_
    refine lv_bipush (v := 40) hx hb d_In_blockOf_11 (by decide) ?_
    refine lv_iadd hx hb d_In_blockOf_13 ?_
    refine lv_iconst (v := 4) hx hb d_In_blockOf_14 (by decide) ?_
    refine lv_iload_n hx hb d_In_blockOf_15 rfl (lv_at hl 2 rfl) ?_
    refine lv_imul hx hb d_In_blockOf_16 ?_
    refine lv_iadd hx hb d_In_blockOf_17 ?_
    obtain ⟨r_10, S_10, hc_10, h⟩ := lf_cE h
    have hFc := lx_free hD hS hA
    refine va_calli (va_runV (As := [.int ((p0 + 40) + (4 * p1))]) (rest := []) ⟨hx, hb, hml, hown, hts⟩ (l_Dk_four l dC dI X _ hc_10) (cwV 1 hts (gwV good_Vq (u_Vq_In _ k_In_14) (u_Vq_Dk _ k_Dk_14) (u_Vq_Dk _ k_Dk_15) (u_Vq_Dk _ k_Dk_0) (wcs (u_Vq_Dk _ k_Dk_16) (fun _ h => h))) rfl rfl rfl (by decide +kernel) ⟨Nat.le_of_ble_eq_true rfl, Nat.le_of_ble_eq_true rfl⟩) (pv_ofE (X.same _) (fun U z1 z2 => X.mono _ _ U hFc (hEw _ _ hS U z1 z2)) hP hK hD (va_recv hK hP (ci := 0) (q0 := 1) rfl rfl)) rfl rfl hl.1 rfl (lv_room (Nat.le_of_ble_eq_true rfl)) d_In_blockOf_18 ⟨by decide, by decide⟩) hS (fun q _ h => hFc q h) hFc (fun r_ u t H locs ht hvm hw hB hz1 hk1 hS => ?_)
    rw [hw]
    obtain ⟨hP, -, hD⟩ := hB
    rw [ht] at hP
    have hD := lx_dj hD hFc
    rw [hQ]
    have e1 : r_10 = r := congrArg Prod.fst (Option.some.inj h)
    have e2 : S_10 = S' := congrArg Prod.snd (Option.some.inj h)
    have hP := ly_newP e2.symm hP
    have hD := ly_newD e2.symm hD
    exact W.iret (v := r_10) hx hb hr (fun t ht hW => ⟨⟨r_10, (), rfl, e1, by rw [ht]; exact hP, va_K.moved hW.alike hK, hD⟩, hS.F ht⟩) hS.2.2 d_In_blockOf_21
set_option maxHeartbeats 4000000 in
set_option maxRecDepth 100000 in
theorem l_In_directoryInode (l : Launch) (dC : Nat → ClassId) (dI : Nat → Nat → Nat) {K : Nat} (sz : Nat) {p0 : Int32} {r : Int32} (h : f_In_directoryInode K p0 = some r) : Met l y_In_directoryInode (.code y_In_directoryInode b_In_directoryInode 1 (some .int) :: V_Vq) ({ frames := 0, cells := 0, slots := 0, locals := 0 }) (va_Pc [.int p0] (fun U => U.heap.size = sz ∧ at_ (dC, dI) (fun _ => True) [] [] U)) (va_Qi (fun (r_ : Int32) (u : Unit) => r_ = r) (fun (u : Unit) t => at_ (dC, dI) (va_A [] sz) [] [] t) (va_A [] sz)) 0 0 (va_A [] sz) := by
  refine Met.ofW (cc := b_In_directoryInode) (maxL := 1) (ret := (some .int)) (by decide) rfl ?_
  intro p e s m args below meth c s₁ B hml hv
  obtain ⟨rfl, hsz, hP, hK, hD0⟩ := hv
  have hx := B.exec
  have hb := B.bytes
  have hr := B.returns
  have hts0 := atoms_spec (ws := .code y_In_directoryInode b_In_directoryInode 1 (some .int) :: V_Vq) B.pre
  have hts : ∀ w ∈ V_Vq, w.before ([.int p0] : List Value).toArray s = true := fun w h => hts0 w (List.mem_cons_of_mem _ h)
  have hown : s.vm.findClass R_In = some m.cls := findClass_of_methodNamed B.named
  subst hsz
  have hD := hD0.self (sz := s.heap.size)
  generalize hAe : va_A [] s.heap.size = A at hD ⊢
  have hA : ∀ q : Nat, s.heap.size ≤ q → A q := fun q h => by rw [← hAe]; exact Or.inr h
  have hS : va_S A s.heap s.heap [] := va_S.rf
  have hP : va_P (dC, dI) classes [] s.heap := hP
  have hK : va_K (dC, dI) classes [] s := hK
  have hl := lv_entry ([.int p0]) (n := 1) (Nat.le_of_ble_eq_true rfl)
  rw [lg_entry_eq]
  generalize (lg_sl ([.int p0]) ++ List.replicate (1 - (lg_sl ([.int p0])).length) Slot.unset).toArray = ls at hl ⊢
  have hl : lv_has ls 1 [(0, .int p0)] := hl
  refine qabs (fun Q hQ => ?_)
  rw [f_In_directoryInode] at h
  refine lv_iload_n hx hb d_In_directoryInode_0 rfl (lv_at hl 0 rfl) ?_
  refine lv_if_ne (tgt := 8) hx hb d_In_directoryInode_1 (by decide) (fun c_1 => ?_) (fun c_1 => ?_)
  · have h := lf_f h c_1
    refine lv_iload_n hx hb d_In_directoryInode_8 rfl (lv_at hl 0 rfl) ?_
    rw [hQ]
    have e1 : p0 = r := Option.some.inj h
    exact W.iret (v := p0) hx hb hr (fun t ht hW => ⟨⟨p0, (), rfl, e1, by rw [ht]; exact hP, va_K.moved hW.alike hK, hD⟩, hS.F ht⟩) hS.2.2 d_In_directoryInode_9
  · have h := lf_t h c_1
    refine lv_iconst (v := 2) hx hb d_In_directoryInode_4 (by decide) ?_
    refine lv_goto (tgt := 9) hx hb d_In_directoryInode_5 (by decide) ?_
    rw [hQ]
    have e1 : (2 : Int32) = r := Option.some.inj h
    exact W.iret (v := 2) hx hb hr (fun t ht hW => ⟨⟨2, (), rfl, e1, by rw [ht]; exact hP, va_K.moved hW.alike hK, hD⟩, hS.F ht⟩) hS.2.2 d_In_directoryInode_9
set_option maxHeartbeats 4000000 in
set_option maxRecDepth 100000 in
theorem l_In_findEntry (l : Launch) (dC : Nat → ClassId) (dI : Nat → Nat → Nat) {K : Nat} {M : CA} {E : (Nat → Prop) → State → Prop} (X : ly_X l dC dI K M E) (sz : Nat) {Y : CT} {G : CG} {S S' : CS} {p0 : Int32} {p1 : Int32} {r : Int32} (h : f_In_findEntry K G S p0 p1 = some (r, S')) : Met l y_In_findEntry (.code y_In_findEntry cb_In_findEntry 8 (some .int) :: V_Vq) ({ frames := 2, cells := 0, slots := 0, locals := 45 }) (va_Pc [.ref M.o_In, .int p0, .int p1] (fun U => U.heap.size = sz ∧ at_ (dC, dI) (fun _ => True) (wV M Y G S) (tV M) U ∧ E (va_A (wV M Y G S) sz) U)) (va_Qi (fun (r_ : Int32) (u : Unit) => r_ = r) (fun (u : Unit) t => at_ (dC, dI) (va_A (wV M Y G S) sz) (wV M Y G S') (tV M) t) (va_A (wV M Y G S) sz)) 0 0 (va_A (wV M Y G S) sz) := by
  refine Met.ofW (cc := cb_In_findEntry) (maxL := 8) (ret := (some .int)) (by decide) rfl ?_
  intro p e s m args below meth c s₁ B hml hv
  obtain ⟨rfl, hsz, ⟨hP, hK, hD0⟩, hE⟩ := hv
  have hx := B.exec
  have hb := B.bytes
  have hr := B.returns
  have hts0 := atoms_spec (ws := .code y_In_findEntry cb_In_findEntry 8 (some .int) :: V_Vq) B.pre
  have hts : ∀ w ∈ V_Vq, w.before ([.ref M.o_In, .int p0, .int p1] : List Value).toArray s = true := fun w h => hts0 w (List.mem_cons_of_mem _ h)
  have hown : s.vm.findClass R_In = some m.cls := findClass_of_methodNamed B.named
  subst hsz
  have hD := hD0.self (sz := s.heap.size)
  generalize hAe : va_A (wV M Y G S) s.heap.size = A at hD hE ⊢
  have hA : ∀ q : Nat, s.heap.size ≤ q → A q := fun q h => by rw [← hAe]; exact Or.inr h
  have hS : va_S A s.heap s.heap [] := va_S.rf
  have hP : va_P (dC, dI) classes (wV M Y G S) s.heap := hP
  have hK : va_K (dC, dI) classes (tV M) s := hK
  have hEw : ∀ (H : Heap) (locs : List Loc), va_S A s.heap H locs → ∀ U : State, U.heap = H → s.WarmedH U.vm → E A U := fun H locs hS U hU hW => X.kept A s U H locs hE hS hU hW
  have hl := lv_entry ([.ref M.o_In, .int p0, .int p1]) (n := 8) (Nat.le_of_ble_eq_true rfl)
  rw [lg_entry_eq]
  generalize (lg_sl ([.ref M.o_In, .int p0, .int p1]) ++ List.replicate (8 - (lg_sl ([.ref M.o_In, .int p0, .int p1])).length) Slot.unset).toArray = ls at hl ⊢
  have hl : lv_has ls 8 [(0, .ref M.o_In), (1, .int p0), (2, .int p1)] := hl
  refine qabs (fun Q hQ => ?_)
  have hB_56 : ∀ (rec_33 : Int32 → Int32 → Int32 → Int32 → CS → Option (Int32 × CS)) (hr_33 : ∀ (y_2 : Int32) (y_3 : Int32) (y_4 : Int32) (y_5 : Int32) (S : CS) (H : Heap) (locs : List Loc) (ls : Array Slot), rec_33 y_2 y_3 y_4 y_5 S = some (r, S') → va_P (dC, dI) classes (wV M Y G S) H → va_D A (wV M Y G S) → va_S A s.heap H locs → lv_has ls 8 [(0, .ref M.o_In), (2, .int y_2), (3, .int y_3), (4, .int y_4), (5, .int y_5)] → W p l e ({ frames := 2, cells := 0, slots := 0, locals := 45 }) s m ([.ref M.o_In, .int p0, .int p1] : List Value).toArray below meth c H locs 0 0 Q (F0 m 33 ls [])) (k : Nat), ∀ (y_2 : Int32) (y_3 : Int32) (y_4 : Int32) (y_5 : Int32) (y_6 : Int32) (y_7 : Int32) (S : CS) (H : Heap) (locs : List Loc) (ls : Array Slot), f_In_findEntry_56 K G rec_33 k y_2 y_3 y_4 y_5 y_6 y_7 S = some (r, S') → va_P (dC, dI) classes (wV M Y G S) H → va_D A (wV M Y G S) → va_S A s.heap H locs → lv_has ls 8 [(0, .ref M.o_In), (2, .int y_2), (3, .int y_3), (4, .int y_4), (5, .int y_5), (6, .int y_6), (7, .int y_7)] → W p l e ({ frames := 2, cells := 0, slots := 0, locals := 45 }) s m ([.ref M.o_In, .int p0, .int p1] : List Value).toArray below meth c H locs 0 0 Q (F0 m 56 ls []) := by
    intro rec_33 hr_33 k
    induction k with
    | zero => intro y_2 y_3 y_4 y_5 y_6 y_7 S H locs ls h; exact lf_no h
    | succ k hr_56 =>
      intro y_2 y_3 y_4 y_5 y_6 y_7 S H locs ls h hP hD hS hl
      rw [f_In_findEntry_56] at h
      refine lv_iload hx hb d_In_findEntry_56 (lv_at hl 6 rfl) ?_
      refine lv_sipush (v := 1024) hx hb d_In_findEntry_58 (by decide) ?_
      refine lv_icmp_ge (tgt := 115) hx hb d_In_findEntry_61 (by decide) (fun c_9 => ?_) (fun c_9 => ?_)
      · have h := lf_t h c_9
        obtain ⟨x_10, ex_10, h⟩ := lf_lX h
        refine lv_iinc (v := x_10) (lv' := [(5, .int x_10), (0, .ref M.o_In), (2, .int y_2), (3, .int y_3), (4, .int y_4), (6, .int y_6), (7, .int y_7)]) hx hb d_In_findEntry_115 hl (k := 4) rfl (by rw [ex_10]; rfl) (by decide) rfl (fun ls hl => ?_)
        refine lv_goto (tgt := 33) hx hb d_In_findEntry_118 (by decide) ?_
        exact hr_33 y_2 y_3 y_4 x_10 S _ _ _ h hP hD hS (lv_sub hl [1, 2, 3, 4, 0] rfl)
      · have h := lf_f h c_9
        refine lv_aload_n hx hb d_In_findEntry_64 rfl (lv_at hl 0 rfl) ?_
        refine va_get (D := (dC, dI)) (ci := 6) (v := .int S.v_In_seen) (C := R_In) (T := F_In) (N := 2) hx hb hts (fun w h => u_Vq_In w (i_In w h)) hown hK hP 9 rfl rfl 1 (by decide) (hts _ (u_Vq_In _ k_In_6)) (fun _ h9 => h9) rfl d_In_findEntry_65 ?_
        refine lv_iload_n hx hb d_In_findEntry_68 rfl (lv_at hl 1 rfl) ?_
        refine lv_icmp_ne (tgt := 78) hx hb d_In_findEntry_69 (by decide) (fun c_11 => ?_) (fun c_11 => ?_)
        · have h := lf_f h c_11
          refine lv_aload_n hx hb d_In_findEntry_78 rfl (lv_at hl 0 rfl) ?_
          refine lv_dup hx hb d_In_findEntry_79 rfl ?_
          refine va_get (D := (dC, dI)) (ci := 6) (v := .int S.v_In_seen) (C := R_In) (T := F_In) (N := 2) hx hb hts (fun w h => u_Vq_In w (i_In w h)) hown hK hP 9 rfl rfl 1 (by decide) (hts _ (u_Vq_In _ k_In_6)) (fun _ h9 => h9) rfl d_In_findEntry_80 ?_
          refine lv_iconst (v := 1) hx hb d_In_findEntry_83 (by decide) ?_
          refine lv_iadd hx hb d_In_findEntry_84 ?_
          refine va_put (D := (dC, dI)) (ci := 6) (v := .int (S.v_In_seen + 1)) (ty := .int) (C := R_In) (T := F_In) (N := 2) hx hb hts (fun w h => u_Vq_In w (i_In w h)) t_In t_In_ok n_In hown hK hP hD hS 9 rfl rfl 1 (by decide) (hts _ (u_Vq_In _ k_In_6)) (fun _ h9 => h9) rfl (by decide +kernel) rfl rfl (Nat.le_of_ble_eq_true rfl) d_In_findEntry_85 (fun H locs hP hD hS => ?_)
          obtain ⟨S_12, eS_12, h⟩ := lf_lX h
          have hP := ly_newP eS_12 hP
          have hD := ly_newD eS_12 hD
          refine lv_iload hx hb d_In_findEntry_88 (lv_at hl 6 rfl) ?_
          refine lv_aload_n hx hb d_In_findEntry_90 rfl (lv_at hl 0 rfl) ?_
          refine va_get (D := (dC, dI)) (ci := 6) (v := .ref M.o_Dk) (C := R_In) (T := F_In) (N := 2) hx hb hts (fun w h => u_Vq_In w (i_In w h)) hown hK hP 9 rfl rfl 0 (by decide) (hts _ (u_Vq_In _ k_In_5)) (fun _ h9 => h9) rfl d_In_findEntry_91 ?_
          refine lv_iload hx hb d_In_findEntry_94 (lv_at hl 5 rfl) ?_
          refine lv_iload hx hb d_In_findEntry_96 (lv_at hl 6 rfl) ?_
          refine lv_iadd hx hb d_In_findEntry_98 ?_
          refine lv_iconst (v := 4) hx hb d_In_findEntry_99 (by decide) ?_
          refine lv_iadd hx hb d_In_findEntry_100 ?_
          obtain ⟨r_13, S_13, hc_13, h⟩ := lf_cE h
          have hFc := lx_free hD hS hA
          refine va_calli (va_runV (As := [.int ((y_6 + y_7) + 4)]) (rest := [.int y_7]) ⟨hx, hb, hml, hown, hts⟩ (l_Dk_two l dC dI X _ hc_13) (cwV 1 hts (gwV good_Vq (u_Vq_In _ k_In_16) (u_Vq_Dk _ k_Dk_17) (u_Vq_Dk _ k_Dk_18) (u_Vq_Dk _ k_Dk_0) (wcs (u_Vq_Dk _ k_Dk_19) (fun _ h => h))) rfl rfl rfl (by decide +kernel) ⟨Nat.le_of_ble_eq_true rfl, Nat.le_of_ble_eq_true rfl⟩) (pv_ofE (X.same _) (fun U z1 z2 => X.mono _ _ U hFc (hEw _ _ hS U z1 z2)) hP hK hD (va_recv hK hP (ci := 0) (q0 := 1) rfl rfl)) rfl rfl hl.1 rfl (lv_room (Nat.le_of_ble_eq_true rfl)) d_In_findEntry_101 ⟨by decide, by decide⟩) hS (fun q _ h => hFc q h) hFc (fun r_ u t H locs ht hvm hw hB hz1 hk1 hS => ?_)
          rw [hw]
          obtain ⟨hP, -, hD⟩ := hB
          rw [ht] at hP
          have hD := lx_dj hD hFc
          refine lv_bipush (v := 12) hx hb d_In_findEntry_104 (by decide) ?_
          refine va_mmax hx hb (by rw [hml]; exact hl.1.symm) hown (hts _ (u_Vq_In _ k_In_42)) (hts _ (u_Vq_J _ k_J_5)) (hts _ (u_Vq_J _ k_J_0)) (hts _ (u_Vq_J _ k_J_6)) (Nat.le_of_ble_eq_true rfl) (Nat.le_of_ble_eq_true rfl) (by decide) (by decide) d_In_findEntry_106 ?_
          refine lv_iadd hx hb d_In_findEntry_109 ?_
          refine lv_topi (fun x_14 ex_14 => ?_)
          have h := lf_lE h ex_14
          refine lv_istore (lv' := [(7, .int x_14), (0, .ref M.o_In), (2, .int y_2), (3, .int y_3), (4, .int y_4), (5, .int y_5), (6, .int y_6)]) hx hb d_In_findEntry_110 hl (by decide) rfl (fun ls hl => ?_)
          refine lv_goto (tgt := 56) hx hb d_In_findEntry_112 (by decide) ?_
          exact hr_56 y_2 y_3 y_4 y_5 y_6 x_14 S_13 _ _ _ h hP hD hS (lv_sub hl [1, 2, 3, 4, 5, 6, 0] rfl)
        · have h := lf_t h c_11
          refine lv_iload hx hb d_In_findEntry_72 (lv_at hl 5 rfl) ?_
          refine lv_iload hx hb d_In_findEntry_74 (lv_at hl 6 rfl) ?_
          refine lv_iadd hx hb d_In_findEntry_76 ?_
          rw [hQ]
          have e1 : (y_6 + y_7) = r := congrArg Prod.fst (Option.some.inj h)
          have e2 : S = S' := congrArg Prod.snd (Option.some.inj h)
          have hP := ly_newP e2.symm hP
          have hD := ly_newD e2.symm hD
          exact W.iret (v := (y_6 + y_7)) hx hb hr (fun t ht hW => ⟨⟨(y_6 + y_7), (), rfl, e1, by rw [ht]; exact hP, va_K.moved hW.alike hK, hD⟩, hS.F ht⟩) hS.2.2 d_In_findEntry_77
  have hB_33 : ∀ (k : Nat), ∀ (y_2 : Int32) (y_3 : Int32) (y_4 : Int32) (y_5 : Int32) (S : CS) (H : Heap) (locs : List Loc) (ls : Array Slot), f_In_findEntry_33 K G k y_2 y_3 y_4 y_5 S = some (r, S') → va_P (dC, dI) classes (wV M Y G S) H → va_D A (wV M Y G S) → va_S A s.heap H locs → lv_has ls 8 [(0, .ref M.o_In), (2, .int y_2), (3, .int y_3), (4, .int y_4), (5, .int y_5)] → W p l e ({ frames := 2, cells := 0, slots := 0, locals := 45 }) s m ([.ref M.o_In, .int p0, .int p1] : List Value).toArray below meth c H locs 0 0 Q (F0 m 33 ls []) := by
    intro k
    induction k with
    | zero => intro y_2 y_3 y_4 y_5 S H locs ls h; exact lf_no h
    | succ k hr_33 =>
      intro y_2 y_3 y_4 y_5 S H locs ls h hP hD hS hl
      rw [f_In_findEntry_33] at h
      refine lv_iload hx hb d_In_findEntry_33 (lv_at hl 4 rfl) ?_
      refine lv_iload hx hb d_In_findEntry_35 (lv_at hl 3 rfl) ?_
      refine lv_icmp_ge (tgt := 121) hx hb d_In_findEntry_37 (by decide) (fun c_6 => ?_) (fun c_6 => ?_)
      · have h := lf_t h c_6
        refine lv_iconst (v := (-1)) hx hb d_In_findEntry_121 (by decide) ?_
        rw [hQ]
        have e1 : ((-1)) = r := congrArg Prod.fst (Option.some.inj h)
        have e2 : S = S' := congrArg Prod.snd (Option.some.inj h)
        have hP := ly_newP e2.symm hP
        have hD := ly_newD e2.symm hD
        exact W.iret (v := ((-1))) hx hb hr (fun t ht hW => ⟨⟨((-1)), (), rfl, e1, by rw [ht]; exact hP, va_K.moved hW.alike hK, hD⟩, hS.F ht⟩) hS.2.2 d_In_findEntry_122
      · have h := lf_f h c_6
        refine lv_aload_n hx hb d_In_findEntry_40 rfl (lv_at hl 0 rfl) ?_
        refine lv_iload_n hx hb d_In_findEntry_41 rfl (lv_at hl 2 rfl) ?_
        refine lv_iload hx hb d_In_findEntry_42 (lv_at hl 4 rfl) ?_
        obtain ⟨r_7, S_7, hc_7, h⟩ := lf_cE h
        have hFc := lx_free hD hS hA
        refine va_calli (va_runV (As := [.int y_3, .int y_5]) (rest := []) ⟨hx, hb, hml, hown, hts⟩ (l_In_blockOf l dC dI X _ hc_7) (cwV 2 hts (gwV good_Vq (u_Vq_In _ k_In_39) (u_Vq_In _ k_In_40) (u_Vq_In _ k_In_71) (u_Vq_In _ k_In_0) (wcs (u_Vq_In _ k_In_41) (fun _ h => h))) rfl rfl rfl (by decide +kernel) ⟨Nat.le_of_ble_eq_true rfl, Nat.le_of_ble_eq_true rfl⟩) (pv_ofE (X.same _) (fun U z1 z2 => X.mono _ _ U hFc (hEw _ _ hS U z1 z2)) hP hK hD (va_recv hK hP (ci := 6) (q0 := 9) rfl rfl)) rfl rfl hl.1 rfl (lv_room (Nat.le_of_ble_eq_true rfl)) d_In_findEntry_44 ⟨by decide, by decide⟩) hS (fun q _ h => hFc q h) hFc (fun r_ u t H locs ht hvm hw hB hz1 hk1 hS => ?_)
        rw [hw]
        obtain ⟨hP, -, hD⟩ := hB
        rw [ht] at hP
        have hD := lx_dj hD hFc
        refine lv_sipush (v := 1024) hx hb d_In_findEntry_47 (by decide) ?_
        refine lv_imul hx hb d_In_findEntry_50 ?_
        refine lv_topi (fun x_8 ex_8 => ?_)
        have h := lf_lE h ex_8
        refine lv_istore (lv' := [(6, .int x_8), (0, .ref M.o_In), (2, .int y_2), (3, .int y_3), (4, .int y_4), (5, .int y_5)]) hx hb d_In_findEntry_51 hl (by decide) rfl (fun ls hl => ?_)
        refine lv_iconst (v := 0) hx hb d_In_findEntry_53 (by decide) ?_
        refine lv_istore (lv' := [(7, .int 0), (6, .int x_8), (0, .ref M.o_In), (2, .int y_2), (3, .int y_3), (4, .int y_4), (5, .int y_5)]) hx hb d_In_findEntry_54 hl (by decide) rfl (fun ls hl => ?_)
        exact hB_56 _ hr_33 K y_2 y_3 y_4 y_5 x_8 0 S_7 _ _ _ h hP hD hS (lv_sub hl [2, 3, 4, 5, 6, 1, 0] rfl)
  rw [f_In_findEntry] at h
  refine lv_aload_n hx hb d_In_findEntry_0 rfl (lv_at hl 0 rfl) ?_
  refine lv_iload_n hx hb d_In_findEntry_1 rfl (lv_at hl 1 rfl) ?_
  obtain ⟨r_1, hc_1, h⟩ := lf_bE h
  have hFc := lx_free0 hS hA
  refine va_calli (va_runS (As := [.int p0]) (rest := [.ref M.o_In]) ⟨hx, hb, hml, hown, hts⟩ (l_In_directoryInode l dC dI  _ hc_1) (va_cwS 1 hts (gwS good_Vq (u_Vq_In _ k_In_33) (u_Vq_In _ k_In_34) (u_Vq_In _ k_In_0) (wcs (u_Vq_In _ k_In_35) (fun _ h => h))) rfl rfl rfl (by decide +kernel) ⟨Nat.le_of_ble_eq_true rfl, Nat.le_of_ble_eq_true rfl⟩) (ps_of (W := []) (tys := []) (hP.sub (ws' := []) [] rfl) (hK.sub [] rfl) (hD.sub (ws' := []) [] (by decide) rfl)) rfl rfl hl.1 rfl (lv_room (Nat.le_of_ble_eq_true rfl)) d_In_findEntry_2 ⟨by decide, by decide⟩) hS (fun q _ h => hFc q h) hFc (fun r_ u t H locs ht hvm hw hB hz1 hk1 hS => ?_)
  rw [hw]
  have hP := lx_stat (A := A) hP hk1
  obtain ⟨r_2, S_2, hc_2, h⟩ := lf_cE h
  have hFc := lx_free hD hS hA
  refine va_calli (va_runV (As := [.int r_1]) (rest := []) ⟨hx, hb, hml, hown, hts⟩ (l_In_inodePlace l dC dI X _ hc_2) (cwV 1 hts (gwV good_Vq (u_Vq_In _ k_In_36) (u_Vq_In _ k_In_37) (u_Vq_In _ k_In_70) (u_Vq_In _ k_In_0) (wcs (u_Vq_In _ k_In_38) (fun _ h => h))) rfl rfl rfl (by decide +kernel) ⟨Nat.le_of_ble_eq_true rfl, Nat.le_of_ble_eq_true rfl⟩) (pv_ofE (X.same _) (fun U z1 z2 => X.mono _ _ U hFc (hEw _ _ hS U z1 z2)) hP hK hD (va_recv hK hP (ci := 6) (q0 := 9) rfl rfl)) rfl rfl hl.1 rfl (lv_room (Nat.le_of_ble_eq_true rfl)) d_In_findEntry_5 ⟨by decide, by decide⟩) hS (fun q _ h => hFc q h) hFc (fun r_ u t H locs ht hvm hw hB hz1 hk1 hS => ?_)
  rw [hw]
  obtain ⟨hP, -, hD⟩ := hB
  rw [ht] at hP
  have hD := lx_dj hD hFc
  refine lv_istore_n (lv' := [(3, .int r_2), (0, .ref M.o_In), (1, .int p0), (2, .int p1)]) hx hb d_In_findEntry_8 rfl hl (by decide) rfl (fun ls hl => ?_)
  refine lv_aload_n hx hb d_In_findEntry_9 rfl (lv_at hl 1 rfl) ?_
  refine va_get (D := (dC, dI)) (ci := 6) (v := .ref M.o_Dk) (C := R_In) (T := F_In) (N := 2) hx hb hts (fun w h => u_Vq_In w (i_In w h)) hown hK hP 9 rfl rfl 0 (by decide) (hts _ (u_Vq_In _ k_In_5)) (fun _ h9 => h9) rfl d_In_findEntry_10 ?_
  refine lv_iload_n hx hb d_In_findEntry_13 rfl (lv_at hl 0 rfl) ?_
  refine lv_iconst (v := 4) hx hb d_In_findEntry_14 (by decide) ?_
  refine lv_iadd hx hb d_In_findEntry_15 ?_
  obtain ⟨r_3, S_3, hc_3, h⟩ := lf_cE h
  have hFc := lx_free hD hS hA
  refine va_calli (va_runV (As := [.int (r_2 + 4)]) (rest := []) ⟨hx, hb, hml, hown, hts⟩ (l_Dk_four l dC dI X _ hc_3) (cwV 1 hts (gwV good_Vq (u_Vq_In _ k_In_14) (u_Vq_Dk _ k_Dk_14) (u_Vq_Dk _ k_Dk_15) (u_Vq_Dk _ k_Dk_0) (wcs (u_Vq_Dk _ k_Dk_16) (fun _ h => h))) rfl rfl rfl (by decide +kernel) ⟨Nat.le_of_ble_eq_true rfl, Nat.le_of_ble_eq_true rfl⟩) (pv_ofE (X.same _) (fun U z1 z2 => X.mono _ _ U hFc (hEw _ _ hS U z1 z2)) hP hK hD (va_recv hK hP (ci := 0) (q0 := 1) rfl rfl)) rfl rfl hl.1 rfl (lv_room (Nat.le_of_ble_eq_true rfl)) d_In_findEntry_16 ⟨by decide, by decide⟩) hS (fun q _ h => hFc q h) hFc (fun r_ u t H locs ht hvm hw hB hz1 hk1 hS => ?_)
  rw [hw]
  obtain ⟨hP, -, hD⟩ := hB
  rw [ht] at hP
  have hD := lx_dj hD hFc
  refine lv_sipush (v := 1024) hx hb d_In_findEntry_19 (by decide) ?_
  refine lv_idiv hx hb d_In_findEntry_22 (by decide) ?_
  refine lv_topi (fun x_4 ex_4 => ?_)
  have h := lf_lE h ex_4
  refine lv_istore (lv' := [(4, .int x_4), (3, .int r_2), (0, .ref M.o_In), (1, .int p0), (2, .int p1)]) hx hb d_In_findEntry_23 hl (by decide) rfl (fun ls hl => ?_)
  refine lv_aload_n hx hb d_In_findEntry_25 rfl (lv_at hl 2 rfl) ?_
  refine lv_iconst (v := 0) hx hb d_In_findEntry_26 (by decide) ?_
  refine va_put (D := (dC, dI)) (ci := 6) (v := .int 0) (ty := .int) (C := R_In) (T := F_In) (N := 2) hx hb hts (fun w h => u_Vq_In w (i_In w h)) t_In t_In_ok n_In hown hK hP hD hS 9 rfl rfl 1 (by decide) (hts _ (u_Vq_In _ k_In_6)) (fun _ h9 => h9) rfl (by decide +kernel) rfl rfl (Nat.le_of_ble_eq_true rfl) d_In_findEntry_27 (fun H locs hP hD hS => ?_)
  obtain ⟨S_5, eS_5, h⟩ := lf_lX h
  have hP := ly_newP eS_5 hP
  have hD := ly_newD eS_5 hD
  refine lv_iconst (v := 0) hx hb d_In_findEntry_30 (by decide) ?_
  refine lv_istore (lv' := [(5, .int 0), (4, .int x_4), (3, .int r_2), (0, .ref M.o_In), (1, .int p0), (2, .int p1)]) hx hb d_In_findEntry_31 hl (by decide) rfl (fun ls hl => ?_)
  exact hB_33 K p1 r_2 x_4 0 S_5 _ _ _ h hP hD hS (lv_sub hl [3, 5, 2, 1, 0] rfl)
set_option maxHeartbeats 4000000 in
set_option maxRecDepth 100000 in
theorem l_In_countIn (l : Launch) (dC : Nat → ClassId) (dI : Nat → Nat → Nat) {K : Nat} {M : CA} {E : (Nat → Prop) → State → Prop} (X : ly_X l dC dI K M E) (sz : Nat) {Y : CT} {G : CG} {S S' : CS} {p0 : Int32} {r : Int32} (h : f_In_countIn K G S p0 = some (r, S')) : Met l y_In_countIn (.code y_In_countIn cb_In_countIn 2 (some .int) :: V_Vq) ({ frames := 3, cells := 0, slots := 0, locals := 72 }) (va_Pc [.ref M.o_In, .int p0] (fun U => U.heap.size = sz ∧ at_ (dC, dI) (fun _ => True) (wV M Y G S) (tV M) U ∧ E (va_A (wV M Y G S) sz) U)) (va_Qi (fun (r_ : Int32) (u : Unit) => r_ = r) (fun (u : Unit) t => at_ (dC, dI) (va_A (wV M Y G S) sz) (wV M Y G S') (tV M) t) (va_A (wV M Y G S) sz)) 0 0 (va_A (wV M Y G S) sz) := by
  refine Met.ofW (cc := cb_In_countIn) (maxL := 2) (ret := (some .int)) (by decide) rfl ?_
  intro p e s m args below meth c s₁ B hml hv
  obtain ⟨rfl, hsz, ⟨hP, hK, hD0⟩, hE⟩ := hv
  have hx := B.exec
  have hb := B.bytes
  have hr := B.returns
  have hts0 := atoms_spec (ws := .code y_In_countIn cb_In_countIn 2 (some .int) :: V_Vq) B.pre
  have hts : ∀ w ∈ V_Vq, w.before ([.ref M.o_In, .int p0] : List Value).toArray s = true := fun w h => hts0 w (List.mem_cons_of_mem _ h)
  have hown : s.vm.findClass R_In = some m.cls := findClass_of_methodNamed B.named
  subst hsz
  have hD := hD0.self (sz := s.heap.size)
  generalize hAe : va_A (wV M Y G S) s.heap.size = A at hD hE ⊢
  have hA : ∀ q : Nat, s.heap.size ≤ q → A q := fun q h => by rw [← hAe]; exact Or.inr h
  have hS : va_S A s.heap s.heap [] := va_S.rf
  have hP : va_P (dC, dI) classes (wV M Y G S) s.heap := hP
  have hK : va_K (dC, dI) classes (tV M) s := hK
  have hEw : ∀ (H : Heap) (locs : List Loc), va_S A s.heap H locs → ∀ U : State, U.heap = H → s.WarmedH U.vm → E A U := fun H locs hS U hU hW => X.kept A s U H locs hE hS hU hW
  have hl := lv_entry ([.ref M.o_In, .int p0]) (n := 2) (Nat.le_of_ble_eq_true rfl)
  rw [lg_entry_eq]
  generalize (lg_sl ([.ref M.o_In, .int p0]) ++ List.replicate (2 - (lg_sl ([.ref M.o_In, .int p0])).length) Slot.unset).toArray = ls at hl ⊢
  have hl : lv_has ls 2 [(0, .ref M.o_In), (1, .int p0)] := hl
  refine qabs (fun Q hQ => ?_)
  rw [f_In_countIn] at h
  refine lv_aload_n hx hb d_In_countIn_0 rfl (lv_at hl 0 rfl) ?_
  refine lv_iload_n hx hb d_In_countIn_1 rfl (lv_at hl 1 rfl) ?_
  refine lv_iconst (v := (-1)) hx hb d_In_countIn_2 (by decide) ?_
  obtain ⟨r_1, S_1, hc_1, h⟩ := lf_cE h
  have hFc := lx_free hD hS hA
  refine va_calli (va_runV (As := [.int p0, .int ((-1))]) (rest := []) ⟨hx, hb, hml, hown, hts⟩ (l_In_findEntry l dC dI X _ hc_1) (cwV 2 hts (gwV good_Vq (u_Vq_In _ k_In_29) (u_Vq_In _ k_In_30) (u_Vq_In _ k_In_31) (u_Vq_In _ k_In_0) (wcs (u_Vq_In _ k_In_32) (fun _ h => h))) rfl rfl rfl (by decide +kernel) ⟨Nat.le_of_ble_eq_true rfl, Nat.le_of_ble_eq_true rfl⟩) (pv_ofE (X.same _) (fun U z1 z2 => X.mono _ _ U hFc (hEw _ _ hS U z1 z2)) hP hK hD (va_recv hK hP (ci := 6) (q0 := 9) rfl rfl)) rfl rfl hl.1 rfl (lv_room (Nat.le_of_ble_eq_true rfl)) d_In_countIn_3 ⟨by decide, by decide⟩) hS (fun q _ h => hFc q h) hFc (fun r_ u t H locs ht hvm hw hB hz1 hk1 hS => ?_)
  rw [hw]
  obtain ⟨hP, -, hD⟩ := hB
  rw [ht] at hP
  have hD := lx_dj hD hFc
  refine lv_pop hx hb d_In_countIn_6 rfl ?_
  refine lv_aload_n hx hb d_In_countIn_7 rfl (lv_at hl 0 rfl) ?_
  refine va_get (D := (dC, dI)) (ci := 6) (v := .int S_1.v_In_seen) (C := R_In) (T := F_In) (N := 2) hx hb hts (fun w h => u_Vq_In w (i_In w h)) hown hK hP 9 rfl rfl 1 (by decide) (hts _ (u_Vq_In _ k_In_6)) (fun _ h9 => h9) rfl d_In_countIn_8 ?_
  refine lv_iconst (v := 2) hx hb d_In_countIn_11 (by decide) ?_
  refine lv_isub hx hb d_In_countIn_12 ?_
  rw [hQ]
  have e1 : (S_1.v_In_seen - 2) = r := congrArg Prod.fst (Option.some.inj h)
  have e2 : S_1 = S' := congrArg Prod.snd (Option.some.inj h)
  have hP := ly_newP e2.symm hP
  have hD := ly_newD e2.symm hD
  exact W.iret (v := (S_1.v_In_seen - 2)) hx hb hr (fun t ht hW => ⟨⟨(S_1.v_In_seen - 2), (), rfl, e1, by rw [ht]; exact hP, va_K.moved hW.alike hK, hD⟩, hS.F ht⟩) hS.2.2 d_In_countIn_13
set_option maxHeartbeats 4000000 in
set_option maxRecDepth 100000 in
theorem l_In_inodeOf (l : Launch) (dC : Nat → ClassId) (dI : Nat → Nat → Nat) {K : Nat} {M : CA} {E : (Nat → Prop) → State → Prop} (X : ly_X l dC dI K M E) (sz : Nat) {Y : CT} {G : CG} {S S' : CS} {p0 : Int32} {r : Int32} (h : f_In_inodeOf K G S p0 = some (r, S')) : Met l y_In_inodeOf (.code y_In_inodeOf cb_In_inodeOf 2 (some .int) :: V_Vq) ({ frames := 1, cells := 0, slots := 0, locals := 21 }) (va_Pc [.ref M.o_In, .int p0] (fun U => U.heap.size = sz ∧ at_ (dC, dI) (fun _ => True) (wV M Y G S) (tV M) U ∧ E (va_A (wV M Y G S) sz) U)) (va_Qi (fun (r_ : Int32) (u : Unit) => r_ = r) (fun (u : Unit) t => at_ (dC, dI) (va_A (wV M Y G S) sz) (wV M Y G S') (tV M) t) (va_A (wV M Y G S) sz)) 0 0 (va_A (wV M Y G S) sz) := by
  refine Met.ofW (cc := cb_In_inodeOf) (maxL := 2) (ret := (some .int)) (by decide) rfl ?_
  intro p e s m args below meth c s₁ B hml hv
  obtain ⟨rfl, hsz, ⟨hP, hK, hD0⟩, hE⟩ := hv
  have hx := B.exec
  have hb := B.bytes
  have hr := B.returns
  have hts0 := atoms_spec (ws := .code y_In_inodeOf cb_In_inodeOf 2 (some .int) :: V_Vq) B.pre
  have hts : ∀ w ∈ V_Vq, w.before ([.ref M.o_In, .int p0] : List Value).toArray s = true := fun w h => hts0 w (List.mem_cons_of_mem _ h)
  have hown : s.vm.findClass R_In = some m.cls := findClass_of_methodNamed B.named
  subst hsz
  have hD := hD0.self (sz := s.heap.size)
  generalize hAe : va_A (wV M Y G S) s.heap.size = A at hD hE ⊢
  have hA : ∀ q : Nat, s.heap.size ≤ q → A q := fun q h => by rw [← hAe]; exact Or.inr h
  have hS : va_S A s.heap s.heap [] := va_S.rf
  have hP : va_P (dC, dI) classes (wV M Y G S) s.heap := hP
  have hK : va_K (dC, dI) classes (tV M) s := hK
  have hEw : ∀ (H : Heap) (locs : List Loc), va_S A s.heap H locs → ∀ U : State, U.heap = H → s.WarmedH U.vm → E A U := fun H locs hS U hU hW => X.kept A s U H locs hE hS hU hW
  have hl := lv_entry ([.ref M.o_In, .int p0]) (n := 2) (Nat.le_of_ble_eq_true rfl)
  rw [lg_entry_eq]
  generalize (lg_sl ([.ref M.o_In, .int p0]) ++ List.replicate (2 - (lg_sl ([.ref M.o_In, .int p0])).length) Slot.unset).toArray = ls at hl ⊢
  have hl : lv_has ls 2 [(0, .ref M.o_In), (1, .int p0)] := hl
  refine qabs (fun Q hQ => ?_)
  rw [f_In_inodeOf] at h
  refine lv_aload_n hx hb d_In_inodeOf_0 rfl (lv_at hl 0 rfl) ?_
  refine va_get (D := (dC, dI)) (ci := 6) (v := .ref M.o_Dk) (C := R_In) (T := F_In) (N := 2) hx hb hts (fun w h => u_Vq_In w (i_In w h)) hown hK hP 9 rfl rfl 0 (by decide) (hts _ (u_Vq_In _ k_In_5)) (fun _ h9 => h9) rfl d_In_inodeOf_1 ?_
  refine lv_iload_n hx hb d_In_inodeOf_4 rfl (lv_at hl 1 rfl) ?_
  obtain ⟨r_1, S_1, hc_1, h⟩ := lf_cE h
  have hFc := lx_free hD hS hA
  refine va_calli (va_runV (As := [.int p0]) (rest := []) ⟨hx, hb, hml, hown, hts⟩ (l_Dk_four l dC dI X _ hc_1) (cwV 1 hts (gwV good_Vq (u_Vq_In _ k_In_14) (u_Vq_Dk _ k_Dk_14) (u_Vq_Dk _ k_Dk_15) (u_Vq_Dk _ k_Dk_0) (wcs (u_Vq_Dk _ k_Dk_16) (fun _ h => h))) rfl rfl rfl (by decide +kernel) ⟨Nat.le_of_ble_eq_true rfl, Nat.le_of_ble_eq_true rfl⟩) (pv_ofE (X.same _) (fun U z1 z2 => X.mono _ _ U hFc (hEw _ _ hS U z1 z2)) hP hK hD (va_recv hK hP (ci := 0) (q0 := 1) rfl rfl)) rfl rfl hl.1 rfl (lv_room (Nat.le_of_ble_eq_true rfl)) d_In_inodeOf_5 ⟨by decide, by decide⟩) hS (fun q _ h => hFc q h) hFc (fun r_ u t H locs ht hvm hw hB hz1 hk1 hS => ?_)
  rw [hw]
  obtain ⟨hP, -, hD⟩ := hB
  rw [ht] at hP
  have hD := lx_dj hD hFc
  rw [hQ]
  have e1 : r_1 = r := congrArg Prod.fst (Option.some.inj h)
  have e2 : S_1 = S' := congrArg Prod.snd (Option.some.inj h)
  have hP := ly_newP e2.symm hP
  have hD := ly_newD e2.symm hD
  exact W.iret (v := r_1) hx hb hr (fun t ht hW => ⟨⟨r_1, (), rfl, e1, by rw [ht]; exact hP, va_K.moved hW.alike hK, hD⟩, hS.F ht⟩) hS.2.2 d_In_inodeOf_8
set_option maxHeartbeats 4000000 in
set_option maxRecDepth 100000 in
theorem l_In_parentOf (l : Launch) (dC : Nat → ClassId) (dI : Nat → Nat → Nat) {K : Nat} {M : CA} {E : (Nat → Prop) → State → Prop} (X : ly_X l dC dI K M E) (sz : Nat) {Y : CT} {G : CG} {S S' : CS} {p0 : Int32} {r : Int32} (h : f_In_parentOf K G S p0 = some (r, S')) : Met l y_In_parentOf (.code y_In_parentOf cb_In_parentOf 3 (some .int) :: V_Vq) ({ frames := 3, cells := 0, slots := 0, locals := 72 }) (va_Pc [.ref M.o_In, .int p0] (fun U => U.heap.size = sz ∧ at_ (dC, dI) (fun _ => True) (wV M Y G S) (tV M) U ∧ E (va_A (wV M Y G S) sz) U)) (va_Qi (fun (r_ : Int32) (u : Unit) => r_ = r) (fun (u : Unit) t => at_ (dC, dI) (va_A (wV M Y G S) sz) (wV M Y G S') (tV M) t) (va_A (wV M Y G S) sz)) 0 0 (va_A (wV M Y G S) sz) := by
  refine Met.ofW (cc := cb_In_parentOf) (maxL := 3) (ret := (some .int)) (by decide) rfl ?_
  intro p e s m args below meth c s₁ B hml hv
  obtain ⟨rfl, hsz, ⟨hP, hK, hD0⟩, hE⟩ := hv
  have hx := B.exec
  have hb := B.bytes
  have hr := B.returns
  have hts0 := atoms_spec (ws := .code y_In_parentOf cb_In_parentOf 3 (some .int) :: V_Vq) B.pre
  have hts : ∀ w ∈ V_Vq, w.before ([.ref M.o_In, .int p0] : List Value).toArray s = true := fun w h => hts0 w (List.mem_cons_of_mem _ h)
  have hown : s.vm.findClass R_In = some m.cls := findClass_of_methodNamed B.named
  subst hsz
  have hD := hD0.self (sz := s.heap.size)
  generalize hAe : va_A (wV M Y G S) s.heap.size = A at hD hE ⊢
  have hA : ∀ q : Nat, s.heap.size ≤ q → A q := fun q h => by rw [← hAe]; exact Or.inr h
  have hS : va_S A s.heap s.heap [] := va_S.rf
  have hP : va_P (dC, dI) classes (wV M Y G S) s.heap := hP
  have hK : va_K (dC, dI) classes (tV M) s := hK
  have hEw : ∀ (H : Heap) (locs : List Loc), va_S A s.heap H locs → ∀ U : State, U.heap = H → s.WarmedH U.vm → E A U := fun H locs hS U hU hW => X.kept A s U H locs hE hS hU hW
  have hl := lv_entry ([.ref M.o_In, .int p0]) (n := 3) (Nat.le_of_ble_eq_true rfl)
  rw [lg_entry_eq]
  generalize (lg_sl ([.ref M.o_In, .int p0]) ++ List.replicate (3 - (lg_sl ([.ref M.o_In, .int p0])).length) Slot.unset).toArray = ls at hl ⊢
  have hl : lv_has ls 3 [(0, .ref M.o_In), (1, .int p0)] := hl
  refine qabs (fun Q hQ => ?_)
  rw [f_In_parentOf] at h
  refine lv_aload_n hx hb d_In_parentOf_0 rfl (lv_at hl 0 rfl) ?_
  refine lv_aload_n hx hb d_In_parentOf_1 rfl (lv_at hl 0 rfl) ?_
  refine lv_iload_n hx hb d_In_parentOf_2 rfl (lv_at hl 1 rfl) ?_
  refine lv_iconst (v := 1) hx hb d_In_parentOf_3 (by decide) ?_
  obtain ⟨r_1, S_1, hc_1, h⟩ := lf_cE h
  have hFc := lx_free hD hS hA
  refine va_calli (va_runV (As := [.int p0, .int 1]) (rest := [.ref M.o_In]) ⟨hx, hb, hml, hown, hts⟩ (l_In_findEntry l dC dI X _ hc_1) (cwV 2 hts (gwV good_Vq (u_Vq_In _ k_In_29) (u_Vq_In _ k_In_30) (u_Vq_In _ k_In_31) (u_Vq_In _ k_In_0) (wcs (u_Vq_In _ k_In_32) (fun _ h => h))) rfl rfl rfl (by decide +kernel) ⟨Nat.le_of_ble_eq_true rfl, Nat.le_of_ble_eq_true rfl⟩) (pv_ofE (X.same _) (fun U z1 z2 => X.mono _ _ U hFc (hEw _ _ hS U z1 z2)) hP hK hD (va_recv hK hP (ci := 6) (q0 := 9) rfl rfl)) rfl rfl hl.1 rfl (lv_room (Nat.le_of_ble_eq_true rfl)) d_In_parentOf_4 ⟨by decide, by decide⟩) hS (fun q _ h => hFc q h) hFc (fun r_ u t H locs ht hvm hw hB hz1 hk1 hS => ?_)
  rw [hw]
  obtain ⟨hP, -, hD⟩ := hB
  rw [ht] at hP
  have hD := lx_dj hD hFc
  obtain ⟨r_2, S_2, hc_2, h⟩ := lf_cE h
  have hFc := lx_free hD hS hA
  refine va_calli (va_runV (As := [.int r_1]) (rest := []) ⟨hx, hb, hml, hown, hts⟩ (l_In_inodeOf l dC dI X _ hc_2) (cwV 1 hts (gwV good_Vq (u_Vq_In _ k_In_49) (u_Vq_In _ k_In_50) (u_Vq_In _ k_In_51) (u_Vq_In _ k_In_0) (wcs (u_Vq_In _ k_In_52) (fun _ h => h))) rfl rfl rfl (by decide +kernel) ⟨Nat.le_of_ble_eq_true rfl, Nat.le_of_ble_eq_true rfl⟩) (pv_ofE (X.same _) (fun U z1 z2 => X.mono _ _ U hFc (hEw _ _ hS U z1 z2)) hP hK hD (va_recv hK hP (ci := 6) (q0 := 9) rfl rfl)) rfl rfl hl.1 rfl (lv_room (Nat.le_of_ble_eq_true rfl)) d_In_parentOf_7 ⟨by decide, by decide⟩) hS (fun q _ h => hFc q h) hFc (fun r_ u t H locs ht hvm hw hB hz1 hk1 hS => ?_)
  rw [hw]
  obtain ⟨hP, -, hD⟩ := hB
  rw [ht] at hP
  have hD := lx_dj hD hFc
  refine lv_istore_n (lv' := [(2, .int r_2), (0, .ref M.o_In), (1, .int p0)]) hx hb d_In_parentOf_10 rfl hl (by decide) rfl (fun ls hl => ?_)
  refine lv_iload_n hx hb d_In_parentOf_11 rfl (lv_at hl 0 rfl) ?_
  refine lv_iconst (v := 2) hx hb d_In_parentOf_12 (by decide) ?_
  refine lv_icmp_ne (tgt := 20) hx hb d_In_parentOf_13 (by decide) (fun c_3 => ?_) (fun c_3 => ?_)
  · have h := lf_f h c_3
    refine lv_iload_n hx hb d_In_parentOf_20 rfl (lv_at hl 0 rfl) ?_
    rw [hQ]
    have e1 : r_2 = r := congrArg Prod.fst (Option.some.inj h)
    have e2 : S_2 = S' := congrArg Prod.snd (Option.some.inj h)
    have hP := ly_newP e2.symm hP
    have hD := ly_newD e2.symm hD
    exact W.iret (v := r_2) hx hb hr (fun t ht hW => ⟨⟨r_2, (), rfl, e1, by rw [ht]; exact hP, va_K.moved hW.alike hK, hD⟩, hS.F ht⟩) hS.2.2 d_In_parentOf_21
  · have h := lf_t h c_3
    refine lv_iconst (v := 0) hx hb d_In_parentOf_16 (by decide) ?_
    refine lv_goto (tgt := 21) hx hb d_In_parentOf_17 (by decide) ?_
    rw [hQ]
    have e1 : (0 : Int32) = r := congrArg Prod.fst (Option.some.inj h)
    have e2 : S_2 = S' := congrArg Prod.snd (Option.some.inj h)
    have hP := ly_newP e2.symm hP
    have hD := ly_newD e2.symm hD
    exact W.iret (v := 0) hx hb hr (fun t ht hW => ⟨⟨0, (), rfl, e1, by rw [ht]; exact hP, va_K.moved hW.alike hK, hD⟩, hS.F ht⟩) hS.2.2 d_In_parentOf_21
set_option maxHeartbeats 4000000 in
set_option maxRecDepth 100000 in
theorem l_In_nameByte (l : Launch) (dC : Nat → ClassId) (dI : Nat → Nat → Nat) {K : Nat} {M : CA} {E : (Nat → Prop) → State → Prop} (X : ly_X l dC dI K M E) (sz : Nat) {Y : CT} {G : CG} {S S' : CS} {p0 : Int32} {p1 : Int32} {r : Int32} (h : f_In_nameByte K G S p0 p1 = some (r, S')) : Met l y_In_nameByte (.code y_In_nameByte cb_In_nameByte 3 (some .int) :: V_Vq) ({ frames := 1, cells := 0, slots := 0, locals := 21 }) (va_Pc [.ref M.o_In, .int p0, .int p1] (fun U => U.heap.size = sz ∧ at_ (dC, dI) (fun _ => True) (wV M Y G S) (tV M) U ∧ E (va_A (wV M Y G S) sz) U)) (va_Qi (fun (r_ : Int32) (u : Unit) => r_ = r) (fun (u : Unit) t => at_ (dC, dI) (va_A (wV M Y G S) sz) (wV M Y G S') (tV M) t) (va_A (wV M Y G S) sz)) 0 0 (va_A (wV M Y G S) sz) := by
  refine Met.ofW (cc := cb_In_nameByte) (maxL := 3) (ret := (some .int)) (by decide) rfl ?_
  intro p e s m args below meth c s₁ B hml hv
  obtain ⟨rfl, hsz, ⟨hP, hK, hD0⟩, hE⟩ := hv
  have hx := B.exec
  have hb := B.bytes
  have hr := B.returns
  have hts0 := atoms_spec (ws := .code y_In_nameByte cb_In_nameByte 3 (some .int) :: V_Vq) B.pre
  have hts : ∀ w ∈ V_Vq, w.before ([.ref M.o_In, .int p0, .int p1] : List Value).toArray s = true := fun w h => hts0 w (List.mem_cons_of_mem _ h)
  have hown : s.vm.findClass R_In = some m.cls := findClass_of_methodNamed B.named
  subst hsz
  have hD := hD0.self (sz := s.heap.size)
  generalize hAe : va_A (wV M Y G S) s.heap.size = A at hD hE ⊢
  have hA : ∀ q : Nat, s.heap.size ≤ q → A q := fun q h => by rw [← hAe]; exact Or.inr h
  have hS : va_S A s.heap s.heap [] := va_S.rf
  have hP : va_P (dC, dI) classes (wV M Y G S) s.heap := hP
  have hK : va_K (dC, dI) classes (tV M) s := hK
  have hEw : ∀ (H : Heap) (locs : List Loc), va_S A s.heap H locs → ∀ U : State, U.heap = H → s.WarmedH U.vm → E A U := fun H locs hS U hU hW => X.kept A s U H locs hE hS hU hW
  have hl := lv_entry ([.ref M.o_In, .int p0, .int p1]) (n := 3) (Nat.le_of_ble_eq_true rfl)
  rw [lg_entry_eq]
  generalize (lg_sl ([.ref M.o_In, .int p0, .int p1]) ++ List.replicate (3 - (lg_sl ([.ref M.o_In, .int p0, .int p1])).length) Slot.unset).toArray = ls at hl ⊢
  have hl : lv_has ls 3 [(0, .ref M.o_In), (1, .int p0), (2, .int p1)] := hl
  refine qabs (fun Q hQ => ?_)
  have hB_35 : ∀ (S : CS) (H : Heap) (locs : List Loc) (ls : Array Slot), f_In_nameByte_35 K G S = some (r, S') → va_P (dC, dI) classes (wV M Y G S) H → va_D A (wV M Y G S) → va_S A s.heap H locs → lv_has ls 3 [] → W p l e ({ frames := 1, cells := 0, slots := 0, locals := 21 }) s m ([.ref M.o_In, .int p0, .int p1] : List Value).toArray below meth c H locs 0 0 Q (F0 m 35 ls []) := by
    intro S H locs ls h hP hD hS hl
    rw [f_In_nameByte_35] at h
    refine lv_iconst (v := (-1)) hx hb d_In_nameByte_35 (by decide) ?_
    rw [hQ]
    have e1 : ((-1)) = r := congrArg Prod.fst (Option.some.inj h)
    have e2 : S = S' := congrArg Prod.snd (Option.some.inj h)
    have hP := ly_newP e2.symm hP
    have hD := ly_newD e2.symm hD
    exact W.iret (v := ((-1))) hx hb hr (fun t ht hW => ⟨⟨((-1)), (), rfl, e1, by rw [ht]; exact hP, va_K.moved hW.alike hK, hD⟩, hS.F ht⟩) hS.2.2 d_In_nameByte_36
  rw [f_In_nameByte] at h
  refine lv_iload_n hx hb d_In_nameByte_0 rfl (lv_at hl 2 rfl) ?_
  refine lv_if_lt (tgt := 35) hx hb d_In_nameByte_1 (by decide) (fun c_1 => ?_) (fun c_1 => ?_)
  · have h := lf_t h c_1
    exact hB_35 S _ _ _ h hP hD hS (lv_sub hl [] rfl)
  · have h := lf_f h c_1
    refine lv_iload_n hx hb d_In_nameByte_4 rfl (lv_at hl 2 rfl) ?_
    refine lv_aload_n hx hb d_In_nameByte_5 rfl (lv_at hl 0 rfl) ?_
    refine va_get (D := (dC, dI)) (ci := 6) (v := .ref M.o_Dk) (C := R_In) (T := F_In) (N := 2) hx hb hts (fun w h => u_Vq_In w (i_In w h)) hown hK hP 9 rfl rfl 0 (by decide) (hts _ (u_Vq_In _ k_In_5)) (fun _ h9 => h9) rfl d_In_nameByte_6 ?_
    refine lv_iload_n hx hb d_In_nameByte_9 rfl (lv_at hl 1 rfl) ?_
    refine lv_bipush (v := 6) hx hb d_In_nameByte_10 (by decide) ?_
    refine lv_iadd hx hb d_In_nameByte_12 ?_
    obtain ⟨r_2, S_2, hc_2, h⟩ := lf_cE h
    have hFc := lx_free hD hS hA
    refine va_calli (va_runV (As := [.int (p0 + 6)]) (rest := [.int p1]) ⟨hx, hb, hml, hown, hts⟩ (l_Dk_one l dC dI X _ hc_2) (cwV 1 hts (gwV good_Vq (u_Vq_In _ k_In_25) (u_Vq_Dk _ k_Dk_20) (u_Vq_Dk _ k_Dk_21) (u_Vq_Dk _ k_Dk_0) (wcs (u_Vq_Dk _ k_Dk_22) (fun _ h => h))) rfl rfl rfl (by decide +kernel) ⟨Nat.le_of_ble_eq_true rfl, Nat.le_of_ble_eq_true rfl⟩) (pv_ofE (X.same _) (fun U z1 z2 => X.mono _ _ U hFc (hEw _ _ hS U z1 z2)) hP hK hD (va_recv hK hP (ci := 0) (q0 := 1) rfl rfl)) rfl rfl hl.1 rfl (lv_room (Nat.le_of_ble_eq_true rfl)) d_In_nameByte_13 ⟨by decide, by decide⟩) hS (fun q _ h => hFc q h) hFc (fun r_ u t H locs ht hvm hw hB hz1 hk1 hS => ?_)
    rw [hw]
    obtain ⟨hP, -, hD⟩ := hB
    rw [ht] at hP
    have hD := lx_dj hD hFc
    refine lv_icmp_ge (tgt := 35) hx hb d_In_nameByte_16 (by decide) (fun c_3 => ?_) (fun c_3 => ?_)
    · have h := lf_t h c_3
      exact hB_35 S_2 _ _ _ h hP hD hS (lv_sub hl [] rfl)
    · have h := lf_f h c_3
      refine lv_aload_n hx hb d_In_nameByte_19 rfl (lv_at hl 0 rfl) ?_
      refine va_get (D := (dC, dI)) (ci := 6) (v := .ref M.o_Dk) (C := R_In) (T := F_In) (N := 2) hx hb hts (fun w h => u_Vq_In w (i_In w h)) hown hK hP 9 rfl rfl 0 (by decide) (hts _ (u_Vq_In _ k_In_5)) (fun _ h9 => h9) rfl d_In_nameByte_20 ?_
      refine lv_iload_n hx hb d_In_nameByte_23 rfl (lv_at hl 1 rfl) ?_
      refine lv_bipush (v := 8) hx hb d_In_nameByte_24 (by decide) ?_
      refine lv_iadd hx hb d_In_nameByte_26 ?_
      refine lv_iload_n hx hb d_In_nameByte_27 rfl (lv_at hl 2 rfl) ?_
      refine lv_iadd hx hb d_In_nameByte_28 ?_
      obtain ⟨r_4, S_4, hc_4, h⟩ := lf_cE h
      have hFc := lx_free hD hS hA
      refine va_calli (va_runV (As := [.int ((p0 + 8) + p1)]) (rest := []) ⟨hx, hb, hml, hown, hts⟩ (l_Dk_one l dC dI X _ hc_4) (cwV 1 hts (gwV good_Vq (u_Vq_In _ k_In_25) (u_Vq_Dk _ k_Dk_20) (u_Vq_Dk _ k_Dk_21) (u_Vq_Dk _ k_Dk_0) (wcs (u_Vq_Dk _ k_Dk_22) (fun _ h => h))) rfl rfl rfl (by decide +kernel) ⟨Nat.le_of_ble_eq_true rfl, Nat.le_of_ble_eq_true rfl⟩) (pv_ofE (X.same _) (fun U z1 z2 => X.mono _ _ U hFc (hEw _ _ hS U z1 z2)) hP hK hD (va_recv hK hP (ci := 0) (q0 := 1) rfl rfl)) rfl rfl hl.1 rfl (lv_room (Nat.le_of_ble_eq_true rfl)) d_In_nameByte_29 ⟨by decide, by decide⟩) hS (fun q _ h => hFc q h) hFc (fun r_ u t H locs ht hvm hw hB hz1 hk1 hS => ?_)
      rw [hw]
      obtain ⟨hP, -, hD⟩ := hB
      rw [ht] at hP
      have hD := lx_dj hD hFc
      refine lv_goto (tgt := 36) hx hb d_In_nameByte_32 (by decide) ?_
      rw [hQ]
      have e1 : r_4 = r := congrArg Prod.fst (Option.some.inj h)
      have e2 : S_4 = S' := congrArg Prod.snd (Option.some.inj h)
      have hP := ly_newP e2.symm hP
      have hD := ly_newD e2.symm hD
      exact W.iret (v := r_4) hx hb hr (fun t ht hW => ⟨⟨r_4, (), rfl, e1, by rw [ht]; exact hP, va_K.moved hW.alike hK, hD⟩, hS.F ht⟩) hS.2.2 d_In_nameByte_36
set_option maxHeartbeats 4000000 in
set_option maxRecDepth 100000 in
theorem l_In_isDirectory (l : Launch) (dC : Nat → ClassId) (dI : Nat → Nat → Nat) {K : Nat} {M : CA} {E : (Nat → Prop) → State → Prop} (X : ly_X l dC dI K M E) (sz : Nat) {Y : CT} {G : CG} {S S' : CS} {p0 : Int32} {r : Int32} (h : f_In_isDirectory K G S p0 = some (r, S')) : Met l y_In_isDirectory (.code y_In_isDirectory cb_In_isDirectory 2 (some .boolean) :: V_Vq) ({ frames := 1, cells := 0, slots := 0, locals := 21 }) (va_Pc [.ref M.o_In, .int p0] (fun U => U.heap.size = sz ∧ at_ (dC, dI) (fun _ => True) (wV M Y G S) (tV M) U ∧ E (va_A (wV M Y G S) sz) U)) (va_Qi (fun (r_ : Int32) (u : Unit) => r_ = r) (fun (u : Unit) t => at_ (dC, dI) (va_A (wV M Y G S) sz) (wV M Y G S') (tV M) t) (va_A (wV M Y G S) sz)) 0 0 (va_A (wV M Y G S) sz) := by
  refine Met.ofW (cc := cb_In_isDirectory) (maxL := 2) (ret := (some .boolean)) (by decide) rfl ?_
  intro p e s m args below meth c s₁ B hml hv
  obtain ⟨rfl, hsz, ⟨hP, hK, hD0⟩, hE⟩ := hv
  have hx := B.exec
  have hb := B.bytes
  have hr := B.returns
  have hts0 := atoms_spec (ws := .code y_In_isDirectory cb_In_isDirectory 2 (some .boolean) :: V_Vq) B.pre
  have hts : ∀ w ∈ V_Vq, w.before ([.ref M.o_In, .int p0] : List Value).toArray s = true := fun w h => hts0 w (List.mem_cons_of_mem _ h)
  have hown : s.vm.findClass R_In = some m.cls := findClass_of_methodNamed B.named
  subst hsz
  have hD := hD0.self (sz := s.heap.size)
  generalize hAe : va_A (wV M Y G S) s.heap.size = A at hD hE ⊢
  have hA : ∀ q : Nat, s.heap.size ≤ q → A q := fun q h => by rw [← hAe]; exact Or.inr h
  have hS : va_S A s.heap s.heap [] := va_S.rf
  have hP : va_P (dC, dI) classes (wV M Y G S) s.heap := hP
  have hK : va_K (dC, dI) classes (tV M) s := hK
  have hEw : ∀ (H : Heap) (locs : List Loc), va_S A s.heap H locs → ∀ U : State, U.heap = H → s.WarmedH U.vm → E A U := fun H locs hS U hU hW => X.kept A s U H locs hE hS hU hW
  have hl := lv_entry ([.ref M.o_In, .int p0]) (n := 2) (Nat.le_of_ble_eq_true rfl)
  rw [lg_entry_eq]
  generalize (lg_sl ([.ref M.o_In, .int p0]) ++ List.replicate (2 - (lg_sl ([.ref M.o_In, .int p0])).length) Slot.unset).toArray = ls at hl ⊢
  have hl : lv_has ls 2 [(0, .ref M.o_In), (1, .int p0)] := hl
  refine qabs (fun Q hQ => ?_)
  rw [f_In_isDirectory] at h
  refine lv_aload_n hx hb d_In_isDirectory_0 rfl (lv_at hl 0 rfl) ?_
  refine va_get (D := (dC, dI)) (ci := 6) (v := .ref M.o_Dk) (C := R_In) (T := F_In) (N := 2) hx hb hts (fun w h => u_Vq_In w (i_In w h)) hown hK hP 9 rfl rfl 0 (by decide) (hts _ (u_Vq_In _ k_In_5)) (fun _ h9 => h9) rfl d_In_isDirectory_1 ?_
  refine lv_iload_n hx hb d_In_isDirectory_4 rfl (lv_at hl 1 rfl) ?_
  refine lv_bipush (v := 7) hx hb d_In_isDirectory_5 (by decide) ?_
  refine lv_iadd hx hb d_In_isDirectory_7 ?_
  obtain ⟨r_1, S_1, hc_1, h⟩ := lf_cE h
  have hFc := lx_free hD hS hA
  refine va_calli (va_runV (As := [.int (p0 + 7)]) (rest := []) ⟨hx, hb, hml, hown, hts⟩ (l_Dk_one l dC dI X _ hc_1) (cwV 1 hts (gwV good_Vq (u_Vq_In _ k_In_25) (u_Vq_Dk _ k_Dk_20) (u_Vq_Dk _ k_Dk_21) (u_Vq_Dk _ k_Dk_0) (wcs (u_Vq_Dk _ k_Dk_22) (fun _ h => h))) rfl rfl rfl (by decide +kernel) ⟨Nat.le_of_ble_eq_true rfl, Nat.le_of_ble_eq_true rfl⟩) (pv_ofE (X.same _) (fun U z1 z2 => X.mono _ _ U hFc (hEw _ _ hS U z1 z2)) hP hK hD (va_recv hK hP (ci := 0) (q0 := 1) rfl rfl)) rfl rfl hl.1 rfl (lv_room (Nat.le_of_ble_eq_true rfl)) d_In_isDirectory_8 ⟨by decide, by decide⟩) hS (fun q _ h => hFc q h) hFc (fun r_ u t H locs ht hvm hw hB hz1 hk1 hS => ?_)
  rw [hw]
  obtain ⟨hP, -, hD⟩ := hB
  rw [ht] at hP
  have hD := lx_dj hD hFc
  refine lv_iconst (v := 2) hx hb d_In_isDirectory_11 (by decide) ?_
  refine lv_icmp_ne (tgt := 19) hx hb d_In_isDirectory_12 (by decide) (fun c_2 => ?_) (fun c_2 => ?_)
  · have h := lf_f h c_2
    refine lv_iconst (v := 0) hx hb d_In_isDirectory_19 (by decide) ?_
    rw [hQ]
    have e1 : (0 : Int32) = r := congrArg Prod.fst (Option.some.inj h)
    have e2 : S_1 = S' := congrArg Prod.snd (Option.some.inj h)
    have hP := ly_newP e2.symm hP
    have hD := ly_newD e2.symm hD
    exact W.zret (v := 0) hx hb hr rfl (fun t ht hW => ⟨⟨0, (), rfl, e1, by rw [ht]; exact hP, va_K.moved hW.alike hK, hD⟩, hS.F ht⟩) hS.2.2 d_In_isDirectory_20
  · have h := lf_t h c_2
    refine lv_iconst (v := 1) hx hb d_In_isDirectory_15 (by decide) ?_
    refine lv_goto (tgt := 20) hx hb d_In_isDirectory_16 (by decide) ?_
    rw [hQ]
    have e1 : (1 : Int32) = r := congrArg Prod.fst (Option.some.inj h)
    have e2 : S_1 = S' := congrArg Prod.snd (Option.some.inj h)
    have hP := ly_newP e2.symm hP
    have hD := ly_newD e2.symm hD
    exact W.zret (v := 1) hx hb hr rfl (fun t ht hW => ⟨⟨1, (), rfl, e1, by rw [ht]; exact hP, va_K.moved hW.alike hK, hD⟩, hS.F ht⟩) hS.2.2 d_In_isDirectory_20
set_option maxHeartbeats 4000000 in
set_option maxRecDepth 100000 in
theorem l_In_tell (l : Launch) (dC : Nat → ClassId) (dI : Nat → Nat → Nat) {K : Nat} {M : CA} {E : (Nat → Prop) → State → Prop} (X : ly_X l dC dI K M E) (sz : Nat) {Y : CT} {G : CG} {S S' : CS} {p0 : Int32} {p1 : Int32} {r : Int64} (h : f_In_tell K G S p0 p1 = some (r, S')) : Met l y_In_tell (.code y_In_tell cb_In_tell 4 (some .long) :: V_Vq) ({ frames := 2, cells := 0, slots := 0, locals := 44 }) (va_Pc [.ref M.o_In, .int p0, .int p1] (fun U => U.heap.size = sz ∧ at_ (dC, dI) (fun _ => True) (wV M Y G S) (tV M) U ∧ E (va_A (wV M Y G S) sz) U)) (va_Ql (fun (r_ : Int64) (u : Unit) => r_ = r) (fun (u : Unit) t => at_ (dC, dI) (va_A (wV M Y G S) sz) (wV M Y G S') (tV M) t) (va_A (wV M Y G S) sz)) 0 0 (va_A (wV M Y G S) sz) := by
  refine Met.ofW (cc := cb_In_tell) (maxL := 4) (ret := (some .long)) (by decide) rfl ?_
  intro p e s m args below meth c s₁ B hml hv
  obtain ⟨rfl, hsz, ⟨hP, hK, hD0⟩, hE⟩ := hv
  have hx := B.exec
  have hb := B.bytes
  have hr := B.returns
  have hts0 := atoms_spec (ws := .code y_In_tell cb_In_tell 4 (some .long) :: V_Vq) B.pre
  have hts : ∀ w ∈ V_Vq, w.before ([.ref M.o_In, .int p0, .int p1] : List Value).toArray s = true := fun w h => hts0 w (List.mem_cons_of_mem _ h)
  have hown : s.vm.findClass R_In = some m.cls := findClass_of_methodNamed B.named
  subst hsz
  have hD := hD0.self (sz := s.heap.size)
  generalize hAe : va_A (wV M Y G S) s.heap.size = A at hD hE ⊢
  have hA : ∀ q : Nat, s.heap.size ≤ q → A q := fun q h => by rw [← hAe]; exact Or.inr h
  have hS : va_S A s.heap s.heap [] := va_S.rf
  have hP : va_P (dC, dI) classes (wV M Y G S) s.heap := hP
  have hK : va_K (dC, dI) classes (tV M) s := hK
  have hEw : ∀ (H : Heap) (locs : List Loc), va_S A s.heap H locs → ∀ U : State, U.heap = H → s.WarmedH U.vm → E A U := fun H locs hS U hU hW => X.kept A s U H locs hE hS hU hW
  have hl := lv_entry ([.ref M.o_In, .int p0, .int p1]) (n := 4) (Nat.le_of_ble_eq_true rfl)
  rw [lg_entry_eq]
  generalize (lg_sl ([.ref M.o_In, .int p0, .int p1]) ++ List.replicate (4 - (lg_sl ([.ref M.o_In, .int p0, .int p1])).length) Slot.unset).toArray = ls at hl ⊢
  have hl : lv_has ls 4 [(0, .ref M.o_In), (1, .int p0), (2, .int p1)] := hl
  refine qabs (fun Q hQ => ?_)
  rw [f_In_tell] at h
  refine lv_aload_n hx hb d_In_tell_0 rfl (lv_at hl 0 rfl) ?_
  refine lv_aload_n hx hb d_In_tell_1 rfl (lv_at hl 0 rfl) ?_
  refine lv_iload_n hx hb d_In_tell_2 rfl (lv_at hl 1 rfl) ?_
  obtain ⟨r_1, S_1, hc_1, h⟩ := lf_cE h
  have hFc := lx_free hD hS hA
  refine va_calli (va_runV (As := [.int p0]) (rest := [.ref M.o_In]) ⟨hx, hb, hml, hown, hts⟩ (l_In_inodeOf l dC dI X _ hc_1) (cwV 1 hts (gwV good_Vq (u_Vq_In _ k_In_49) (u_Vq_In _ k_In_50) (u_Vq_In _ k_In_51) (u_Vq_In _ k_In_0) (wcs (u_Vq_In _ k_In_52) (fun _ h => h))) rfl rfl rfl (by decide +kernel) ⟨Nat.le_of_ble_eq_true rfl, Nat.le_of_ble_eq_true rfl⟩) (pv_ofE (X.same _) (fun U z1 z2 => X.mono _ _ U hFc (hEw _ _ hS U z1 z2)) hP hK hD (va_recv hK hP (ci := 6) (q0 := 9) rfl rfl)) rfl rfl hl.1 rfl (lv_room (Nat.le_of_ble_eq_true rfl)) d_In_tell_3 ⟨by decide, by decide⟩) hS (fun q _ h => hFc q h) hFc (fun r_ u t H locs ht hvm hw hB hz1 hk1 hS => ?_)
  rw [hw]
  obtain ⟨hP, -, hD⟩ := hB
  rw [ht] at hP
  have hD := lx_dj hD hFc
  obtain ⟨r_2, S_2, hc_2, h⟩ := lf_cE h
  have hFc := lx_free hD hS hA
  refine va_calli (va_runV (As := [.int r_1]) (rest := []) ⟨hx, hb, hml, hown, hts⟩ (l_In_inodePlace l dC dI X _ hc_2) (cwV 1 hts (gwV good_Vq (u_Vq_In _ k_In_36) (u_Vq_In _ k_In_37) (u_Vq_In _ k_In_70) (u_Vq_In _ k_In_0) (wcs (u_Vq_In _ k_In_38) (fun _ h => h))) rfl rfl rfl (by decide +kernel) ⟨Nat.le_of_ble_eq_true rfl, Nat.le_of_ble_eq_true rfl⟩) (pv_ofE (X.same _) (fun U z1 z2 => X.mono _ _ U hFc (hEw _ _ hS U z1 z2)) hP hK hD (va_recv hK hP (ci := 6) (q0 := 9) rfl rfl)) rfl rfl hl.1 rfl (lv_room (Nat.le_of_ble_eq_true rfl)) d_In_tell_6 ⟨by decide, by decide⟩) hS (fun q _ h => hFc q h) hFc (fun r_ u t H locs ht hvm hw hB hz1 hk1 hS => ?_)
  rw [hw]
  obtain ⟨hP, -, hD⟩ := hB
  rw [ht] at hP
  have hD := lx_dj hD hFc
  refine lv_istore_n (lv' := [(3, .int r_2), (0, .ref M.o_In), (1, .int p0), (2, .int p1)]) hx hb d_In_tell_9 rfl hl (by decide) rfl (fun ls hl => ?_)
  refine lv_iload_n hx hb d_In_tell_10 rfl (lv_at hl 3 rfl) ?_
  by_cases c_3 : p1 = 0
  · have h := lf_t h c_3
    refine lv_lookup (off := 33) (tgt := 44) hx hb d_In_tell_11 (by decide) (by rw [c_3]; (try rfl)) (by decide) ?_
    refine lv_aload_n hx hb d_In_tell_44 rfl (lv_at hl 1 rfl) ?_
    refine lv_iload_n hx hb d_In_tell_45 rfl (lv_at hl 2 rfl) ?_
    obtain ⟨r_4, S_4, hc_4, h⟩ := lf_cE h
    have hFc := lx_free hD hS hA
    refine va_calli (va_runV (As := [.int p0]) (rest := []) ⟨hx, hb, hml, hown, hts⟩ (l_In_isDirectory l dC dI X _ hc_4) (cwV 1 hts (gwV good_Vq (u_Vq_In _ k_In_53) (u_Vq_In _ k_In_54) (u_Vq_In _ k_In_55) (u_Vq_In _ k_In_0) (wcs (u_Vq_In _ k_In_56) (fun _ h => h))) rfl rfl rfl (by decide +kernel) ⟨Nat.le_of_ble_eq_true rfl, Nat.le_of_ble_eq_true rfl⟩) (pv_ofE (X.same _) (fun U z1 z2 => X.mono _ _ U hFc (hEw _ _ hS U z1 z2)) hP hK hD (va_recv hK hP (ci := 6) (q0 := 9) rfl rfl)) rfl rfl hl.1 rfl (lv_room (Nat.le_of_ble_eq_true rfl)) d_In_tell_46 ⟨by decide, by decide⟩) hS (fun q _ h => hFc q h) hFc (fun r_ u t H locs ht hvm hw hB hz1 hk1 hS => ?_)
    rw [hw]
    obtain ⟨hP, -, hD⟩ := hB
    rw [ht] at hP
    have hD := lx_dj hD hFc
    refine lv_if_eq (tgt := 56) hx hb d_In_tell_49 (by decide) (fun c_5 => ?_) (fun c_5 => ?_)
    · have h := lf_t h c_5
      refine lv_lconst (v := 0) hx hb d_In_tell_56 (by decide) ?_
      rw [hQ]
      have e1 : (0 : Int64) = r := congrArg Prod.fst (Option.some.inj h)
      have e2 : S_4 = S' := congrArg Prod.snd (Option.some.inj h)
      have hP := ly_newP e2.symm hP
      have hD := ly_newD e2.symm hD
      exact W.lret (v := 0) hx hb hr (fun t ht hW => ⟨⟨0, (), rfl, e1, by rw [ht]; exact hP, va_K.moved hW.alike hK, hD⟩, hS.F ht⟩) hS.2.2 d_In_tell_57
    · have h := lf_f h c_5
      refine lv_lconst (v := 1) hx hb d_In_tell_52 (by decide) ?_
      refine lv_goto (tgt := 57) hx hb d_In_tell_53 (by decide) ?_
      rw [hQ]
      have e1 : (1 : Int64) = r := congrArg Prod.fst (Option.some.inj h)
      have e2 : S_4 = S' := congrArg Prod.snd (Option.some.inj h)
      have hP := ly_newP e2.symm hP
      have hD := ly_newD e2.symm hD
      exact W.lret (v := 1) hx hb hr (fun t ht hW => ⟨⟨1, (), rfl, e1, by rw [ht]; exact hP, va_K.moved hW.alike hK, hD⟩, hS.F ht⟩) hS.2.2 d_In_tell_57
  · have h := lf_f h c_3
    by_cases c_6 : p1 = 1
    · have h := lf_t h c_6
      refine lv_lookup (off := 47) (tgt := 58) hx hb d_In_tell_11 (by decide) (by rw [c_6]; (try rfl)) (by decide) ?_
      refine lv_aload_n hx hb d_In_tell_58 rfl (lv_at hl 1 rfl) ?_
      refine va_get (D := (dC, dI)) (ci := 6) (v := .ref M.o_Dk) (C := R_In) (T := F_In) (N := 2) hx hb hts (fun w h => u_Vq_In w (i_In w h)) hown hK hP 9 rfl rfl 0 (by decide) (hts _ (u_Vq_In _ k_In_5)) (fun _ h9 => h9) rfl d_In_tell_59 ?_
      refine lv_iload_n hx hb d_In_tell_62 rfl (lv_at hl 0 rfl) ?_
      obtain ⟨r_7, S_7, hc_7, h⟩ := lf_cE h
      have hFc := lx_free hD hS hA
      refine va_calli (va_runV (As := [.int r_2]) (rest := []) ⟨hx, hb, hml, hown, hts⟩ (l_Dk_two l dC dI X _ hc_7) (cwV 1 hts (gwV good_Vq (u_Vq_In _ k_In_16) (u_Vq_Dk _ k_Dk_17) (u_Vq_Dk _ k_Dk_18) (u_Vq_Dk _ k_Dk_0) (wcs (u_Vq_Dk _ k_Dk_19) (fun _ h => h))) rfl rfl rfl (by decide +kernel) ⟨Nat.le_of_ble_eq_true rfl, Nat.le_of_ble_eq_true rfl⟩) (pv_ofE (X.same _) (fun U z1 z2 => X.mono _ _ U hFc (hEw _ _ hS U z1 z2)) hP hK hD (va_recv hK hP (ci := 0) (q0 := 1) rfl rfl)) rfl rfl hl.1 rfl (lv_room (Nat.le_of_ble_eq_true rfl)) d_In_tell_63 ⟨by decide, by decide⟩) hS (fun q _ h => hFc q h) hFc (fun r_ u t H locs ht hvm hw hB hz1 hk1 hS => ?_)
      rw [hw]
      obtain ⟨hP, -, hD⟩ := hB
      rw [ht] at hP
      have hD := lx_dj hD hFc
      refine lv_sipush (v := 128) hx hb d_In_tell_66 (by decide) ?_
      refine lv_iand hx hb d_In_tell_69 ?_
      refine lv_if_ne (tgt := 77) hx hb d_In_tell_70 (by decide) (fun c_8 => ?_) (fun c_8 => ?_)
      · have h := lf_f h c_8
        refine lv_lconst (v := 0) hx hb d_In_tell_77 (by decide) ?_
        rw [hQ]
        have e1 : (0 : Int64) = r := congrArg Prod.fst (Option.some.inj h)
        have e2 : S_7 = S' := congrArg Prod.snd (Option.some.inj h)
        have hP := ly_newP e2.symm hP
        have hD := ly_newD e2.symm hD
        exact W.lret (v := 0) hx hb hr (fun t ht hW => ⟨⟨0, (), rfl, e1, by rw [ht]; exact hP, va_K.moved hW.alike hK, hD⟩, hS.F ht⟩) hS.2.2 d_In_tell_78
      · have h := lf_t h c_8
        refine lv_lconst (v := 1) hx hb d_In_tell_73 (by decide) ?_
        refine lv_goto (tgt := 78) hx hb d_In_tell_74 (by decide) ?_
        rw [hQ]
        have e1 : (1 : Int64) = r := congrArg Prod.fst (Option.some.inj h)
        have e2 : S_7 = S' := congrArg Prod.snd (Option.some.inj h)
        have hP := ly_newP e2.symm hP
        have hD := ly_newD e2.symm hD
        exact W.lret (v := 1) hx hb hr (fun t ht hW => ⟨⟨1, (), rfl, e1, by rw [ht]; exact hP, va_K.moved hW.alike hK, hD⟩, hS.F ht⟩) hS.2.2 d_In_tell_78
    · have h := lf_f h c_6
      by_cases c_9 : p1 = 5
      · have h := lf_t h c_9
        refine lv_lookup (off := 68) (tgt := 79) hx hb d_In_tell_11 (by decide) (by rw [c_9]; (try rfl)) (by decide) ?_
        refine lv_aload_n hx hb d_In_tell_79 rfl (lv_at hl 1 rfl) ?_
        refine va_get (D := (dC, dI)) (ci := 6) (v := .ref M.o_Dk) (C := R_In) (T := F_In) (N := 2) hx hb hts (fun w h => u_Vq_In w (i_In w h)) hown hK hP 9 rfl rfl 0 (by decide) (hts _ (u_Vq_In _ k_In_5)) (fun _ h9 => h9) rfl d_In_tell_80 ?_
        refine lv_iload_n hx hb d_In_tell_83 rfl (lv_at hl 0 rfl) ?_
        refine lv_iconst (v := 4) hx hb d_In_tell_84 (by decide) ?_
        refine lv_iadd hx hb d_In_tell_85 ?_
        obtain ⟨r_10, S_10, hc_10, h⟩ := lf_cE h
        have hFc := lx_free hD hS hA
        refine va_calli (va_runV (As := [.int (r_2 + 4)]) (rest := []) ⟨hx, hb, hml, hown, hts⟩ (l_Dk_four l dC dI X _ hc_10) (cwV 1 hts (gwV good_Vq (u_Vq_In _ k_In_14) (u_Vq_Dk _ k_Dk_14) (u_Vq_Dk _ k_Dk_15) (u_Vq_Dk _ k_Dk_0) (wcs (u_Vq_Dk _ k_Dk_16) (fun _ h => h))) rfl rfl rfl (by decide +kernel) ⟨Nat.le_of_ble_eq_true rfl, Nat.le_of_ble_eq_true rfl⟩) (pv_ofE (X.same _) (fun U z1 z2 => X.mono _ _ U hFc (hEw _ _ hS U z1 z2)) hP hK hD (va_recv hK hP (ci := 0) (q0 := 1) rfl rfl)) rfl rfl hl.1 rfl (lv_room (Nat.le_of_ble_eq_true rfl)) d_In_tell_86 ⟨by decide, by decide⟩) hS (fun q _ h => hFc q h) hFc (fun r_ u t H locs ht hvm hw hB hz1 hk1 hS => ?_)
        rw [hw]
        obtain ⟨hP, -, hD⟩ := hB
        rw [ht] at hP
        have hD := lx_dj hD hFc
        refine lv_i2l hx hb d_In_tell_89 rfl ?_
        refine lv_ldc2 (v := 4294967295) hx hb hown (hts _ (u_Vq_In _ k_In_57)) d_In_tell_90 ?_
        refine lv_land hx hb d_In_tell_93 ?_
        rw [hQ]
        have e1 : (r_10.toInt64 &&& 4294967295 : Int64) = r := congrArg Prod.fst (Option.some.inj h)
        have e2 : S_10 = S' := congrArg Prod.snd (Option.some.inj h)
        have hP := ly_newP e2.symm hP
        have hD := ly_newD e2.symm hD
        exact W.lret (v := (r_10.toInt64 &&& 4294967295)) hx hb hr (fun t ht hW => ⟨⟨(r_10.toInt64 &&& 4294967295), (), rfl, e1, by rw [ht]; exact hP, va_K.moved hW.alike hK, hD⟩, hS.F ht⟩) hS.2.2 d_In_tell_94
      · have h := lf_f h c_9
        refine lv_lookup (off := 84) (tgt := 95) hx hb d_In_tell_11 (by decide) (by show Op.lookupswitch.offset [(0, 33), (1, 47), (5, 68)] 84 _ = _; rw [lv_osw c_3 (by decide), lv_osw c_6 (by decide), lv_osw c_9 (by decide)]; (try rfl)) (by decide) ?_
        refine lv_aload_n hx hb d_In_tell_95 rfl (lv_at hl 1 rfl) ?_
        refine va_get (D := (dC, dI)) (ci := 6) (v := .ref M.o_Dk) (C := R_In) (T := F_In) (N := 2) hx hb hts (fun w h => u_Vq_In w (i_In w h)) hown hK hP 9 rfl rfl 0 (by decide) (hts _ (u_Vq_In _ k_In_5)) (fun _ h9 => h9) rfl d_In_tell_96 ?_
        refine lv_iload_n hx hb d_In_tell_99 rfl (lv_at hl 0 rfl) ?_
        refine lv_iconst (v := 4) hx hb d_In_tell_100 (by decide) ?_
        refine lv_iload_n hx hb d_In_tell_101 rfl (lv_at hl 3 rfl) ?_
        refine lv_imul hx hb d_In_tell_102 ?_
        refine lv_iadd hx hb d_In_tell_103 ?_
        obtain ⟨r_11, S_11, hc_11, h⟩ := lf_cE h
        have hFc := lx_free hD hS hA
        refine va_calli (va_runV (As := [.int (r_2 + (4 * p1))]) (rest := []) ⟨hx, hb, hml, hown, hts⟩ (l_Dk_four l dC dI X _ hc_11) (cwV 1 hts (gwV good_Vq (u_Vq_In _ k_In_14) (u_Vq_Dk _ k_Dk_14) (u_Vq_Dk _ k_Dk_15) (u_Vq_Dk _ k_Dk_0) (wcs (u_Vq_Dk _ k_Dk_16) (fun _ h => h))) rfl rfl rfl (by decide +kernel) ⟨Nat.le_of_ble_eq_true rfl, Nat.le_of_ble_eq_true rfl⟩) (pv_ofE (X.same _) (fun U z1 z2 => X.mono _ _ U hFc (hEw _ _ hS U z1 z2)) hP hK hD (va_recv hK hP (ci := 0) (q0 := 1) rfl rfl)) rfl rfl hl.1 rfl (lv_room (Nat.le_of_ble_eq_true rfl)) d_In_tell_104 ⟨by decide, by decide⟩) hS (fun q _ h => hFc q h) hFc (fun r_ u t H locs ht hvm hw hB hz1 hk1 hS => ?_)
        rw [hw]
        obtain ⟨hP, -, hD⟩ := hB
        rw [ht] at hP
        have hD := lx_dj hD hFc
        refine lv_i2l hx hb d_In_tell_107 rfl ?_
        refine lv_ldc2 (v := 4294967295) hx hb hown (hts _ (u_Vq_In _ k_In_57)) d_In_tell_108 ?_
        refine lv_land hx hb d_In_tell_111 ?_
        rw [hQ]
        have e1 : (r_11.toInt64 &&& 4294967295 : Int64) = r := congrArg Prod.fst (Option.some.inj h)
        have e2 : S_11 = S' := congrArg Prod.snd (Option.some.inj h)
        have hP := ly_newP e2.symm hP
        have hD := ly_newD e2.symm hD
        exact W.lret (v := (r_11.toInt64 &&& 4294967295)) hx hb hr (fun t ht hW => ⟨⟨(r_11.toInt64 &&& 4294967295), (), rfl, e1, by rw [ht]; exact hP, va_K.moved hW.alike hK, hD⟩, hS.F ht⟩) hS.2.2 d_In_tell_112
set_option maxHeartbeats 4000000 in
set_option maxRecDepth 100000 in
theorem l_In_fileByte (l : Launch) (dC : Nat → ClassId) (dI : Nat → Nat → Nat) {K : Nat} {M : CA} {E : (Nat → Prop) → State → Prop} (X : ly_X l dC dI K M E) (sz : Nat) {Y : CT} {G : CG} {S S' : CS} {p0 : Int32} {p1 : Int32} {r : Int32} (h : f_In_fileByte K G S p0 p1 = some (r, S')) : Met l y_In_fileByte (.code y_In_fileByte cb_In_fileByte 4 (some .int) :: V_Vq) ({ frames := 2, cells := 0, slots := 0, locals := 45 }) (va_Pc [.ref M.o_In, .int p0, .int p1] (fun U => U.heap.size = sz ∧ at_ (dC, dI) (fun _ => True) (wV M Y G S) (tV M) U ∧ E (va_A (wV M Y G S) sz) U)) (va_Qi (fun (r_ : Int32) (u : Unit) => r_ = r) (fun (u : Unit) t => at_ (dC, dI) (va_A (wV M Y G S) sz) (wV M Y G S') (tV M) t) (va_A (wV M Y G S) sz)) 0 0 (va_A (wV M Y G S) sz) := by
  refine Met.ofW (cc := cb_In_fileByte) (maxL := 4) (ret := (some .int)) (by decide) rfl ?_
  intro p e s m args below meth c s₁ B hml hv
  obtain ⟨rfl, hsz, ⟨hP, hK, hD0⟩, hE⟩ := hv
  have hx := B.exec
  have hb := B.bytes
  have hr := B.returns
  have hts0 := atoms_spec (ws := .code y_In_fileByte cb_In_fileByte 4 (some .int) :: V_Vq) B.pre
  have hts : ∀ w ∈ V_Vq, w.before ([.ref M.o_In, .int p0, .int p1] : List Value).toArray s = true := fun w h => hts0 w (List.mem_cons_of_mem _ h)
  have hown : s.vm.findClass R_In = some m.cls := findClass_of_methodNamed B.named
  subst hsz
  have hD := hD0.self (sz := s.heap.size)
  generalize hAe : va_A (wV M Y G S) s.heap.size = A at hD hE ⊢
  have hA : ∀ q : Nat, s.heap.size ≤ q → A q := fun q h => by rw [← hAe]; exact Or.inr h
  have hS : va_S A s.heap s.heap [] := va_S.rf
  have hP : va_P (dC, dI) classes (wV M Y G S) s.heap := hP
  have hK : va_K (dC, dI) classes (tV M) s := hK
  have hEw : ∀ (H : Heap) (locs : List Loc), va_S A s.heap H locs → ∀ U : State, U.heap = H → s.WarmedH U.vm → E A U := fun H locs hS U hU hW => X.kept A s U H locs hE hS hU hW
  have hl := lv_entry ([.ref M.o_In, .int p0, .int p1]) (n := 4) (Nat.le_of_ble_eq_true rfl)
  rw [lg_entry_eq]
  generalize (lg_sl ([.ref M.o_In, .int p0, .int p1]) ++ List.replicate (4 - (lg_sl ([.ref M.o_In, .int p0, .int p1])).length) Slot.unset).toArray = ls at hl ⊢
  have hl : lv_has ls 4 [(0, .ref M.o_In), (1, .int p0), (2, .int p1)] := hl
  refine qabs (fun Q hQ => ?_)
  have hB_36 : ∀ (S : CS) (H : Heap) (locs : List Loc) (ls : Array Slot), f_In_fileByte_36 K G S = some (r, S') → va_P (dC, dI) classes (wV M Y G S) H → va_D A (wV M Y G S) → va_S A s.heap H locs → lv_has ls 4 [] → W p l e ({ frames := 2, cells := 0, slots := 0, locals := 45 }) s m ([.ref M.o_In, .int p0, .int p1] : List Value).toArray below meth c H locs 0 0 Q (F0 m 36 ls []) := by
    intro S H locs ls h hP hD hS hl
    rw [f_In_fileByte_36] at h
    refine lv_iconst (v := (-1)) hx hb d_In_fileByte_36 (by decide) ?_
    rw [hQ]
    have e1 : ((-1)) = r := congrArg Prod.fst (Option.some.inj h)
    have e2 : S = S' := congrArg Prod.snd (Option.some.inj h)
    have hP := ly_newP e2.symm hP
    have hD := ly_newD e2.symm hD
    exact W.iret (v := ((-1))) hx hb hr (fun t ht hW => ⟨⟨((-1)), (), rfl, e1, by rw [ht]; exact hP, va_K.moved hW.alike hK, hD⟩, hS.F ht⟩) hS.2.2 d_In_fileByte_37
  rw [f_In_fileByte] at h
  refine lv_aload_n hx hb d_In_fileByte_0 rfl (lv_at hl 0 rfl) ?_
  refine lv_aload_n hx hb d_In_fileByte_1 rfl (lv_at hl 0 rfl) ?_
  refine lv_iload_n hx hb d_In_fileByte_2 rfl (lv_at hl 1 rfl) ?_
  obtain ⟨r_1, S_1, hc_1, h⟩ := lf_cE h
  have hFc := lx_free hD hS hA
  refine va_calli (va_runV (As := [.int p0]) (rest := [.ref M.o_In]) ⟨hx, hb, hml, hown, hts⟩ (l_In_inodeOf l dC dI X _ hc_1) (cwV 1 hts (gwV good_Vq (u_Vq_In _ k_In_49) (u_Vq_In _ k_In_50) (u_Vq_In _ k_In_51) (u_Vq_In _ k_In_0) (wcs (u_Vq_In _ k_In_52) (fun _ h => h))) rfl rfl rfl (by decide +kernel) ⟨Nat.le_of_ble_eq_true rfl, Nat.le_of_ble_eq_true rfl⟩) (pv_ofE (X.same _) (fun U z1 z2 => X.mono _ _ U hFc (hEw _ _ hS U z1 z2)) hP hK hD (va_recv hK hP (ci := 6) (q0 := 9) rfl rfl)) rfl rfl hl.1 rfl (lv_room (Nat.le_of_ble_eq_true rfl)) d_In_fileByte_3 ⟨by decide, by decide⟩) hS (fun q _ h => hFc q h) hFc (fun r_ u t H locs ht hvm hw hB hz1 hk1 hS => ?_)
  rw [hw]
  obtain ⟨hP, -, hD⟩ := hB
  rw [ht] at hP
  have hD := lx_dj hD hFc
  obtain ⟨r_2, S_2, hc_2, h⟩ := lf_cE h
  have hFc := lx_free hD hS hA
  refine va_calli (va_runV (As := [.int r_1]) (rest := []) ⟨hx, hb, hml, hown, hts⟩ (l_In_inodePlace l dC dI X _ hc_2) (cwV 1 hts (gwV good_Vq (u_Vq_In _ k_In_36) (u_Vq_In _ k_In_37) (u_Vq_In _ k_In_70) (u_Vq_In _ k_In_0) (wcs (u_Vq_In _ k_In_38) (fun _ h => h))) rfl rfl rfl (by decide +kernel) ⟨Nat.le_of_ble_eq_true rfl, Nat.le_of_ble_eq_true rfl⟩) (pv_ofE (X.same _) (fun U z1 z2 => X.mono _ _ U hFc (hEw _ _ hS U z1 z2)) hP hK hD (va_recv hK hP (ci := 6) (q0 := 9) rfl rfl)) rfl rfl hl.1 rfl (lv_room (Nat.le_of_ble_eq_true rfl)) d_In_fileByte_6 ⟨by decide, by decide⟩) hS (fun q _ h => hFc q h) hFc (fun r_ u t H locs ht hvm hw hB hz1 hk1 hS => ?_)
  rw [hw]
  obtain ⟨hP, -, hD⟩ := hB
  rw [ht] at hP
  have hD := lx_dj hD hFc
  refine lv_istore_n (lv' := [(3, .int r_2), (0, .ref M.o_In), (1, .int p0), (2, .int p1)]) hx hb d_In_fileByte_9 rfl hl (by decide) rfl (fun ls hl => ?_)
  refine lv_aload_n hx hb d_In_fileByte_10 rfl (lv_at hl 1 rfl) ?_
  refine lv_iload_n hx hb d_In_fileByte_11 rfl (lv_at hl 2 rfl) ?_
  obtain ⟨r_3, S_3, hc_3, h⟩ := lf_cE h
  have hFc := lx_free hD hS hA
  refine va_calli (va_runV (As := [.int p0]) (rest := []) ⟨hx, hb, hml, hown, hts⟩ (l_In_isDirectory l dC dI X _ hc_3) (cwV 1 hts (gwV good_Vq (u_Vq_In _ k_In_53) (u_Vq_In _ k_In_54) (u_Vq_In _ k_In_55) (u_Vq_In _ k_In_0) (wcs (u_Vq_In _ k_In_56) (fun _ h => h))) rfl rfl rfl (by decide +kernel) ⟨Nat.le_of_ble_eq_true rfl, Nat.le_of_ble_eq_true rfl⟩) (pv_ofE (X.same _) (fun U z1 z2 => X.mono _ _ U hFc (hEw _ _ hS U z1 z2)) hP hK hD (va_recv hK hP (ci := 6) (q0 := 9) rfl rfl)) rfl rfl hl.1 rfl (lv_room (Nat.le_of_ble_eq_true rfl)) d_In_fileByte_12 ⟨by decide, by decide⟩) hS (fun q _ h => hFc q h) hFc (fun r_ u t H locs ht hvm hw hB hz1 hk1 hS => ?_)
  rw [hw]
  obtain ⟨hP, -, hD⟩ := hB
  rw [ht] at hP
  have hD := lx_dj hD hFc
  refine lv_if_ne (tgt := 36) hx hb d_In_fileByte_15 (by decide) (fun c_4 => ?_) (fun c_4 => ?_)
  · have h := lf_f h c_4
    exact hB_36 S_3 _ _ _ h hP hD hS (lv_sub hl [] rfl)
  · have h := lf_t h c_4
    refine lv_iload_n hx hb d_In_fileByte_18 rfl (lv_at hl 3 rfl) ?_
    refine lv_if_lt (tgt := 36) hx hb d_In_fileByte_19 (by decide) (fun c_5 => ?_) (fun c_5 => ?_)
    · have h := lf_t h c_5
      exact hB_36 S_3 _ _ _ h hP hD hS (lv_sub hl [] rfl)
    · have h := lf_f h c_5
      refine lv_iload_n hx hb d_In_fileByte_22 rfl (lv_at hl 3 rfl) ?_
      refine lv_aload_n hx hb d_In_fileByte_23 rfl (lv_at hl 1 rfl) ?_
      refine va_get (D := (dC, dI)) (ci := 6) (v := .ref M.o_Dk) (C := R_In) (T := F_In) (N := 2) hx hb hts (fun w h => u_Vq_In w (i_In w h)) hown hK hP 9 rfl rfl 0 (by decide) (hts _ (u_Vq_In _ k_In_5)) (fun _ h9 => h9) rfl d_In_fileByte_24 ?_
      refine lv_iload_n hx hb d_In_fileByte_27 rfl (lv_at hl 0 rfl) ?_
      refine lv_iconst (v := 4) hx hb d_In_fileByte_28 (by decide) ?_
      refine lv_iadd hx hb d_In_fileByte_29 ?_
      obtain ⟨r_6, S_6, hc_6, h⟩ := lf_cE h
      have hFc := lx_free hD hS hA
      refine va_calli (va_runV (As := [.int (r_2 + 4)]) (rest := [.int p1]) ⟨hx, hb, hml, hown, hts⟩ (l_Dk_four l dC dI X _ hc_6) (cwV 1 hts (gwV good_Vq (u_Vq_In _ k_In_14) (u_Vq_Dk _ k_Dk_14) (u_Vq_Dk _ k_Dk_15) (u_Vq_Dk _ k_Dk_0) (wcs (u_Vq_Dk _ k_Dk_16) (fun _ h => h))) rfl rfl rfl (by decide +kernel) ⟨Nat.le_of_ble_eq_true rfl, Nat.le_of_ble_eq_true rfl⟩) (pv_ofE (X.same _) (fun U z1 z2 => X.mono _ _ U hFc (hEw _ _ hS U z1 z2)) hP hK hD (va_recv hK hP (ci := 0) (q0 := 1) rfl rfl)) rfl rfl hl.1 rfl (lv_room (Nat.le_of_ble_eq_true rfl)) d_In_fileByte_30 ⟨by decide, by decide⟩) hS (fun q _ h => hFc q h) hFc (fun r_ u t H locs ht hvm hw hB hz1 hk1 hS => ?_)
      rw [hw]
      obtain ⟨hP, -, hD⟩ := hB
      rw [ht] at hP
      have hD := lx_dj hD hFc
      refine lv_icmp_lt (tgt := 38) hx hb d_In_fileByte_33 (by decide) (fun c_7 => ?_) (fun c_7 => ?_)
      · have h := lf_t h c_7
        refine lv_aload_n hx hb d_In_fileByte_38 rfl (lv_at hl 1 rfl) ?_
        refine va_get (D := (dC, dI)) (ci := 6) (v := .ref M.o_Dk) (C := R_In) (T := F_In) (N := 2) hx hb hts (fun w h => u_Vq_In w (i_In w h)) hown hK hP 9 rfl rfl 0 (by decide) (hts _ (u_Vq_In _ k_In_5)) (fun _ h9 => h9) rfl d_In_fileByte_39 ?_
        refine lv_aload_n hx hb d_In_fileByte_42 rfl (lv_at hl 1 rfl) ?_
        refine lv_iload_n hx hb d_In_fileByte_43 rfl (lv_at hl 0 rfl) ?_
        refine lv_iload_n hx hb d_In_fileByte_44 rfl (lv_at hl 3 rfl) ?_
        refine lv_sipush (v := 1024) hx hb d_In_fileByte_45 (by decide) ?_
        refine lv_idiv hx hb d_In_fileByte_48 (by decide) ?_
        obtain ⟨r_8, S_8, hc_8, h⟩ := lf_cE h
        have hFc := lx_free hD hS hA
        refine va_calli (va_runV (As := [.int r_2, .int (p1 / 1024)]) (rest := [.ref M.o_Dk]) ⟨hx, hb, hml, hown, hts⟩ (l_In_blockOf l dC dI X _ hc_8) (cwV 2 hts (gwV good_Vq (u_Vq_In _ k_In_39) (u_Vq_In _ k_In_40) (u_Vq_In _ k_In_71) (u_Vq_In _ k_In_0) (wcs (u_Vq_In _ k_In_41) (fun _ h => h))) rfl rfl rfl (by decide +kernel) ⟨Nat.le_of_ble_eq_true rfl, Nat.le_of_ble_eq_true rfl⟩) (pv_ofE (X.same _) (fun U z1 z2 => X.mono _ _ U hFc (hEw _ _ hS U z1 z2)) hP hK hD (va_recv hK hP (ci := 6) (q0 := 9) rfl rfl)) rfl rfl hl.1 rfl (lv_room (Nat.le_of_ble_eq_true rfl)) d_In_fileByte_49 ⟨by decide, by decide⟩) hS (fun q _ h => hFc q h) hFc (fun r_ u t H locs ht hvm hw hB hz1 hk1 hS => ?_)
        rw [hw]
        obtain ⟨hP, -, hD⟩ := hB
        rw [ht] at hP
        have hD := lx_dj hD hFc
        refine lv_sipush (v := 1024) hx hb d_In_fileByte_52 (by decide) ?_
        refine lv_imul hx hb d_In_fileByte_55 ?_
        refine lv_iload_n hx hb d_In_fileByte_56 rfl (lv_at hl 3 rfl) ?_
        refine lv_sipush (v := 1024) hx hb d_In_fileByte_57 (by decide) ?_
        refine lv_irem hx hb d_In_fileByte_60 (by decide) ?_
        refine lv_iadd hx hb d_In_fileByte_61 ?_
        obtain ⟨r_9, S_9, hc_9, h⟩ := lf_cE h
        have hFc := lx_free hD hS hA
        refine va_calli (va_runV (As := [.int ((r_8 * 1024) + (p1 - p1 / 1024 * 1024))]) (rest := []) ⟨hx, hb, hml, hown, hts⟩ (l_Dk_one l dC dI X _ hc_9) (cwV 1 hts (gwV good_Vq (u_Vq_In _ k_In_25) (u_Vq_Dk _ k_Dk_20) (u_Vq_Dk _ k_Dk_21) (u_Vq_Dk _ k_Dk_0) (wcs (u_Vq_Dk _ k_Dk_22) (fun _ h => h))) rfl rfl rfl (by decide +kernel) ⟨Nat.le_of_ble_eq_true rfl, Nat.le_of_ble_eq_true rfl⟩) (pv_ofE (X.same _) (fun U z1 z2 => X.mono _ _ U hFc (hEw _ _ hS U z1 z2)) hP hK hD (va_recv hK hP (ci := 0) (q0 := 1) rfl rfl)) rfl rfl hl.1 rfl (lv_room (Nat.le_of_ble_eq_true rfl)) d_In_fileByte_62 ⟨by decide, by decide⟩) hS (fun q _ h => hFc q h) hFc (fun r_ u t H locs ht hvm hw hB hz1 hk1 hS => ?_)
        rw [hw]
        obtain ⟨hP, -, hD⟩ := hB
        rw [ht] at hP
        have hD := lx_dj hD hFc
        rw [hQ]
        have e1 : r_9 = r := congrArg Prod.fst (Option.some.inj h)
        have e2 : S_9 = S' := congrArg Prod.snd (Option.some.inj h)
        have hP := ly_newP e2.symm hP
        have hD := ly_newD e2.symm hD
        exact W.iret (v := r_9) hx hb hr (fun t ht hW => ⟨⟨r_9, (), rfl, e1, by rw [ht]; exact hP, va_K.moved hW.alike hK, hD⟩, hS.F ht⟩) hS.2.2 d_In_fileByte_65
      · have h := lf_f h c_7
        exact hB_36 S_6 _ _ _ h hP hD hS (lv_sub hl [] rfl)
set_option maxHeartbeats 4000000 in
set_option maxRecDepth 100000 in
theorem l_Rd_hasStrays (l : Launch) (dC : Nat → ClassId) (dI : Nat → Nat → Nat) {K : Nat} {M : CA} {E : (Nat → Prop) → State → Prop} (X : ly_X l dC dI K M E) (sz : Nat) {Y : CT} {G : CG} {S S' : CS} {r : Int32} (h : f_Rd_hasStrays K G S = some (r, S')) : Met l y_Rd_hasStrays (.code y_Rd_hasStrays cb_Rd_hasStrays 2 (some .boolean) :: V_Vq) ({ frames := 1, cells := 0, slots := 0, locals := 21 }) (va_Pc [.ref M.o_Rd] (fun U => U.heap.size = sz ∧ at_ (dC, dI) (fun _ => True) (wV M Y G S) (tV M) U ∧ E (va_A (wV M Y G S) sz) U)) (va_Qi (fun (r_ : Int32) (u : Unit) => r_ = r) (fun (u : Unit) t => at_ (dC, dI) (va_A (wV M Y G S) sz) (wV M Y G S') (tV M) t) (va_A (wV M Y G S) sz)) 0 0 (va_A (wV M Y G S) sz) := by
  refine Met.ofW (cc := cb_Rd_hasStrays) (maxL := 2) (ret := (some .boolean)) (by decide) rfl ?_
  intro p e s m args below meth c s₁ B hml hv
  obtain ⟨rfl, hsz, ⟨hP, hK, hD0⟩, hE⟩ := hv
  have hx := B.exec
  have hb := B.bytes
  have hr := B.returns
  have hts0 := atoms_spec (ws := .code y_Rd_hasStrays cb_Rd_hasStrays 2 (some .boolean) :: V_Vq) B.pre
  have hts : ∀ w ∈ V_Vq, w.before ([.ref M.o_Rd] : List Value).toArray s = true := fun w h => hts0 w (List.mem_cons_of_mem _ h)
  have hown : s.vm.findClass R_Rd = some m.cls := findClass_of_methodNamed B.named
  subst hsz
  have hD := hD0.self (sz := s.heap.size)
  generalize hAe : va_A (wV M Y G S) s.heap.size = A at hD hE ⊢
  have hA : ∀ q : Nat, s.heap.size ≤ q → A q := fun q h => by rw [← hAe]; exact Or.inr h
  have hS : va_S A s.heap s.heap [] := va_S.rf
  have hP : va_P (dC, dI) classes (wV M Y G S) s.heap := hP
  have hK : va_K (dC, dI) classes (tV M) s := hK
  have hEw : ∀ (H : Heap) (locs : List Loc), va_S A s.heap H locs → ∀ U : State, U.heap = H → s.WarmedH U.vm → E A U := fun H locs hS U hU hW => X.kept A s U H locs hE hS hU hW
  have hl := lv_entry ([.ref M.o_Rd]) (n := 2) (Nat.le_of_ble_eq_true rfl)
  rw [lg_entry_eq]
  generalize (lg_sl ([.ref M.o_Rd]) ++ List.replicate (2 - (lg_sl ([.ref M.o_Rd])).length) Slot.unset).toArray = ls at hl ⊢
  have hl : lv_has ls 2 [(0, .ref M.o_Rd)] := hl
  refine qabs (fun Q hQ => ?_)
  have hB_46 : ∀ (rec_2 : Int32 → CS → Option (Int32 × CS)) (hr_2 : ∀ (y_1 : Int32) (S : CS) (H : Heap) (locs : List Loc) (ls : Array Slot), rec_2 y_1 S = some (r, S') → va_P (dC, dI) classes (wV M Y G S) H → va_D A (wV M Y G S) → va_S A s.heap H locs → lv_has ls 2 [(0, .ref M.o_Rd), (1, .int y_1)] → W p l e ({ frames := 1, cells := 0, slots := 0, locals := 21 }) s m ([.ref M.o_Rd] : List Value).toArray below meth c H locs 0 0 Q (F0 m 2 ls [])), ∀ (y_1 : Int32) (S : CS) (H : Heap) (locs : List Loc) (ls : Array Slot), f_Rd_hasStrays_46 K G rec_2 y_1 S = some (r, S') → va_P (dC, dI) classes (wV M Y G S) H → va_D A (wV M Y G S) → va_S A s.heap H locs → lv_has ls 2 [(0, .ref M.o_Rd), (1, .int y_1)] → W p l e ({ frames := 1, cells := 0, slots := 0, locals := 21 }) s m ([.ref M.o_Rd] : List Value).toArray below meth c H locs 0 0 Q (F0 m 46 ls []) := by
    intro rec_2 hr_2 y_1 S H locs ls h hP hD hS hl
    rw [f_Rd_hasStrays_46] at h
    obtain ⟨x_7, ex_7, h⟩ := lf_lX h
    refine lv_iinc (v := x_7) (lv' := [(1, .int x_7), (0, .ref M.o_Rd)]) hx hb d_Rd_hasStrays_46 hl (k := 1) rfl (by rw [ex_7]; rfl) (by decide) rfl (fun ls hl => ?_)
    refine lv_goto (tgt := 2) hx hb d_Rd_hasStrays_49 (by decide) ?_
    exact hr_2 x_7 S _ _ _ h hP hD hS (lv_sub hl [1, 0] rfl)
  have hB_52 : ∀ (S : CS) (H : Heap) (locs : List Loc) (ls : Array Slot), f_Rd_hasStrays_52 K G S = some (r, S') → va_P (dC, dI) classes (wV M Y G S) H → va_D A (wV M Y G S) → va_S A s.heap H locs → lv_has ls 2 [] → W p l e ({ frames := 1, cells := 0, slots := 0, locals := 21 }) s m ([.ref M.o_Rd] : List Value).toArray below meth c H locs 0 0 Q (F0 m 52 ls []) := by
    intro S H locs ls h hP hD hS hl
    rw [f_Rd_hasStrays_52] at h
    refine lv_iconst (v := 0) hx hb d_Rd_hasStrays_52 (by decide) ?_
    rw [hQ]
    have e1 : (0 : Int32) = r := congrArg Prod.fst (Option.some.inj h)
    have e2 : S = S' := congrArg Prod.snd (Option.some.inj h)
    have hP := ly_newP e2.symm hP
    have hD := ly_newD e2.symm hD
    exact W.zret (v := 0) hx hb hr rfl (fun t ht hW => ⟨⟨0, (), rfl, e1, by rw [ht]; exact hP, va_K.moved hW.alike hK, hD⟩, hS.F ht⟩) hS.2.2 d_Rd_hasStrays_53
  have hB_2 : ∀ (k : Nat), ∀ (y_1 : Int32) (S : CS) (H : Heap) (locs : List Loc) (ls : Array Slot), f_Rd_hasStrays_2 K G k y_1 S = some (r, S') → va_P (dC, dI) classes (wV M Y G S) H → va_D A (wV M Y G S) → va_S A s.heap H locs → lv_has ls 2 [(0, .ref M.o_Rd), (1, .int y_1)] → W p l e ({ frames := 1, cells := 0, slots := 0, locals := 21 }) s m ([.ref M.o_Rd] : List Value).toArray below meth c H locs 0 0 Q (F0 m 2 ls []) := by
    intro k
    induction k with
    | zero => intro y_1 S H locs ls h; exact lf_no h
    | succ k hr_2 =>
      intro y_1 S H locs ls h hP hD hS hl
      rw [f_Rd_hasStrays_2] at h
      refine lv_iload_n hx hb d_Rd_hasStrays_2 rfl (lv_at hl 1 rfl) ?_
      refine lv_aload_n hx hb d_Rd_hasStrays_3 rfl (lv_at hl 0 rfl) ?_
      refine va_get (D := (dC, dI)) (ci := 7) (v := .ref M.o_Tb) (C := R_Rd) (T := F_Rd) (N := 10) hx hb hts (fun w h => u_Vq_Rd w (i_Rd w h)) hown hK hP 5 rfl rfl 1 (by decide) (hts _ (u_Vq_Rd _ k_Rd_11)) (fun _ h9 => h9) rfl d_Rd_hasStrays_4 ?_
      refine va_get (D := (dC, dI)) (ci := 4) (v := .int S.v_Tb_clusters) (C := R_Tb) (T := F_Tb) (N := 10) hx hb hts (fun w h => u_Vq_Tb w (i_Tb w h)) hown hK hP 3 rfl rfl 7 (by decide) (hts _ (u_Vq_Rd _ k_Rd_2)) (fun _ h9 => h9) rfl d_Rd_hasStrays_7 ?_
      refine lv_iconst (v := 2) hx hb d_Rd_hasStrays_10 (by decide) ?_
      refine lv_iadd hx hb d_Rd_hasStrays_11 ?_
      refine lv_icmp_ge (tgt := 52) hx hb d_Rd_hasStrays_12 (by decide) (fun c_1 => ?_) (fun c_1 => ?_)
      · have h := lf_t h c_1
        exact hB_52 S _ _ _ h hP hD hS (lv_sub hl [] rfl)
      · have h := lf_f h c_1
        refine lv_iload_n hx hb d_Rd_hasStrays_15 rfl (lv_at hl 1 rfl) ?_
        refine lv_aload_n hx hb d_Rd_hasStrays_16 rfl (lv_at hl 0 rfl) ?_
        refine va_get (D := (dC, dI)) (ci := 7) (v := .ref M.a_Rd_taken) (C := R_Rd) (T := F_Rd) (N := 10) hx hb hts (fun w h => u_Vq_Rd w (i_Rd w h)) hown hK hP 5 rfl rfl 3 (by decide) (hts _ (u_Vq_Rd _ k_Rd_13)) (fun _ h9 => h9) rfl d_Rd_hasStrays_17 ?_
        refine va_alen (v := nI (G.n / 2 + 2)) hx hb hK hP 32 1 rfl rfl rfl d_Rd_hasStrays_20 ?_
        refine lv_icmp_ge (tgt := 52) hx hb d_Rd_hasStrays_21 (by decide) (fun c_2 => ?_) (fun c_2 => ?_)
        · have h := lf_t h c_2
          exact hB_52 S _ _ _ h hP hD hS (lv_sub hl [] rfl)
        · have h := lf_f h c_2
          refine lv_aload_n hx hb d_Rd_hasStrays_24 rfl (lv_at hl 0 rfl) ?_
          refine va_get (D := (dC, dI)) (ci := 7) (v := .ref M.o_Tb) (C := R_Rd) (T := F_Rd) (N := 10) hx hb hts (fun w h => u_Vq_Rd w (i_Rd w h)) hown hK hP 5 rfl rfl 1 (by decide) (hts _ (u_Vq_Rd _ k_Rd_11)) (fun _ h9 => h9) rfl d_Rd_hasStrays_25 ?_
          refine lv_iload_n hx hb d_Rd_hasStrays_28 rfl (lv_at hl 1 rfl) ?_
          obtain ⟨r_3, S_3, hc_3, h⟩ := lf_cE h
          have hFc := lx_free hD hS hA
          refine va_calli (va_runV (As := [.int y_1]) (rest := []) ⟨hx, hb, hml, hown, hts⟩ (l_Tb_isFree l dC dI X _ hc_3) (cwV 1 hts (gwV good_Vq (u_Vq_Rd _ k_Rd_96) (u_Vq_Tb _ k_Tb_63) (u_Vq_Tb _ k_Tb_64) (u_Vq_Tb _ k_Tb_0) (wcs (u_Vq_Tb _ k_Tb_65) (fun _ h => h))) rfl rfl rfl (by decide +kernel) ⟨Nat.le_of_ble_eq_true rfl, Nat.le_of_ble_eq_true rfl⟩) (pv_ofE (X.same _) (fun U z1 z2 => X.mono _ _ U hFc (hEw _ _ hS U z1 z2)) hP hK hD (va_recv hK hP (ci := 4) (q0 := 3) rfl rfl)) rfl rfl hl.1 rfl (lv_room (Nat.le_of_ble_eq_true rfl)) d_Rd_hasStrays_29 ⟨by decide, by decide⟩) hS (fun q _ h => hFc q h) hFc (fun r_ u t H locs ht hvm hw hB hz1 hk1 hS => ?_)
          rw [hw]
          obtain ⟨hP, -, hD⟩ := hB
          rw [ht] at hP
          have hD := lx_dj hD hFc
          refine lv_if_ne (tgt := 46) hx hb d_Rd_hasStrays_32 (by decide) (fun c_4 => ?_) (fun c_4 => ?_)
          · have h := lf_f h c_4
            exact hB_46 _ hr_2 y_1 S_3 _ _ _ h hP hD hS (lv_sub hl [0, 1] rfl)
          · have h := lf_t h c_4
            refine lv_aload_n hx hb d_Rd_hasStrays_35 rfl (lv_at hl 0 rfl) ?_
            refine va_get (D := (dC, dI)) (ci := 7) (v := .ref M.a_Rd_taken) (C := R_Rd) (T := F_Rd) (N := 10) hx hb hts (fun w h => u_Vq_Rd w (i_Rd w h)) hown hK hP 5 rfl rfl 3 (by decide) (hts _ (u_Vq_Rd _ k_Rd_13)) (fun _ h9 => h9) rfl d_Rd_hasStrays_36 ?_
            refine lv_iload_n hx hb d_Rd_hasStrays_39 rfl (lv_at hl 1 rfl) ?_
            obtain ⟨g_5, h⟩ := lf_gE h
            refine va_zald hx hb hK hP 32 1 rfl rfl g_5 d_Rd_hasStrays_40 ?_
            refine lv_if_ne (tgt := 46) hx hb d_Rd_hasStrays_41 (by decide) (fun c_6 => ?_) (fun c_6 => ?_)
            · have h := lf_f h c_6
              exact hB_46 _ hr_2 y_1 S_3 _ _ _ h hP hD hS (lv_sub hl [0, 1] rfl)
            · have h := lf_t h c_6
              refine lv_iconst (v := 1) hx hb d_Rd_hasStrays_44 (by decide) ?_
              rw [hQ]
              have e1 : (1 : Int32) = r := congrArg Prod.fst (Option.some.inj h)
              have e2 : S_3 = S' := congrArg Prod.snd (Option.some.inj h)
              have hP := ly_newP e2.symm hP
              have hD := ly_newD e2.symm hD
              exact W.zret (v := 1) hx hb hr rfl (fun t ht hW => ⟨⟨1, (), rfl, e1, by rw [ht]; exact hP, va_K.moved hW.alike hK, hD⟩, hS.F ht⟩) hS.2.2 d_Rd_hasStrays_45
  rw [f_Rd_hasStrays] at h
  refine lv_iconst (v := 2) hx hb d_Rd_hasStrays_0 (by decide) ?_
  refine lv_istore_n (lv' := [(1, .int 2), (0, .ref M.o_Rd)]) hx hb d_Rd_hasStrays_1 rfl hl (by decide) rfl (fun ls hl => ?_)
  exact hB_2 K 2 S _ _ _ h hP hD hS (lv_sub hl [1, 0] rfl)
set_option maxHeartbeats 4000000 in
set_option maxRecDepth 100000 in
theorem l_Rd_follow_Rdroad (l : Launch) (dC : Nat → ClassId) (dI : Nat → Nat → Nat) {K : Nat} {M : CA} {E : (Nat → Prop) → State → Prop} (X : ly_X l dC dI K M E) (sz : Nat) {Y : CT} {G : CG} {S S' : CS} {p0 : Int32} {r : Int32} (h : f_Rd_follow_Rdroad K G S p0 = some (r, S')) : Met l y_Rd_follow (.code y_Rd_follow b_Rd_follow 5 (some .int) :: V_Vq) ({ frames := 1, cells := 0, slots := 0, locals := 21 }) (va_Pc [.ref M.o_Rd, .int p0, .ref M.a_Rd_road] (fun U => U.heap.size = sz ∧ at_ (dC, dI) (fun _ => True) (wV M Y G S) (tV M) U ∧ E (va_A (wV M Y G S) sz) U)) (va_Qi (fun (r_ : Int32) (u : Unit) => r_ = r) (fun (u : Unit) t => at_ (dC, dI) (va_A (wV M Y G S) sz) (wV M Y G S') (tV M) t) (va_A (wV M Y G S) sz)) 0 0 (va_A (wV M Y G S) sz) := by
  refine Met.ofW (cc := b_Rd_follow) (maxL := 5) (ret := (some .int)) (by decide) rfl ?_
  intro p e s m args below meth c s₁ B hml hv
  obtain ⟨rfl, hsz, ⟨hP, hK, hD0⟩, hE⟩ := hv
  have hx := B.exec
  have hb := B.bytes
  have hr := B.returns
  have hts0 := atoms_spec (ws := .code y_Rd_follow b_Rd_follow 5 (some .int) :: V_Vq) B.pre
  have hts : ∀ w ∈ V_Vq, w.before ([.ref M.o_Rd, .int p0, .ref M.a_Rd_road] : List Value).toArray s = true := fun w h => hts0 w (List.mem_cons_of_mem _ h)
  have hown : s.vm.findClass R_Rd = some m.cls := findClass_of_methodNamed B.named
  subst hsz
  have hD := hD0.self (sz := s.heap.size)
  generalize hAe : va_A (wV M Y G S) s.heap.size = A at hD hE ⊢
  have hA : ∀ q : Nat, s.heap.size ≤ q → A q := fun q h => by rw [← hAe]; exact Or.inr h
  have hS : va_S A s.heap s.heap [] := va_S.rf
  have hP : va_P (dC, dI) classes (wV M Y G S) s.heap := hP
  have hK : va_K (dC, dI) classes (tV M) s := hK
  have hEw : ∀ (H : Heap) (locs : List Loc), va_S A s.heap H locs → ∀ U : State, U.heap = H → s.WarmedH U.vm → E A U := fun H locs hS U hU hW => X.kept A s U H locs hE hS hU hW
  have hl := lv_entry ([.ref M.o_Rd, .int p0, .ref M.a_Rd_road]) (n := 5) (Nat.le_of_ble_eq_true rfl)
  rw [lg_entry_eq]
  generalize (lg_sl ([.ref M.o_Rd, .int p0, .ref M.a_Rd_road]) ++ List.replicate (5 - (lg_sl ([.ref M.o_Rd, .int p0, .ref M.a_Rd_road])).length) Slot.unset).toArray = ls at hl ⊢
  have hl : lv_has ls 5 [(0, .ref M.o_Rd), (1, .int p0), (2, .ref M.a_Rd_road)] := hl
  refine qabs (fun Q hQ => ?_)
  have hB_41 : ∀ (S : CS) (H : Heap) (locs : List Loc) (ls : Array Slot), f_Rd_follow_Rdroad_41 K G S = some (r, S') → va_P (dC, dI) classes (wV M Y G S) H → va_D A (wV M Y G S) → va_S A s.heap H locs → lv_has ls 5 [] → W p l e ({ frames := 1, cells := 0, slots := 0, locals := 21 }) s m ([.ref M.o_Rd, .int p0, .ref M.a_Rd_road] : List Value).toArray below meth c H locs 0 0 Q (F0 m 41 ls []) := by
    intro S H locs ls h hP hD hS hl
    rw [f_Rd_follow_Rdroad_41] at h
    refine lv_iconst (v := (-1)) hx hb d_Rd_follow_41 (by decide) ?_
    rw [hQ]
    have e1 : ((-1)) = r := congrArg Prod.fst (Option.some.inj h)
    have e2 : S = S' := congrArg Prod.snd (Option.some.inj h)
    have hP := ly_newP e2.symm hP
    have hD := ly_newD e2.symm hD
    exact W.iret (v := ((-1))) hx hb hr (fun t ht hW => ⟨⟨((-1)), (), rfl, e1, by rw [ht]; exact hP, va_K.moved hW.alike hK, hD⟩, hS.F ht⟩) hS.2.2 d_Rd_follow_42
  have hB_5 : ∀ (k : Nat), ∀ (y_3 : Int32) (y_4 : Int32) (S : CS) (H : Heap) (locs : List Loc) (ls : Array Slot), f_Rd_follow_Rdroad_5 K G k y_3 y_4 S = some (r, S') → va_P (dC, dI) classes (wV M Y G S) H → va_D A (wV M Y G S) → va_S A s.heap H locs → lv_has ls 5 [(0, .ref M.o_Rd), (2, .ref M.a_Rd_road), (3, .int y_3), (4, .int y_4)] → W p l e ({ frames := 1, cells := 0, slots := 0, locals := 21 }) s m ([.ref M.o_Rd, .int p0, .ref M.a_Rd_road] : List Value).toArray below meth c H locs 0 0 Q (F0 m 5 ls []) := by
    intro k
    induction k with
    | zero => intro y_3 y_4 S H locs ls h; exact lf_no h
    | succ k hr_5 =>
      intro y_3 y_4 S H locs ls h hP hD hS hl
      rw [f_Rd_follow_Rdroad_5] at h
      refine lv_iload hx hb d_Rd_follow_5 (lv_at hl 3 rfl) ?_
      refine lv_aload_n hx hb d_Rd_follow_7 rfl (lv_at hl 1 rfl) ?_
      refine va_alen (v := nI (G.n / 2 + 2)) hx hb hK hP 33 2 rfl rfl rfl d_Rd_follow_8 ?_
      refine lv_icmp_ge (tgt := 81) hx hb d_Rd_follow_9 (by decide) (fun c_1 => ?_) (fun c_1 => ?_)
      · have h := lf_t h c_1
        refine lv_iconst (v := (-1)) hx hb d_Rd_follow_81 (by decide) ?_
        rw [hQ]
        have e1 : ((-1)) = r := congrArg Prod.fst (Option.some.inj h)
        have e2 : S = S' := congrArg Prod.snd (Option.some.inj h)
        have hP := ly_newP e2.symm hP
        have hD := ly_newD e2.symm hD
        exact W.iret (v := ((-1))) hx hb hr (fun t ht hW => ⟨⟨((-1)), (), rfl, e1, by rw [ht]; exact hP, va_K.moved hW.alike hK, hD⟩, hS.F ht⟩) hS.2.2 d_Rd_follow_82
      · have h := lf_f h c_1
        refine lv_aload_n hx hb d_Rd_follow_12 rfl (lv_at hl 0 rfl) ?_
        refine va_get (D := (dC, dI)) (ci := 7) (v := .ref M.o_Tb) (C := R_Rd) (T := F_Rd) (N := 10) hx hb hts (fun w h => u_Vq_Rd w (i_Rd w h)) hown hK hP 5 rfl rfl 1 (by decide) (hts _ (u_Vq_Rd _ k_Rd_11)) (fun _ h9 => h9) rfl d_Rd_follow_13 ?_
        refine lv_iload_n hx hb d_Rd_follow_16 rfl (lv_at hl 2 rfl) ?_
        obtain ⟨r_2, S_2, hc_2, h⟩ := lf_cE h
        have hFc := lx_free hD hS hA
        refine va_calli (va_runV (As := [.int y_3]) (rest := []) ⟨hx, hb, hml, hown, hts⟩ (l_Tb_nextOf l dC dI X _ hc_2) (cwV 1 hts (gwV good_Vq (u_Vq_Rd _ k_Rd_35) (u_Vq_Tb _ k_Tb_43) (u_Vq_Tb _ k_Tb_44) (u_Vq_Tb _ k_Tb_0) (wcs (u_Vq_Tb _ k_Tb_45) (fun _ h => h))) rfl rfl rfl (by decide +kernel) ⟨Nat.le_of_ble_eq_true rfl, Nat.le_of_ble_eq_true rfl⟩) (pv_ofE (X.same _) (fun U z1 z2 => X.mono _ _ U hFc (hEw _ _ hS U z1 z2)) hP hK hD (va_recv hK hP (ci := 4) (q0 := 3) rfl rfl)) rfl rfl hl.1 rfl (lv_room (Nat.le_of_ble_eq_true rfl)) d_Rd_follow_17 ⟨by decide, by decide⟩) hS (fun q _ h => hFc q h) hFc (fun r_ u t H locs ht hvm hw hB hz1 hk1 hS => ?_)
        rw [hw]
        obtain ⟨hP, -, hD⟩ := hB
        rw [ht] at hP
        have hD := lx_dj hD hFc
        refine lv_if_eq (tgt := 41) hx hb d_Rd_follow_20 (by decide) (fun c_3 => ?_) (fun c_3 => ?_)
        · have h := lf_t h c_3
          exact hB_41 S_2 _ _ _ h hP hD hS (lv_sub hl [] rfl)
        · have h := lf_f h c_3
          refine lv_iload_n hx hb d_Rd_follow_23 rfl (lv_at hl 2 rfl) ?_
          refine lv_aload_n hx hb d_Rd_follow_24 rfl (lv_at hl 0 rfl) ?_
          refine va_get (D := (dC, dI)) (ci := 7) (v := .ref M.a_Rd_taken) (C := R_Rd) (T := F_Rd) (N := 10) hx hb hts (fun w h => u_Vq_Rd w (i_Rd w h)) hown hK hP 5 rfl rfl 3 (by decide) (hts _ (u_Vq_Rd _ k_Rd_13)) (fun _ h9 => h9) rfl d_Rd_follow_25 ?_
          refine va_alen (v := nI (G.n / 2 + 2)) hx hb hK hP 32 1 rfl rfl rfl d_Rd_follow_28 ?_
          refine lv_icmp_ge (tgt := 41) hx hb d_Rd_follow_29 (by decide) (fun c_4 => ?_) (fun c_4 => ?_)
          · have h := lf_t h c_4
            exact hB_41 S_2 _ _ _ h hP hD hS (lv_sub hl [] rfl)
          · have h := lf_f h c_4
            refine lv_aload_n hx hb d_Rd_follow_32 rfl (lv_at hl 0 rfl) ?_
            refine va_get (D := (dC, dI)) (ci := 7) (v := .ref M.a_Rd_taken) (C := R_Rd) (T := F_Rd) (N := 10) hx hb hts (fun w h => u_Vq_Rd w (i_Rd w h)) hown hK hP 5 rfl rfl 3 (by decide) (hts _ (u_Vq_Rd _ k_Rd_13)) (fun _ h9 => h9) rfl d_Rd_follow_33 ?_
            refine lv_iload_n hx hb d_Rd_follow_36 rfl (lv_at hl 2 rfl) ?_
            obtain ⟨g_5, h⟩ := lf_gE h
            refine va_zald hx hb hK hP 32 1 rfl rfl g_5 d_Rd_follow_37 ?_
            refine lv_if_eq (tgt := 43) hx hb d_Rd_follow_38 (by decide) (fun c_6 => ?_) (fun c_6 => ?_)
            · have h := lf_t h c_6
              refine lv_aload_n hx hb d_Rd_follow_43 rfl (lv_at hl 0 rfl) ?_
              refine va_get (D := (dC, dI)) (ci := 7) (v := .ref M.a_Rd_taken) (C := R_Rd) (T := F_Rd) (N := 10) hx hb hts (fun w h => u_Vq_Rd w (i_Rd w h)) hown hK hP 5 rfl rfl 3 (by decide) (hts _ (u_Vq_Rd _ k_Rd_13)) (fun _ h9 => h9) rfl d_Rd_follow_44 ?_
              refine lv_iload_n hx hb d_Rd_follow_47 rfl (lv_at hl 2 rfl) ?_
              refine lv_iconst (v := 1) hx hb d_Rd_follow_48 (by decide) ?_
              obtain ⟨g_7, h⟩ := lf_gE h
              refine va_zast hx hb hK hP hD hS 32 1 rfl rfl g_7 d_Rd_follow_49 (fun H locs hP hD hS => ?_)
              obtain ⟨S_8, eS_8, h⟩ := lf_lX h
              have hP := ly_newP eS_8 hP
              have hD := ly_newD eS_8 hD
              refine lv_aload_n hx hb d_Rd_follow_50 rfl (lv_at hl 1 rfl) ?_
              refine lv_iload hx hb d_Rd_follow_51 (lv_at hl 3 rfl) ?_
              refine lv_iload_n hx hb d_Rd_follow_53 rfl (lv_at hl 2 rfl) ?_
              obtain ⟨g_9, h⟩ := lf_gE h
              refine va_iast hx hb hK hP hD hS 33 2 rfl rfl g_9 d_Rd_follow_54 (fun H locs hP hD hS => ?_)
              obtain ⟨S_10, eS_10, h⟩ := lf_lX h
              have hP := ly_newP eS_10 hP
              have hD := ly_newD eS_10 hD
              refine lv_aload_n hx hb d_Rd_follow_55 rfl (lv_at hl 0 rfl) ?_
              refine va_get (D := (dC, dI)) (ci := 7) (v := .ref M.o_Tb) (C := R_Rd) (T := F_Rd) (N := 10) hx hb hts (fun w h => u_Vq_Rd w (i_Rd w h)) hown hK hP 5 rfl rfl 1 (by decide) (hts _ (u_Vq_Rd _ k_Rd_11)) (fun _ h9 => h9) rfl d_Rd_follow_56 ?_
              refine lv_iload_n hx hb d_Rd_follow_59 rfl (lv_at hl 2 rfl) ?_
              obtain ⟨r_11, S_11, hc_11, h⟩ := lf_cE h
              have hFc := lx_free hD hS hA
              refine va_calli (va_runV (As := [.int y_3]) (rest := []) ⟨hx, hb, hml, hown, hts⟩ (l_Tb_nextOf l dC dI X _ hc_11) (cwV 1 hts (gwV good_Vq (u_Vq_Rd _ k_Rd_35) (u_Vq_Tb _ k_Tb_43) (u_Vq_Tb _ k_Tb_44) (u_Vq_Tb _ k_Tb_0) (wcs (u_Vq_Tb _ k_Tb_45) (fun _ h => h))) rfl rfl rfl (by decide +kernel) ⟨Nat.le_of_ble_eq_true rfl, Nat.le_of_ble_eq_true rfl⟩) (pv_ofE (X.same _) (fun U z1 z2 => X.mono _ _ U hFc (hEw _ _ hS U z1 z2)) hP hK hD (va_recv hK hP (ci := 4) (q0 := 3) rfl rfl)) rfl rfl hl.1 rfl (lv_room (Nat.le_of_ble_eq_true rfl)) d_Rd_follow_60 ⟨by decide, by decide⟩) hS (fun q _ h => hFc q h) hFc (fun r_ u t H locs ht hvm hw hB hz1 hk1 hS => ?_)
              rw [hw]
              obtain ⟨hP, -, hD⟩ := hB
              rw [ht] at hP
              have hD := lx_dj hD hFc
              refine lv_istore_n (lv' := [(3, .int r_11), (0, .ref M.o_Rd), (2, .ref M.a_Rd_road), (4, .int y_4)]) hx hb d_Rd_follow_63 rfl hl (by decide) rfl (fun ls hl => ?_)
              refine lv_iload_n hx hb d_Rd_follow_64 rfl (lv_at hl 0 rfl) ?_
              refine lv_ldc (v := 268435448) hx hb hown (hts _ (u_Vq_Rd _ k_Rd_36)) d_Rd_follow_65 ?_
              refine lv_icmp_lt (tgt := 75) hx hb d_Rd_follow_67 (by decide) (fun c_12 => ?_) (fun c_12 => ?_)
              · have h := lf_t h c_12
                obtain ⟨x_13, ex_13, h⟩ := lf_lX h
                refine lv_iinc (v := x_13) (lv' := [(4, .int x_13), (3, .int r_11), (0, .ref M.o_Rd), (2, .ref M.a_Rd_road)]) hx hb d_Rd_follow_75 hl (k := 3) rfl (by rw [ex_13]; rfl) (by decide) rfl (fun ls hl => ?_)
                refine lv_goto (tgt := 5) hx hb d_Rd_follow_78 (by decide) ?_
                exact hr_5 r_11 x_13 S_11 _ _ _ h hP hD hS (lv_sub hl [2, 3, 1, 0] rfl)
              · have h := lf_f h c_12
                refine lv_iload hx hb d_Rd_follow_70 (lv_at hl 3 rfl) ?_
                refine lv_iconst (v := 1) hx hb d_Rd_follow_72 (by decide) ?_
                refine lv_iadd hx hb d_Rd_follow_73 ?_
                rw [hQ]
                have e1 : (y_4 + 1) = r := congrArg Prod.fst (Option.some.inj h)
                have e2 : S_11 = S' := congrArg Prod.snd (Option.some.inj h)
                have hP := ly_newP e2.symm hP
                have hD := ly_newD e2.symm hD
                exact W.iret (v := (y_4 + 1)) hx hb hr (fun t ht hW => ⟨⟨(y_4 + 1), (), rfl, e1, by rw [ht]; exact hP, va_K.moved hW.alike hK, hD⟩, hS.F ht⟩) hS.2.2 d_Rd_follow_74
            · have h := lf_f h c_6
              exact hB_41 S_2 _ _ _ h hP hD hS (lv_sub hl [] rfl)
  rw [f_Rd_follow_Rdroad] at h
  refine lv_iload_n hx hb d_Rd_follow_0 rfl (lv_at hl 1 rfl) ?_
  refine lv_istore_n (lv' := [(3, .int p0), (0, .ref M.o_Rd), (1, .int p0), (2, .ref M.a_Rd_road)]) hx hb d_Rd_follow_1 rfl hl (by decide) rfl (fun ls hl => ?_)
  refine lv_iconst (v := 0) hx hb d_Rd_follow_2 (by decide) ?_
  refine lv_istore (lv' := [(4, .int 0), (3, .int p0), (0, .ref M.o_Rd), (1, .int p0), (2, .ref M.a_Rd_road)]) hx hb d_Rd_follow_3 hl (by decide) rfl (fun ls hl => ?_)
  exact hB_5 K p0 0 S _ _ _ h hP hD hS (lv_sub hl [2, 4, 1, 0] rfl)
