theorem in_of3 {x : Int32} {n : Nat} (h0 : ¬ x < 2) (h1 : ¬ nI n ≤ x) (hn : n < 2 ^ 31) : vp_in x n := in_of (fun h => h0 (Int32.lt_trans h (by decide))) h1 hn
def tb_behind (nl : Nat) : Int32 := (nI nl)
set_option maxHeartbeats 4000000 in
set_option maxRecDepth 100000 in
theorem c_Tb_behind (l : Launch) (dC : Nat → ClassId) (dI : Nat → Nat → Nat) (b0 b1 b2 h0 sz : Nat) (cl be co le ro sa ks : Int32) (c1 : ClassId) (nl : Nat) (nx : Nat → Int32) : Met l y_Tb_behind (.code y_Tb_behind b_Tb_behind 1 (some .int) :: V_Tb) ({ frames := 0, cells := 0, slots := 0, locals := 0 }) (va_Pc [.ref b0] (fun U => U.heap.size = sz ∧ at_ (dC, dI) (fun _ => True) [(b0, .inr (4, [.ref h0, .int cl, .int be, .int co, .int le, .int ro, .int sa, .int ks, .ref b1, .ref b2])), (b1, .inl (c1, nl, .inl nx))] [(c1, .int)] U)) (va_Qi (fun (r : Int32) (u : Unit) => r = tb_behind nl) (fun (u : Unit) t => at_ (dC, dI) (va_A [(b0, .inr (4, [.ref h0, .int cl, .int be, .int co, .int le, .int ro, .int sa, .int ks, .ref b1, .ref b2])), (b1, .inl (c1, nl, .inl nx))] sz) [(b0, .inr (4, [.ref h0, .int cl, .int be, .int co, .int le, .int ro, .int sa, .int ks, .ref b1, .ref b2])), (b1, .inl (c1, nl, .inl nx))] [(c1, .int)] t) (va_A [(b0, .inr (4, [.ref h0, .int cl, .int be, .int co, .int le, .int ro, .int sa, .int ks, .ref b1, .ref b2])), (b1, .inl (c1, nl, .inl nx))] sz)) 0 0 (va_A [(b0, .inr (4, [.ref h0, .int cl, .int be, .int co, .int le, .int ro, .int sa, .int ks, .ref b1, .ref b2])), (b1, .inl (c1, nl, .inl nx))] sz) := by
  refine Met.ofW (cc := b_Tb_behind) (maxL := 1) (ret := (some .int)) (by decide) rfl ?_
  intro p e s m args below meth c s₁ B hml hv
  obtain ⟨rfl, hsz, hP, hK, hD0⟩ := hv
  have hx := B.exec
  have hb := B.bytes
  have hr := B.returns
  have hts0 := atoms_spec (ws := .code y_Tb_behind b_Tb_behind 1 (some .int) :: V_Tb) B.pre
  have hts : ∀ w ∈ V_Tb, w.before ([.ref b0] : List Value).toArray s = true := fun w h => hts0 w (List.mem_cons_of_mem _ h)
  have hown : s.vm.findClass R_Tb = some m.cls := findClass_of_methodNamed B.named
  have hlocks := B.notSynchronized
  subst hsz
  have hD := hD0.self (sz := s.heap.size)
  generalize hAe : va_A [(b0, .inr (4, [.ref h0, .int cl, .int be, .int co, .int le, .int ro, .int sa, .int ks, .ref b1, .ref b2])), (b1, .inl (c1, nl, .inl nx))] s.heap.size = A at hD ⊢
  have hA : ∀ q : Nat, s.heap.size ≤ q → A q := fun q h => by rw [← hAe]; exact Or.inr h
  have hS : va_S A s.heap s.heap [] := va_S.rf
  have hP : va_P (dC, dI) classes [(b0, .inr (4, [.ref h0, .int cl, .int be, .int co, .int le, .int ro, .int sa, .int ks, .ref b1, .ref b2])), (b1, .inl (c1, nl, .inl nx))] s.heap := hP
  have hK : va_K (dC, dI) classes [(c1, .int)] s := hK
  have hl := lv_entry ([.ref b0]) (n := 1) (Nat.le_of_ble_eq_true rfl)
  rw [lg_entry_eq]
  generalize (lg_sl ([.ref b0]) ++ List.replicate (1 - (lg_sl ([.ref b0])).length) Slot.unset).toArray = ls at hl ⊢
  have hl : lv_has ls 1 [(0, .ref b0)] := hl
  refine lv_aload_n hx hb d_Tb_behind_0 rfl (lv_at hl 0 rfl) ?_
  refine va_get (D := (dC, dI)) (ci := 4) (v := .ref b1) (C := R_Tb) (T := F_Tb) (N := 10) hx hb hts i_Tb hown hK hP 0 rfl rfl 8 (by decide) (hts _ (k_Tb_14)) (fun _ h9 => h9) rfl d_Tb_behind_1 ?_
  refine va_alen (v := nI nl) hx hb hK hP 1 0 rfl rfl rfl d_Tb_behind_4 ?_
  exact W.iret (v := (nI nl)) hx hb hr (fun t ht hW => ⟨⟨(nI nl), (), rfl, by rw [tb_behind], by rw [ht]; exact hP, va_K.moved hW.alike hK, hD⟩, hS.F ht⟩) hS.2.2 d_Tb_behind_5
def tb_has (ks : Int32) (nl : Nat) (p1 : Int32) : Int32 := if p1 < 2 then (0) else if (ks + 2) ≤ p1 then (0) else if (nI nl) ≤ p1 then (0) else (1)
set_option maxHeartbeats 4000000 in
set_option maxRecDepth 100000 in
theorem c_Tb_hasCluster (l : Launch) (dC : Nat → ClassId) (dI : Nat → Nat → Nat) (b0 b1 b2 h0 sz : Nat) (cl be co le ro sa ks : Int32) (c1 : ClassId) (nl : Nat) (nx : Nat → Int32) (hnl : nl < 2 ^ 31) (p1 : Int32) : Met l y_Tb_hasCluster (.code y_Tb_hasCluster b_Tb_hasCluster 2 (some .boolean) :: V_Tb) ({ frames := 0, cells := 0, slots := 0, locals := 0 }) (va_Pc [.ref b0, .int p1] (fun U => U.heap.size = sz ∧ at_ (dC, dI) (fun _ => True) [(b0, .inr (4, [.ref h0, .int cl, .int be, .int co, .int le, .int ro, .int sa, .int ks, .ref b1, .ref b2])), (b1, .inl (c1, nl, .inl nx))] [(c1, .int)] U)) (va_Qi (fun (r : Int32) (u : Unit) => r = tb_has ks nl p1) (fun (u : Unit) t => at_ (dC, dI) (va_A [(b0, .inr (4, [.ref h0, .int cl, .int be, .int co, .int le, .int ro, .int sa, .int ks, .ref b1, .ref b2])), (b1, .inl (c1, nl, .inl nx))] sz) [(b0, .inr (4, [.ref h0, .int cl, .int be, .int co, .int le, .int ro, .int sa, .int ks, .ref b1, .ref b2])), (b1, .inl (c1, nl, .inl nx))] [(c1, .int)] t) (va_A [(b0, .inr (4, [.ref h0, .int cl, .int be, .int co, .int le, .int ro, .int sa, .int ks, .ref b1, .ref b2])), (b1, .inl (c1, nl, .inl nx))] sz)) 0 0 (va_A [(b0, .inr (4, [.ref h0, .int cl, .int be, .int co, .int le, .int ro, .int sa, .int ks, .ref b1, .ref b2])), (b1, .inl (c1, nl, .inl nx))] sz) := by
  refine Met.ofW (cc := b_Tb_hasCluster) (maxL := 2) (ret := (some .boolean)) (by decide) rfl ?_
  intro p e s m args below meth c s₁ B hml hv
  obtain ⟨rfl, hsz, hP, hK, hD0⟩ := hv
  have hx := B.exec
  have hb := B.bytes
  have hr := B.returns
  have hts0 := atoms_spec (ws := .code y_Tb_hasCluster b_Tb_hasCluster 2 (some .boolean) :: V_Tb) B.pre
  have hts : ∀ w ∈ V_Tb, w.before ([.ref b0, .int p1] : List Value).toArray s = true := fun w h => hts0 w (List.mem_cons_of_mem _ h)
  have hown : s.vm.findClass R_Tb = some m.cls := findClass_of_methodNamed B.named
  have hlocks := B.notSynchronized
  subst hsz
  have hD := hD0.self (sz := s.heap.size)
  generalize hAe : va_A [(b0, .inr (4, [.ref h0, .int cl, .int be, .int co, .int le, .int ro, .int sa, .int ks, .ref b1, .ref b2])), (b1, .inl (c1, nl, .inl nx))] s.heap.size = A at hD ⊢
  have hA : ∀ q : Nat, s.heap.size ≤ q → A q := fun q h => by rw [← hAe]; exact Or.inr h
  have hS : va_S A s.heap s.heap [] := va_S.rf
  have hP : va_P (dC, dI) classes [(b0, .inr (4, [.ref h0, .int cl, .int be, .int co, .int le, .int ro, .int sa, .int ks, .ref b1, .ref b2])), (b1, .inl (c1, nl, .inl nx))] s.heap := hP
  have hK : va_K (dC, dI) classes [(c1, .int)] s := hK
  have hl := lv_entry ([.ref b0, .int p1]) (n := 2) (Nat.le_of_ble_eq_true rfl)
  rw [lg_entry_eq]
  generalize (lg_sl ([.ref b0, .int p1]) ++ List.replicate (2 - (lg_sl ([.ref b0, .int p1])).length) Slot.unset).toArray = ls at hl ⊢
  have hl : lv_has ls 2 [(0, .ref b0), (1, .int p1)] := hl
  refine lv_iload_n hx hb d_Tb_hasCluster_0 rfl (lv_at hl 1 rfl) ?_
  refine lv_iconst (v := 2) hx hb d_Tb_hasCluster_1 (by decide) ?_
  refine lv_icmp_lt (tgt := 28) hx hb d_Tb_hasCluster_2 (by decide) (fun c_1 => ?_) (fun c_1 => ?_)
  · refine lv_iconst (v := 0) hx hb d_Tb_hasCluster_28 (by decide) ?_
    exact W.zret (v := 0) hx hb hr rfl (fun t ht hW => ⟨⟨0, (), rfl, by rw [tb_has, if_pos c_1], by rw [ht]; exact hP, va_K.moved hW.alike hK, hD⟩, hS.F ht⟩) hS.2.2 d_Tb_hasCluster_29
  · refine lv_iload_n hx hb d_Tb_hasCluster_5 rfl (lv_at hl 1 rfl) ?_
    refine lv_aload_n hx hb d_Tb_hasCluster_6 rfl (lv_at hl 0 rfl) ?_
    refine va_get (D := (dC, dI)) (ci := 4) (v := .int ks) (C := R_Tb) (T := F_Tb) (N := 10) hx hb hts i_Tb hown hK hP 0 rfl rfl 7 (by decide) (hts _ (k_Tb_13)) (fun _ h9 => h9) rfl d_Tb_hasCluster_7 ?_
    refine lv_iconst (v := 2) hx hb d_Tb_hasCluster_10 (by decide) ?_
    refine lv_iadd hx hb d_Tb_hasCluster_11 ?_
    refine lv_icmp_ge (tgt := 28) hx hb d_Tb_hasCluster_12 (by decide) (fun c_2 => ?_) (fun c_2 => ?_)
    · refine lv_iconst (v := 0) hx hb d_Tb_hasCluster_28 (by decide) ?_
      exact W.zret (v := 0) hx hb hr rfl (fun t ht hW => ⟨⟨0, (), rfl, by rw [tb_has, if_neg c_1, if_pos c_2], by rw [ht]; exact hP, va_K.moved hW.alike hK, hD⟩, hS.F ht⟩) hS.2.2 d_Tb_hasCluster_29
    · refine lv_iload_n hx hb d_Tb_hasCluster_15 rfl (lv_at hl 1 rfl) ?_
      refine lv_aload_n hx hb d_Tb_hasCluster_16 rfl (lv_at hl 0 rfl) ?_
      refine va_get (D := (dC, dI)) (ci := 4) (v := .ref b1) (C := R_Tb) (T := F_Tb) (N := 10) hx hb hts i_Tb hown hK hP 0 rfl rfl 8 (by decide) (hts _ (k_Tb_14)) (fun _ h9 => h9) rfl d_Tb_hasCluster_17 ?_
      refine va_alen (v := nI nl) hx hb hK hP 1 0 rfl rfl rfl d_Tb_hasCluster_20 ?_
      refine lv_icmp_ge (tgt := 28) hx hb d_Tb_hasCluster_21 (by decide) (fun c_3 => ?_) (fun c_3 => ?_)
      · refine lv_iconst (v := 0) hx hb d_Tb_hasCluster_28 (by decide) ?_
        exact W.zret (v := 0) hx hb hr rfl (fun t ht hW => ⟨⟨0, (), rfl, by rw [tb_has, if_neg c_1, if_neg c_2, if_pos c_3], by rw [ht]; exact hP, va_K.moved hW.alike hK, hD⟩, hS.F ht⟩) hS.2.2 d_Tb_hasCluster_29
      · refine lv_iconst (v := 1) hx hb d_Tb_hasCluster_24 (by decide) ?_
        refine lv_goto (tgt := 29) hx hb d_Tb_hasCluster_25 (by decide) ?_
        exact W.zret (v := 1) hx hb hr rfl (fun t ht hW => ⟨⟨1, (), rfl, by rw [tb_has, if_neg c_1, if_neg c_2, if_neg c_3], by rw [ht]; exact hP, va_K.moved hW.alike hK, hD⟩, hS.F ht⟩) hS.2.2 d_Tb_hasCluster_29
def tb_next (ks : Int32) (nl : Nat) (nx : Nat → Int32) (p1 : Int32) : Int32 := if p1 < 2 then (0) else if (ks + 2) ≤ p1 then (0) else if (nI nl) ≤ p1 then (0) else (nx p1.toNatClampNeg)
set_option maxHeartbeats 4000000 in
set_option maxRecDepth 100000 in
theorem c_Tb_nextOf (l : Launch) (dC : Nat → ClassId) (dI : Nat → Nat → Nat) (b0 b1 b2 h0 sz : Nat) (cl be co le ro sa ks : Int32) (c1 : ClassId) (nl : Nat) (nx : Nat → Int32) (hnl : nl < 2 ^ 31) (p1 : Int32) : Met l y_Tb_nextOf (.code y_Tb_nextOf b_Tb_nextOf 2 (some .int) :: V_Tb) ({ frames := 0, cells := 0, slots := 0, locals := 0 }) (va_Pc [.ref b0, .int p1] (fun U => U.heap.size = sz ∧ at_ (dC, dI) (fun _ => True) [(b0, .inr (4, [.ref h0, .int cl, .int be, .int co, .int le, .int ro, .int sa, .int ks, .ref b1, .ref b2])), (b1, .inl (c1, nl, .inl nx))] [(c1, .int)] U)) (va_Qi (fun (r : Int32) (u : Unit) => r = tb_next ks nl nx p1) (fun (u : Unit) t => at_ (dC, dI) (va_A [(b0, .inr (4, [.ref h0, .int cl, .int be, .int co, .int le, .int ro, .int sa, .int ks, .ref b1, .ref b2])), (b1, .inl (c1, nl, .inl nx))] sz) [(b0, .inr (4, [.ref h0, .int cl, .int be, .int co, .int le, .int ro, .int sa, .int ks, .ref b1, .ref b2])), (b1, .inl (c1, nl, .inl nx))] [(c1, .int)] t) (va_A [(b0, .inr (4, [.ref h0, .int cl, .int be, .int co, .int le, .int ro, .int sa, .int ks, .ref b1, .ref b2])), (b1, .inl (c1, nl, .inl nx))] sz)) 0 0 (va_A [(b0, .inr (4, [.ref h0, .int cl, .int be, .int co, .int le, .int ro, .int sa, .int ks, .ref b1, .ref b2])), (b1, .inl (c1, nl, .inl nx))] sz) := by
  refine Met.ofW (cc := b_Tb_nextOf) (maxL := 2) (ret := (some .int)) (by decide) rfl ?_
  intro p e s m args below meth c s₁ B hml hv
  obtain ⟨rfl, hsz, hP, hK, hD0⟩ := hv
  have hx := B.exec
  have hb := B.bytes
  have hr := B.returns
  have hts0 := atoms_spec (ws := .code y_Tb_nextOf b_Tb_nextOf 2 (some .int) :: V_Tb) B.pre
  have hts : ∀ w ∈ V_Tb, w.before ([.ref b0, .int p1] : List Value).toArray s = true := fun w h => hts0 w (List.mem_cons_of_mem _ h)
  have hown : s.vm.findClass R_Tb = some m.cls := findClass_of_methodNamed B.named
  have hlocks := B.notSynchronized
  subst hsz
  have hD := hD0.self (sz := s.heap.size)
  generalize hAe : va_A [(b0, .inr (4, [.ref h0, .int cl, .int be, .int co, .int le, .int ro, .int sa, .int ks, .ref b1, .ref b2])), (b1, .inl (c1, nl, .inl nx))] s.heap.size = A at hD ⊢
  have hA : ∀ q : Nat, s.heap.size ≤ q → A q := fun q h => by rw [← hAe]; exact Or.inr h
  have hS : va_S A s.heap s.heap [] := va_S.rf
  have hP : va_P (dC, dI) classes [(b0, .inr (4, [.ref h0, .int cl, .int be, .int co, .int le, .int ro, .int sa, .int ks, .ref b1, .ref b2])), (b1, .inl (c1, nl, .inl nx))] s.heap := hP
  have hK : va_K (dC, dI) classes [(c1, .int)] s := hK
  have hl := lv_entry ([.ref b0, .int p1]) (n := 2) (Nat.le_of_ble_eq_true rfl)
  rw [lg_entry_eq]
  generalize (lg_sl ([.ref b0, .int p1]) ++ List.replicate (2 - (lg_sl ([.ref b0, .int p1])).length) Slot.unset).toArray = ls at hl ⊢
  have hl : lv_has ls 2 [(0, .ref b0), (1, .int p1)] := hl
  refine lv_iload_n hx hb d_Tb_nextOf_0 rfl (lv_at hl 1 rfl) ?_
  refine lv_iconst (v := 2) hx hb d_Tb_nextOf_1 (by decide) ?_
  refine lv_icmp_lt (tgt := 33) hx hb d_Tb_nextOf_2 (by decide) (fun c_1 => ?_) (fun c_1 => ?_)
  · refine lv_iconst (v := 0) hx hb d_Tb_nextOf_33 (by decide) ?_
    exact W.iret (v := 0) hx hb hr (fun t ht hW => ⟨⟨0, (), rfl, by rw [tb_next, if_pos c_1], by rw [ht]; exact hP, va_K.moved hW.alike hK, hD⟩, hS.F ht⟩) hS.2.2 d_Tb_nextOf_34
  · refine lv_iload_n hx hb d_Tb_nextOf_5 rfl (lv_at hl 1 rfl) ?_
    refine lv_aload_n hx hb d_Tb_nextOf_6 rfl (lv_at hl 0 rfl) ?_
    refine va_get (D := (dC, dI)) (ci := 4) (v := .int ks) (C := R_Tb) (T := F_Tb) (N := 10) hx hb hts i_Tb hown hK hP 0 rfl rfl 7 (by decide) (hts _ (k_Tb_13)) (fun _ h9 => h9) rfl d_Tb_nextOf_7 ?_
    refine lv_iconst (v := 2) hx hb d_Tb_nextOf_10 (by decide) ?_
    refine lv_iadd hx hb d_Tb_nextOf_11 ?_
    refine lv_icmp_ge (tgt := 33) hx hb d_Tb_nextOf_12 (by decide) (fun c_2 => ?_) (fun c_2 => ?_)
    · refine lv_iconst (v := 0) hx hb d_Tb_nextOf_33 (by decide) ?_
      exact W.iret (v := 0) hx hb hr (fun t ht hW => ⟨⟨0, (), rfl, by rw [tb_next, if_neg c_1, if_pos c_2], by rw [ht]; exact hP, va_K.moved hW.alike hK, hD⟩, hS.F ht⟩) hS.2.2 d_Tb_nextOf_34
    · refine lv_iload_n hx hb d_Tb_nextOf_15 rfl (lv_at hl 1 rfl) ?_
      refine lv_aload_n hx hb d_Tb_nextOf_16 rfl (lv_at hl 0 rfl) ?_
      refine va_get (D := (dC, dI)) (ci := 4) (v := .ref b1) (C := R_Tb) (T := F_Tb) (N := 10) hx hb hts i_Tb hown hK hP 0 rfl rfl 8 (by decide) (hts _ (k_Tb_14)) (fun _ h9 => h9) rfl d_Tb_nextOf_17 ?_
      refine va_alen (v := nI nl) hx hb hK hP 1 0 rfl rfl rfl d_Tb_nextOf_20 ?_
      refine lv_icmp_ge (tgt := 33) hx hb d_Tb_nextOf_21 (by decide) (fun c_3 => ?_) (fun c_3 => ?_)
      · refine lv_iconst (v := 0) hx hb d_Tb_nextOf_33 (by decide) ?_
        exact W.iret (v := 0) hx hb hr (fun t ht hW => ⟨⟨0, (), rfl, by rw [tb_next, if_neg c_1, if_neg c_2, if_pos c_3], by rw [ht]; exact hP, va_K.moved hW.alike hK, hD⟩, hS.F ht⟩) hS.2.2 d_Tb_nextOf_34
      · refine lv_aload_n hx hb d_Tb_nextOf_24 rfl (lv_at hl 0 rfl) ?_
        refine va_get (D := (dC, dI)) (ci := 4) (v := .ref b1) (C := R_Tb) (T := F_Tb) (N := 10) hx hb hts i_Tb hown hK hP 0 rfl rfl 8 (by decide) (hts _ (k_Tb_14)) (fun _ h9 => h9) rfl d_Tb_nextOf_25 ?_
        refine lv_iload_n hx hb d_Tb_nextOf_28 rfl (lv_at hl 1 rfl) ?_
        refine va_iald hx hb hK hP 1 0 rfl rfl (in_of3 c_1 c_3 hnl) d_Tb_nextOf_29 ?_
        refine lv_goto (tgt := 34) hx hb d_Tb_nextOf_30 (by decide) ?_
        exact W.iret (v := (nx p1.toNatClampNeg)) hx hb hr (fun t ht hW => ⟨⟨(nx p1.toNatClampNeg), (), rfl, by rw [tb_next, if_neg c_1, if_neg c_2, if_neg c_3], by rw [ht]; exact hP, va_K.moved hW.alike hK, hD⟩, hS.F ht⟩) hS.2.2 d_Tb_nextOf_34
def tb_free (ks : Int32) (nl : Nat) (nx : Nat → Int32) (p1 : Int32) : Int32 := if p1 < 2 then (0) else if (ks + 2) ≤ p1 then (0) else if (nI nl) ≤ p1 then (0) else if (nx p1.toNatClampNeg) = 0 then (1) else (0)
set_option maxHeartbeats 4000000 in
set_option maxRecDepth 100000 in
theorem c_Tb_isFree (l : Launch) (dC : Nat → ClassId) (dI : Nat → Nat → Nat) (b0 b1 b2 h0 sz : Nat) (cl be co le ro sa ks : Int32) (c1 : ClassId) (nl : Nat) (nx : Nat → Int32) (hnl : nl < 2 ^ 31) (p1 : Int32) : Met l y_Tb_isFree (.code y_Tb_isFree b_Tb_isFree 2 (some .boolean) :: V_Tb) ({ frames := 0, cells := 0, slots := 0, locals := 0 }) (va_Pc [.ref b0, .int p1] (fun U => U.heap.size = sz ∧ at_ (dC, dI) (fun _ => True) [(b0, .inr (4, [.ref h0, .int cl, .int be, .int co, .int le, .int ro, .int sa, .int ks, .ref b1, .ref b2])), (b1, .inl (c1, nl, .inl nx))] [(c1, .int)] U)) (va_Qi (fun (r : Int32) (u : Unit) => r = tb_free ks nl nx p1) (fun (u : Unit) t => at_ (dC, dI) (va_A [(b0, .inr (4, [.ref h0, .int cl, .int be, .int co, .int le, .int ro, .int sa, .int ks, .ref b1, .ref b2])), (b1, .inl (c1, nl, .inl nx))] sz) [(b0, .inr (4, [.ref h0, .int cl, .int be, .int co, .int le, .int ro, .int sa, .int ks, .ref b1, .ref b2])), (b1, .inl (c1, nl, .inl nx))] [(c1, .int)] t) (va_A [(b0, .inr (4, [.ref h0, .int cl, .int be, .int co, .int le, .int ro, .int sa, .int ks, .ref b1, .ref b2])), (b1, .inl (c1, nl, .inl nx))] sz)) 0 0 (va_A [(b0, .inr (4, [.ref h0, .int cl, .int be, .int co, .int le, .int ro, .int sa, .int ks, .ref b1, .ref b2])), (b1, .inl (c1, nl, .inl nx))] sz) := by
  refine Met.ofW (cc := b_Tb_isFree) (maxL := 2) (ret := (some .boolean)) (by decide) rfl ?_
  intro p e s m args below meth c s₁ B hml hv
  obtain ⟨rfl, hsz, hP, hK, hD0⟩ := hv
  have hx := B.exec
  have hb := B.bytes
  have hr := B.returns
  have hts0 := atoms_spec (ws := .code y_Tb_isFree b_Tb_isFree 2 (some .boolean) :: V_Tb) B.pre
  have hts : ∀ w ∈ V_Tb, w.before ([.ref b0, .int p1] : List Value).toArray s = true := fun w h => hts0 w (List.mem_cons_of_mem _ h)
  have hown : s.vm.findClass R_Tb = some m.cls := findClass_of_methodNamed B.named
  have hlocks := B.notSynchronized
  subst hsz
  have hD := hD0.self (sz := s.heap.size)
  generalize hAe : va_A [(b0, .inr (4, [.ref h0, .int cl, .int be, .int co, .int le, .int ro, .int sa, .int ks, .ref b1, .ref b2])), (b1, .inl (c1, nl, .inl nx))] s.heap.size = A at hD ⊢
  have hA : ∀ q : Nat, s.heap.size ≤ q → A q := fun q h => by rw [← hAe]; exact Or.inr h
  have hS : va_S A s.heap s.heap [] := va_S.rf
  have hP : va_P (dC, dI) classes [(b0, .inr (4, [.ref h0, .int cl, .int be, .int co, .int le, .int ro, .int sa, .int ks, .ref b1, .ref b2])), (b1, .inl (c1, nl, .inl nx))] s.heap := hP
  have hK : va_K (dC, dI) classes [(c1, .int)] s := hK
  have hl := lv_entry ([.ref b0, .int p1]) (n := 2) (Nat.le_of_ble_eq_true rfl)
  rw [lg_entry_eq]
  generalize (lg_sl ([.ref b0, .int p1]) ++ List.replicate (2 - (lg_sl ([.ref b0, .int p1])).length) Slot.unset).toArray = ls at hl ⊢
  have hl : lv_has ls 2 [(0, .ref b0), (1, .int p1)] := hl
  refine lv_iload_n hx hb d_Tb_isFree_0 rfl (lv_at hl 1 rfl) ?_
  refine lv_iconst (v := 2) hx hb d_Tb_isFree_1 (by decide) ?_
  refine lv_icmp_lt (tgt := 37) hx hb d_Tb_isFree_2 (by decide) (fun c_1 => ?_) (fun c_1 => ?_)
  · refine lv_iconst (v := 0) hx hb d_Tb_isFree_37 (by decide) ?_
    exact W.zret (v := 0) hx hb hr rfl (fun t ht hW => ⟨⟨0, (), rfl, by rw [tb_free, if_pos c_1], by rw [ht]; exact hP, va_K.moved hW.alike hK, hD⟩, hS.F ht⟩) hS.2.2 d_Tb_isFree_38
  · refine lv_iload_n hx hb d_Tb_isFree_5 rfl (lv_at hl 1 rfl) ?_
    refine lv_aload_n hx hb d_Tb_isFree_6 rfl (lv_at hl 0 rfl) ?_
    refine va_get (D := (dC, dI)) (ci := 4) (v := .int ks) (C := R_Tb) (T := F_Tb) (N := 10) hx hb hts i_Tb hown hK hP 0 rfl rfl 7 (by decide) (hts _ (k_Tb_13)) (fun _ h9 => h9) rfl d_Tb_isFree_7 ?_
    refine lv_iconst (v := 2) hx hb d_Tb_isFree_10 (by decide) ?_
    refine lv_iadd hx hb d_Tb_isFree_11 ?_
    refine lv_icmp_ge (tgt := 37) hx hb d_Tb_isFree_12 (by decide) (fun c_2 => ?_) (fun c_2 => ?_)
    · refine lv_iconst (v := 0) hx hb d_Tb_isFree_37 (by decide) ?_
      exact W.zret (v := 0) hx hb hr rfl (fun t ht hW => ⟨⟨0, (), rfl, by rw [tb_free, if_neg c_1, if_pos c_2], by rw [ht]; exact hP, va_K.moved hW.alike hK, hD⟩, hS.F ht⟩) hS.2.2 d_Tb_isFree_38
    · refine lv_iload_n hx hb d_Tb_isFree_15 rfl (lv_at hl 1 rfl) ?_
      refine lv_aload_n hx hb d_Tb_isFree_16 rfl (lv_at hl 0 rfl) ?_
      refine va_get (D := (dC, dI)) (ci := 4) (v := .ref b1) (C := R_Tb) (T := F_Tb) (N := 10) hx hb hts i_Tb hown hK hP 0 rfl rfl 8 (by decide) (hts _ (k_Tb_14)) (fun _ h9 => h9) rfl d_Tb_isFree_17 ?_
      refine va_alen (v := nI nl) hx hb hK hP 1 0 rfl rfl rfl d_Tb_isFree_20 ?_
      refine lv_icmp_ge (tgt := 37) hx hb d_Tb_isFree_21 (by decide) (fun c_3 => ?_) (fun c_3 => ?_)
      · refine lv_iconst (v := 0) hx hb d_Tb_isFree_37 (by decide) ?_
        exact W.zret (v := 0) hx hb hr rfl (fun t ht hW => ⟨⟨0, (), rfl, by rw [tb_free, if_neg c_1, if_neg c_2, if_pos c_3], by rw [ht]; exact hP, va_K.moved hW.alike hK, hD⟩, hS.F ht⟩) hS.2.2 d_Tb_isFree_38
      · refine lv_aload_n hx hb d_Tb_isFree_24 rfl (lv_at hl 0 rfl) ?_
        refine va_get (D := (dC, dI)) (ci := 4) (v := .ref b1) (C := R_Tb) (T := F_Tb) (N := 10) hx hb hts i_Tb hown hK hP 0 rfl rfl 8 (by decide) (hts _ (k_Tb_14)) (fun _ h9 => h9) rfl d_Tb_isFree_25 ?_
        refine lv_iload_n hx hb d_Tb_isFree_28 rfl (lv_at hl 1 rfl) ?_
        refine va_iald hx hb hK hP 1 0 rfl rfl (in_of3 c_1 c_3 hnl) d_Tb_isFree_29 ?_
        refine lv_if_ne (tgt := 37) hx hb d_Tb_isFree_30 (by decide) (fun c_4 => ?_) (fun c_4 => ?_)
        · refine lv_iconst (v := 0) hx hb d_Tb_isFree_37 (by decide) ?_
          exact W.zret (v := 0) hx hb hr rfl (fun t ht hW => ⟨⟨0, (), rfl, by rw [tb_free, if_neg c_1, if_neg c_2, if_neg c_3, if_neg c_4], by rw [ht]; exact hP, va_K.moved hW.alike hK, hD⟩, hS.F ht⟩) hS.2.2 d_Tb_isFree_38
        · refine lv_iconst (v := 1) hx hb d_Tb_isFree_33 (by decide) ?_
          refine lv_goto (tgt := 38) hx hb d_Tb_isFree_34 (by decide) ?_
          exact W.zret (v := 1) hx hb hr rfl (fun t ht hW => ⟨⟨1, (), rfl, by rw [tb_free, if_neg c_1, if_neg c_2, if_neg c_3, if_pos c_4], by rw [ht]; exact hP, va_K.moved hW.alike hK, hD⟩, hS.F ht⟩) hS.2.2 d_Tb_isFree_38
def tb_goal (gn : Nat) (gl : Nat → Int32) (p1 : Int32) : Int32 := if p1 < 0 then (0) else if (nI gn) ≤ p1 then (0) else (gl p1.toNatClampNeg)
set_option maxHeartbeats 4000000 in
set_option maxRecDepth 100000 in
theorem c_Tb_goalOf (l : Launch) (dC : Nat → ClassId) (dI : Nat → Nat → Nat) (b0 b1 b2 h0 sz : Nat) (cl be co le ro sa ks : Int32) (c2 : ClassId) (gn : Nat) (gl : Nat → Int32) (hgn : gn < 2 ^ 31) (p1 : Int32) : Met l y_Tb_goalOf (.code y_Tb_goalOf b_Tb_goalOf 2 (some .int) :: V_Tb) ({ frames := 0, cells := 0, slots := 0, locals := 0 }) (va_Pc [.ref b0, .int p1] (fun U => U.heap.size = sz ∧ at_ (dC, dI) (fun _ => True) [(b0, .inr (4, [.ref h0, .int cl, .int be, .int co, .int le, .int ro, .int sa, .int ks, .ref b1, .ref b2])), (b2, .inl (c2, gn, .inl gl))] [(c2, .int)] U)) (va_Qi (fun (r : Int32) (u : Unit) => r = tb_goal gn gl p1) (fun (u : Unit) t => at_ (dC, dI) (va_A [(b0, .inr (4, [.ref h0, .int cl, .int be, .int co, .int le, .int ro, .int sa, .int ks, .ref b1, .ref b2])), (b2, .inl (c2, gn, .inl gl))] sz) [(b0, .inr (4, [.ref h0, .int cl, .int be, .int co, .int le, .int ro, .int sa, .int ks, .ref b1, .ref b2])), (b2, .inl (c2, gn, .inl gl))] [(c2, .int)] t) (va_A [(b0, .inr (4, [.ref h0, .int cl, .int be, .int co, .int le, .int ro, .int sa, .int ks, .ref b1, .ref b2])), (b2, .inl (c2, gn, .inl gl))] sz)) 0 0 (va_A [(b0, .inr (4, [.ref h0, .int cl, .int be, .int co, .int le, .int ro, .int sa, .int ks, .ref b1, .ref b2])), (b2, .inl (c2, gn, .inl gl))] sz) := by
  refine Met.ofW (cc := b_Tb_goalOf) (maxL := 2) (ret := (some .int)) (by decide) rfl ?_
  intro p e s m args below meth c s₁ B hml hv
  obtain ⟨rfl, hsz, hP, hK, hD0⟩ := hv
  have hx := B.exec
  have hb := B.bytes
  have hr := B.returns
  have hts0 := atoms_spec (ws := .code y_Tb_goalOf b_Tb_goalOf 2 (some .int) :: V_Tb) B.pre
  have hts : ∀ w ∈ V_Tb, w.before ([.ref b0, .int p1] : List Value).toArray s = true := fun w h => hts0 w (List.mem_cons_of_mem _ h)
  have hown : s.vm.findClass R_Tb = some m.cls := findClass_of_methodNamed B.named
  have hlocks := B.notSynchronized
  subst hsz
  have hD := hD0.self (sz := s.heap.size)
  generalize hAe : va_A [(b0, .inr (4, [.ref h0, .int cl, .int be, .int co, .int le, .int ro, .int sa, .int ks, .ref b1, .ref b2])), (b2, .inl (c2, gn, .inl gl))] s.heap.size = A at hD ⊢
  have hA : ∀ q : Nat, s.heap.size ≤ q → A q := fun q h => by rw [← hAe]; exact Or.inr h
  have hS : va_S A s.heap s.heap [] := va_S.rf
  have hP : va_P (dC, dI) classes [(b0, .inr (4, [.ref h0, .int cl, .int be, .int co, .int le, .int ro, .int sa, .int ks, .ref b1, .ref b2])), (b2, .inl (c2, gn, .inl gl))] s.heap := hP
  have hK : va_K (dC, dI) classes [(c2, .int)] s := hK
  have hl := lv_entry ([.ref b0, .int p1]) (n := 2) (Nat.le_of_ble_eq_true rfl)
  rw [lg_entry_eq]
  generalize (lg_sl ([.ref b0, .int p1]) ++ List.replicate (2 - (lg_sl ([.ref b0, .int p1])).length) Slot.unset).toArray = ls at hl ⊢
  have hl : lv_has ls 2 [(0, .ref b0), (1, .int p1)] := hl
  refine lv_iload_n hx hb d_Tb_goalOf_0 rfl (lv_at hl 1 rfl) ?_
  refine lv_if_lt (tgt := 22) hx hb d_Tb_goalOf_1 (by decide) (fun c_1 => ?_) (fun c_1 => ?_)
  · refine lv_iconst (v := 0) hx hb d_Tb_goalOf_22 (by decide) ?_
    exact W.iret (v := 0) hx hb hr (fun t ht hW => ⟨⟨0, (), rfl, by rw [tb_goal, if_pos c_1], by rw [ht]; exact hP, va_K.moved hW.alike hK, hD⟩, hS.F ht⟩) hS.2.2 d_Tb_goalOf_23
  · refine lv_iload_n hx hb d_Tb_goalOf_4 rfl (lv_at hl 1 rfl) ?_
    refine lv_aload_n hx hb d_Tb_goalOf_5 rfl (lv_at hl 0 rfl) ?_
    refine va_get (D := (dC, dI)) (ci := 4) (v := .ref b2) (C := R_Tb) (T := F_Tb) (N := 10) hx hb hts i_Tb hown hK hP 0 rfl rfl 9 (by decide) (hts _ (k_Tb_15)) (fun _ h9 => h9) rfl d_Tb_goalOf_6 ?_
    refine va_alen (v := nI gn) hx hb hK hP 1 0 rfl rfl rfl d_Tb_goalOf_9 ?_
    refine lv_icmp_ge (tgt := 22) hx hb d_Tb_goalOf_10 (by decide) (fun c_2 => ?_) (fun c_2 => ?_)
    · refine lv_iconst (v := 0) hx hb d_Tb_goalOf_22 (by decide) ?_
      exact W.iret (v := 0) hx hb hr (fun t ht hW => ⟨⟨0, (), rfl, by rw [tb_goal, if_neg c_1, if_pos c_2], by rw [ht]; exact hP, va_K.moved hW.alike hK, hD⟩, hS.F ht⟩) hS.2.2 d_Tb_goalOf_23
    · refine lv_aload_n hx hb d_Tb_goalOf_13 rfl (lv_at hl 0 rfl) ?_
      refine va_get (D := (dC, dI)) (ci := 4) (v := .ref b2) (C := R_Tb) (T := F_Tb) (N := 10) hx hb hts i_Tb hown hK hP 0 rfl rfl 9 (by decide) (hts _ (k_Tb_15)) (fun _ h9 => h9) rfl d_Tb_goalOf_14 ?_
      refine lv_iload_n hx hb d_Tb_goalOf_17 rfl (lv_at hl 1 rfl) ?_
      refine va_iald hx hb hK hP 1 0 rfl rfl (in_of c_1 c_2 hgn) d_Tb_goalOf_18 ?_
      refine lv_goto (tgt := 23) hx hb d_Tb_goalOf_19 (by decide) ?_
      exact W.iret (v := (gl p1.toNatClampNeg)) hx hb hr (fun t ht hW => ⟨⟨(gl p1.toNatClampNeg), (), rfl, by rw [tb_goal, if_neg c_1, if_neg c_2], by rw [ht]; exact hP, va_K.moved hW.alike hK, hD⟩, hS.F ht⟩) hS.2.2 d_Tb_goalOf_23
def tb_cb (cl : Int32) : Int32 := (cl * 512)
set_option maxHeartbeats 4000000 in
set_option maxRecDepth 100000 in
theorem c_Tb_clusterBytes (l : Launch) (dC : Nat → ClassId) (dI : Nat → Nat → Nat) (b0 b1 b2 h0 sz : Nat) (cl be co le ro sa ks : Int32) : Met l y_Tb_clusterBytes (.code y_Tb_clusterBytes b_Tb_clusterBytes 1 (some .int) :: V_Tb) ({ frames := 0, cells := 0, slots := 0, locals := 0 }) (va_Pc [.ref b0] (fun U => U.heap.size = sz ∧ at_ (dC, dI) (fun _ => True) [(b0, .inr (4, [.ref h0, .int cl, .int be, .int co, .int le, .int ro, .int sa, .int ks, .ref b1, .ref b2]))] [] U)) (va_Qi (fun (r : Int32) (u : Unit) => r = tb_cb cl) (fun (u : Unit) t => at_ (dC, dI) (va_A [(b0, .inr (4, [.ref h0, .int cl, .int be, .int co, .int le, .int ro, .int sa, .int ks, .ref b1, .ref b2]))] sz) [(b0, .inr (4, [.ref h0, .int cl, .int be, .int co, .int le, .int ro, .int sa, .int ks, .ref b1, .ref b2]))] [] t) (va_A [(b0, .inr (4, [.ref h0, .int cl, .int be, .int co, .int le, .int ro, .int sa, .int ks, .ref b1, .ref b2]))] sz)) 0 0 (va_A [(b0, .inr (4, [.ref h0, .int cl, .int be, .int co, .int le, .int ro, .int sa, .int ks, .ref b1, .ref b2]))] sz) := by
  refine Met.ofW (cc := b_Tb_clusterBytes) (maxL := 1) (ret := (some .int)) (by decide) rfl ?_
  intro p e s m args below meth c s₁ B hml hv
  obtain ⟨rfl, hsz, hP, hK, hD0⟩ := hv
  have hx := B.exec
  have hb := B.bytes
  have hr := B.returns
  have hts0 := atoms_spec (ws := .code y_Tb_clusterBytes b_Tb_clusterBytes 1 (some .int) :: V_Tb) B.pre
  have hts : ∀ w ∈ V_Tb, w.before ([.ref b0] : List Value).toArray s = true := fun w h => hts0 w (List.mem_cons_of_mem _ h)
  have hown : s.vm.findClass R_Tb = some m.cls := findClass_of_methodNamed B.named
  have hlocks := B.notSynchronized
  subst hsz
  have hD := hD0.self (sz := s.heap.size)
  generalize hAe : va_A [(b0, .inr (4, [.ref h0, .int cl, .int be, .int co, .int le, .int ro, .int sa, .int ks, .ref b1, .ref b2]))] s.heap.size = A at hD ⊢
  have hA : ∀ q : Nat, s.heap.size ≤ q → A q := fun q h => by rw [← hAe]; exact Or.inr h
  have hS : va_S A s.heap s.heap [] := va_S.rf
  have hP : va_P (dC, dI) classes [(b0, .inr (4, [.ref h0, .int cl, .int be, .int co, .int le, .int ro, .int sa, .int ks, .ref b1, .ref b2]))] s.heap := hP
  have hK : va_K (dC, dI) classes [] s := hK
  have hl := lv_entry ([.ref b0]) (n := 1) (Nat.le_of_ble_eq_true rfl)
  rw [lg_entry_eq]
  generalize (lg_sl ([.ref b0]) ++ List.replicate (1 - (lg_sl ([.ref b0])).length) Slot.unset).toArray = ls at hl ⊢
  have hl : lv_has ls 1 [(0, .ref b0)] := hl
  refine lv_aload_n hx hb d_Tb_clusterBytes_0 rfl (lv_at hl 0 rfl) ?_
  refine va_get (D := (dC, dI)) (ci := 4) (v := .int cl) (C := R_Tb) (T := F_Tb) (N := 10) hx hb hts i_Tb hown hK hP 0 rfl rfl 1 (by decide) (hts _ (k_Tb_7)) (fun _ h9 => h9) rfl d_Tb_clusterBytes_1 ?_
  refine lv_sipush (v := 512) hx hb d_Tb_clusterBytes_4 (by decide) ?_
  refine lv_imul hx hb d_Tb_clusterBytes_7 ?_
  exact W.iret (v := (cl * 512)) hx hb hr (fun t ht hW => ⟨⟨(cl * 512), (), rfl, by rw [tb_cb], by rw [ht]; exact hP, va_K.moved hW.alike hK, hD⟩, hS.F ht⟩) hS.2.2 d_Tb_clusterBytes_8
def tb_sc (cl : Int32) : Int32 := (cl * 16)
set_option maxHeartbeats 4000000 in
set_option maxRecDepth 100000 in
theorem c_Tb_slotsOfCluster (l : Launch) (dC : Nat → ClassId) (dI : Nat → Nat → Nat) (b0 b1 b2 h0 sz : Nat) (cl be co le ro sa ks : Int32) : Met l y_Tb_slotsOfCluster (.code y_Tb_slotsOfCluster b_Tb_slotsOfCluster 1 (some .int) :: V_Tb) ({ frames := 0, cells := 0, slots := 0, locals := 0 }) (va_Pc [.ref b0] (fun U => U.heap.size = sz ∧ at_ (dC, dI) (fun _ => True) [(b0, .inr (4, [.ref h0, .int cl, .int be, .int co, .int le, .int ro, .int sa, .int ks, .ref b1, .ref b2]))] [] U)) (va_Qi (fun (r : Int32) (u : Unit) => r = tb_sc cl) (fun (u : Unit) t => at_ (dC, dI) (va_A [(b0, .inr (4, [.ref h0, .int cl, .int be, .int co, .int le, .int ro, .int sa, .int ks, .ref b1, .ref b2]))] sz) [(b0, .inr (4, [.ref h0, .int cl, .int be, .int co, .int le, .int ro, .int sa, .int ks, .ref b1, .ref b2]))] [] t) (va_A [(b0, .inr (4, [.ref h0, .int cl, .int be, .int co, .int le, .int ro, .int sa, .int ks, .ref b1, .ref b2]))] sz)) 0 0 (va_A [(b0, .inr (4, [.ref h0, .int cl, .int be, .int co, .int le, .int ro, .int sa, .int ks, .ref b1, .ref b2]))] sz) := by
  refine Met.ofW (cc := b_Tb_slotsOfCluster) (maxL := 1) (ret := (some .int)) (by decide) rfl ?_
  intro p e s m args below meth c s₁ B hml hv
  obtain ⟨rfl, hsz, hP, hK, hD0⟩ := hv
  have hx := B.exec
  have hb := B.bytes
  have hr := B.returns
  have hts0 := atoms_spec (ws := .code y_Tb_slotsOfCluster b_Tb_slotsOfCluster 1 (some .int) :: V_Tb) B.pre
  have hts : ∀ w ∈ V_Tb, w.before ([.ref b0] : List Value).toArray s = true := fun w h => hts0 w (List.mem_cons_of_mem _ h)
  have hown : s.vm.findClass R_Tb = some m.cls := findClass_of_methodNamed B.named
  have hlocks := B.notSynchronized
  subst hsz
  have hD := hD0.self (sz := s.heap.size)
  generalize hAe : va_A [(b0, .inr (4, [.ref h0, .int cl, .int be, .int co, .int le, .int ro, .int sa, .int ks, .ref b1, .ref b2]))] s.heap.size = A at hD ⊢
  have hA : ∀ q : Nat, s.heap.size ≤ q → A q := fun q h => by rw [← hAe]; exact Or.inr h
  have hS : va_S A s.heap s.heap [] := va_S.rf
  have hP : va_P (dC, dI) classes [(b0, .inr (4, [.ref h0, .int cl, .int be, .int co, .int le, .int ro, .int sa, .int ks, .ref b1, .ref b2]))] s.heap := hP
  have hK : va_K (dC, dI) classes [] s := hK
  have hl := lv_entry ([.ref b0]) (n := 1) (Nat.le_of_ble_eq_true rfl)
  rw [lg_entry_eq]
  generalize (lg_sl ([.ref b0]) ++ List.replicate (1 - (lg_sl ([.ref b0])).length) Slot.unset).toArray = ls at hl ⊢
  have hl : lv_has ls 1 [(0, .ref b0)] := hl
  refine lv_aload_n hx hb d_Tb_slotsOfCluster_0 rfl (lv_at hl 0 rfl) ?_
  refine va_get (D := (dC, dI)) (ci := 4) (v := .int cl) (C := R_Tb) (T := F_Tb) (N := 10) hx hb hts i_Tb hown hK hP 0 rfl rfl 1 (by decide) (hts _ (k_Tb_7)) (fun _ h9 => h9) rfl d_Tb_slotsOfCluster_1 ?_
  refine lv_bipush (v := 16) hx hb d_Tb_slotsOfCluster_4 (by decide) ?_
  refine lv_imul hx hb d_Tb_slotsOfCluster_6 ?_
  exact W.iret (v := (cl * 16)) hx hb hr (fun t ht hW => ⟨⟨(cl * 16), (), rfl, by rw [tb_sc], by rw [ht]; exact hP, va_K.moved hW.alike hK, hD⟩, hS.F ht⟩) hS.2.2 d_Tb_slotsOfCluster_7
def tb_pl (cl sa p1 : Int32) : Int32 := ((sa + ((p1 - 2) * cl)) * 512)
set_option maxHeartbeats 4000000 in
set_option maxRecDepth 100000 in
theorem c_Tb_place (l : Launch) (dC : Nat → ClassId) (dI : Nat → Nat → Nat) (b0 b1 b2 h0 sz : Nat) (cl be co le ro sa ks : Int32) (p1 : Int32) : Met l y_Tb_place (.code y_Tb_place b_Tb_place 2 (some .int) :: V_Tb) ({ frames := 0, cells := 0, slots := 0, locals := 0 }) (va_Pc [.ref b0, .int p1] (fun U => U.heap.size = sz ∧ at_ (dC, dI) (fun _ => True) [(b0, .inr (4, [.ref h0, .int cl, .int be, .int co, .int le, .int ro, .int sa, .int ks, .ref b1, .ref b2]))] [] U)) (va_Qi (fun (r : Int32) (u : Unit) => r = tb_pl cl sa p1) (fun (u : Unit) t => at_ (dC, dI) (va_A [(b0, .inr (4, [.ref h0, .int cl, .int be, .int co, .int le, .int ro, .int sa, .int ks, .ref b1, .ref b2]))] sz) [(b0, .inr (4, [.ref h0, .int cl, .int be, .int co, .int le, .int ro, .int sa, .int ks, .ref b1, .ref b2]))] [] t) (va_A [(b0, .inr (4, [.ref h0, .int cl, .int be, .int co, .int le, .int ro, .int sa, .int ks, .ref b1, .ref b2]))] sz)) 0 0 (va_A [(b0, .inr (4, [.ref h0, .int cl, .int be, .int co, .int le, .int ro, .int sa, .int ks, .ref b1, .ref b2]))] sz) := by
  refine Met.ofW (cc := b_Tb_place) (maxL := 2) (ret := (some .int)) (by decide) rfl ?_
  intro p e s m args below meth c s₁ B hml hv
  obtain ⟨rfl, hsz, hP, hK, hD0⟩ := hv
  have hx := B.exec
  have hb := B.bytes
  have hr := B.returns
  have hts0 := atoms_spec (ws := .code y_Tb_place b_Tb_place 2 (some .int) :: V_Tb) B.pre
  have hts : ∀ w ∈ V_Tb, w.before ([.ref b0, .int p1] : List Value).toArray s = true := fun w h => hts0 w (List.mem_cons_of_mem _ h)
  have hown : s.vm.findClass R_Tb = some m.cls := findClass_of_methodNamed B.named
  have hlocks := B.notSynchronized
  subst hsz
  have hD := hD0.self (sz := s.heap.size)
  generalize hAe : va_A [(b0, .inr (4, [.ref h0, .int cl, .int be, .int co, .int le, .int ro, .int sa, .int ks, .ref b1, .ref b2]))] s.heap.size = A at hD ⊢
  have hA : ∀ q : Nat, s.heap.size ≤ q → A q := fun q h => by rw [← hAe]; exact Or.inr h
  have hS : va_S A s.heap s.heap [] := va_S.rf
  have hP : va_P (dC, dI) classes [(b0, .inr (4, [.ref h0, .int cl, .int be, .int co, .int le, .int ro, .int sa, .int ks, .ref b1, .ref b2]))] s.heap := hP
  have hK : va_K (dC, dI) classes [] s := hK
  have hl := lv_entry ([.ref b0, .int p1]) (n := 2) (Nat.le_of_ble_eq_true rfl)
  rw [lg_entry_eq]
  generalize (lg_sl ([.ref b0, .int p1]) ++ List.replicate (2 - (lg_sl ([.ref b0, .int p1])).length) Slot.unset).toArray = ls at hl ⊢
  have hl : lv_has ls 2 [(0, .ref b0), (1, .int p1)] := hl
  refine lv_aload_n hx hb d_Tb_place_0 rfl (lv_at hl 0 rfl) ?_
  refine va_get (D := (dC, dI)) (ci := 4) (v := .int sa) (C := R_Tb) (T := F_Tb) (N := 10) hx hb hts i_Tb hown hK hP 0 rfl rfl 6 (by decide) (hts _ (k_Tb_12)) (fun _ h9 => h9) rfl d_Tb_place_1 ?_
  refine lv_iload_n hx hb d_Tb_place_4 rfl (lv_at hl 1 rfl) ?_
  refine lv_iconst (v := 2) hx hb d_Tb_place_5 (by decide) ?_
  refine lv_isub hx hb d_Tb_place_6 ?_
  refine lv_aload_n hx hb d_Tb_place_7 rfl (lv_at hl 0 rfl) ?_
  refine va_get (D := (dC, dI)) (ci := 4) (v := .int cl) (C := R_Tb) (T := F_Tb) (N := 10) hx hb hts i_Tb hown hK hP 0 rfl rfl 1 (by decide) (hts _ (k_Tb_7)) (fun _ h9 => h9) rfl d_Tb_place_8 ?_
  refine lv_imul hx hb d_Tb_place_11 ?_
  refine lv_iadd hx hb d_Tb_place_12 ?_
  refine lv_sipush (v := 512) hx hb d_Tb_place_13 (by decide) ?_
  refine lv_imul hx hb d_Tb_place_16 ?_
  exact W.iret (v := ((sa + ((p1 - 2) * cl)) * 512)) hx hb hr (fun t ht hW => ⟨⟨((sa + ((p1 - 2) * cl)) * 512), (), rfl, by rw [tb_pl], by rw [ht]; exact hP, va_K.moved hW.alike hK, hD⟩, hS.F ht⟩) hS.2.2 d_Tb_place_17
def tb_sg (gn : Nat) (gl : Nat → Int32) (p1 p2 : Int32) : Nat → Int32 := if p1 < 0 then gl else if nI gn ≤ p1 then gl else upd gl p1.toNatClampNeg p2
set_option maxHeartbeats 4000000 in
set_option maxRecDepth 100000 in
theorem c_Tb_setGoal (l : Launch) (dC : Nat → ClassId) (dI : Nat → Nat → Nat) (b0 b1 b2 h0 sz : Nat) (cl be co le ro sa ks : Int32) (c2 : ClassId) (gn : Nat) (gl : Nat → Int32) (hgn : gn < 2 ^ 31) (p1 p2 : Int32) : Met l y_Tb_setGoal (.code y_Tb_setGoal b_Tb_setGoal 3 none :: V_Tb) ({ frames := 0, cells := 0, slots := 0, locals := 0 }) (va_Pc [.ref b0, .int p1, .int p2] (fun U => U.heap.size = sz ∧ at_ (dC, dI) (fun _ => True) [(b0, .inr (4, [.ref h0, .int cl, .int be, .int co, .int le, .int ro, .int sa, .int ks, .ref b1, .ref b2])), (b2, .inl (c2, gn, .inl gl))] [(c2, .int)] U)) (va_Qv (fun u : Nat → Int32 => u = tb_sg gn gl p1 p2) (fun (u : Nat → Int32) t => at_ (dC, dI) (va_A [(b0, .inr (4, [.ref h0, .int cl, .int be, .int co, .int le, .int ro, .int sa, .int ks, .ref b1, .ref b2])), (b2, .inl (c2, gn, .inl gl))] sz) [(b0, .inr (4, [.ref h0, .int cl, .int be, .int co, .int le, .int ro, .int sa, .int ks, .ref b1, .ref b2])), (b2, .inl (c2, gn, .inl u))] [(c2, .int)] t) (va_A [(b0, .inr (4, [.ref h0, .int cl, .int be, .int co, .int le, .int ro, .int sa, .int ks, .ref b1, .ref b2])), (b2, .inl (c2, gn, .inl gl))] sz)) 0 0 (va_A [(b0, .inr (4, [.ref h0, .int cl, .int be, .int co, .int le, .int ro, .int sa, .int ks, .ref b1, .ref b2])), (b2, .inl (c2, gn, .inl gl))] sz) := by
  refine Met.ofW (cc := b_Tb_setGoal) (maxL := 3) (ret := none) (by decide) rfl ?_
  intro p e s m args below meth c s₁ B hml hv
  obtain ⟨rfl, hsz, hP, hK, hD0⟩ := hv
  have hx := B.exec
  have hb := B.bytes
  have hr := B.returns
  have hts0 := atoms_spec (ws := .code y_Tb_setGoal b_Tb_setGoal 3 none :: V_Tb) B.pre
  have hts : ∀ w ∈ V_Tb, w.before ([.ref b0, .int p1, .int p2] : List Value).toArray s = true := fun w h => hts0 w (List.mem_cons_of_mem _ h)
  have hown : s.vm.findClass R_Tb = some m.cls := findClass_of_methodNamed B.named
  have hlocks := B.notSynchronized
  subst hsz
  have hD := hD0.self (sz := s.heap.size)
  generalize hAe : va_A [(b0, .inr (4, [.ref h0, .int cl, .int be, .int co, .int le, .int ro, .int sa, .int ks, .ref b1, .ref b2])), (b2, .inl (c2, gn, .inl gl))] s.heap.size = A at hD ⊢
  have hA : ∀ q : Nat, s.heap.size ≤ q → A q := fun q h => by rw [← hAe]; exact Or.inr h
  have hS : va_S A s.heap s.heap [] := va_S.rf
  have hP : va_P (dC, dI) classes [(b0, .inr (4, [.ref h0, .int cl, .int be, .int co, .int le, .int ro, .int sa, .int ks, .ref b1, .ref b2])), (b2, .inl (c2, gn, .inl gl))] s.heap := hP
  have hK : va_K (dC, dI) classes [(c2, .int)] s := hK
  have hl := lv_entry ([.ref b0, .int p1, .int p2]) (n := 3) (Nat.le_of_ble_eq_true rfl)
  rw [lg_entry_eq]
  generalize (lg_sl ([.ref b0, .int p1, .int p2]) ++ List.replicate (3 - (lg_sl ([.ref b0, .int p1, .int p2])).length) Slot.unset).toArray = ls at hl ⊢
  have hl : lv_has ls 3 [(0, .ref b0), (1, .int p1), (2, .int p2)] := hl
  refine lv_iload_n hx hb d_Tb_setGoal_0 rfl (lv_at hl 1 rfl) ?_
  refine lv_if_lt (tgt := 20) hx hb d_Tb_setGoal_1 (by decide) (fun c_1 => ?_) (fun c_1 => ?_)
  · exact W.vret hx hb hr (fun t ht hW => ⟨⟨gl, rfl, by rw [tb_sg, if_pos c_1], by rw [ht]; exact hP, va_K.moved hW.alike hK, hD⟩, hS.F ht⟩) hS.2.2 d_Tb_setGoal_20
  · refine lv_iload_n hx hb d_Tb_setGoal_4 rfl (lv_at hl 1 rfl) ?_
    refine lv_aload_n hx hb d_Tb_setGoal_5 rfl (lv_at hl 0 rfl) ?_
    refine va_get (D := (dC, dI)) (ci := 4) (v := .ref b2) (C := R_Tb) (T := F_Tb) (N := 10) hx hb hts i_Tb hown hK hP 0 rfl rfl 9 (by decide) (hts _ (k_Tb_15)) (fun _ h9 => h9) rfl d_Tb_setGoal_6 ?_
    refine va_alen (v := nI gn) hx hb hK hP 1 0 rfl rfl rfl d_Tb_setGoal_9 ?_
    refine lv_icmp_ge (tgt := 20) hx hb d_Tb_setGoal_10 (by decide) (fun c_2 => ?_) (fun c_2 => ?_)
    · exact W.vret hx hb hr (fun t ht hW => ⟨⟨gl, rfl, by rw [tb_sg, if_neg c_1, if_pos c_2], by rw [ht]; exact hP, va_K.moved hW.alike hK, hD⟩, hS.F ht⟩) hS.2.2 d_Tb_setGoal_20
    · refine lv_aload_n hx hb d_Tb_setGoal_13 rfl (lv_at hl 0 rfl) ?_
      refine va_get (D := (dC, dI)) (ci := 4) (v := .ref b2) (C := R_Tb) (T := F_Tb) (N := 10) hx hb hts i_Tb hown hK hP 0 rfl rfl 9 (by decide) (hts _ (k_Tb_15)) (fun _ h9 => h9) rfl d_Tb_setGoal_14 ?_
      refine lv_iload_n hx hb d_Tb_setGoal_17 rfl (lv_at hl 1 rfl) ?_
      refine lv_iload_n hx hb d_Tb_setGoal_18 rfl (lv_at hl 2 rfl) ?_
      refine va_iast hx hb hK hP hD hS 1 0 rfl rfl (in_of c_1 c_2 hgn) d_Tb_setGoal_19 (fun H locs hP hD hS => ?_)
      have hP : va_P (dC, dI) classes [(b0, .inr (4, [.ref h0, .int cl, .int be, .int co, .int le, .int ro, .int sa, .int ks, .ref b1, .ref b2])), (b2, .inl (c2, gn, .inl (upd gl p1.toNatClampNeg p2)))] H := hP
      have hD : va_D A [(b0, .inr (4, [.ref h0, .int cl, .int be, .int co, .int le, .int ro, .int sa, .int ks, .ref b1, .ref b2])), (b2, .inl (c2, gn, .inl (upd gl p1.toNatClampNeg p2)))] := hD
      exact W.vret hx hb hr (fun t ht hW => ⟨⟨upd gl p1.toNatClampNeg p2, rfl, by rw [tb_sg, if_neg c_1, if_neg c_2], by rw [ht]; exact hP, va_K.moved hW.alike hK, hD⟩, hS.F ht⟩) hS.2.2 d_Tb_setGoal_20
def tb_shows (cl sa ks : Int32) (nl : Nat) (nx : Nat → Int32) (p1 : Int32) : Int32 := if p1 < sa then (1) else if 1 ≤ cl then if (tb_next ks nl nx (((p1 - sa) / cl) + 2)) = 0 then (0) else (1) else (1)
set_option maxHeartbeats 4000000 in
set_option maxRecDepth 100000 in
theorem c_Tb_shows (l : Launch) (dC : Nat → ClassId) (dI : Nat → Nat → Nat) (b0 b1 b2 h0 sz : Nat) (cl be co le ro sa ks : Int32) (c1 : ClassId) (nl : Nat) (nx : Nat → Int32) (hnl : nl < 2 ^ 31) (p1 : Int32) : Met l y_Tb_shows (.code y_Tb_shows b_Tb_shows 2 (some .boolean) :: V_Tb) ({ frames := 1, cells := 0, slots := 0, locals := 21 }) (va_Pc [.ref b0, .int p1] (fun U => U.heap.size = sz ∧ at_ (dC, dI) (fun _ => True) [(b0, .inr (4, [.ref h0, .int cl, .int be, .int co, .int le, .int ro, .int sa, .int ks, .ref b1, .ref b2])), (b1, .inl (c1, nl, .inl nx))] [(c1, .int)] U)) (va_Qi (fun (r : Int32) (u : Unit) => r = tb_shows cl sa ks nl nx p1) (fun (u : Unit) t => at_ (dC, dI) (va_A [(b0, .inr (4, [.ref h0, .int cl, .int be, .int co, .int le, .int ro, .int sa, .int ks, .ref b1, .ref b2])), (b1, .inl (c1, nl, .inl nx))] sz) [(b0, .inr (4, [.ref h0, .int cl, .int be, .int co, .int le, .int ro, .int sa, .int ks, .ref b1, .ref b2])), (b1, .inl (c1, nl, .inl nx))] [(c1, .int)] t) (va_A [(b0, .inr (4, [.ref h0, .int cl, .int be, .int co, .int le, .int ro, .int sa, .int ks, .ref b1, .ref b2])), (b1, .inl (c1, nl, .inl nx))] sz)) 0 0 (va_A [(b0, .inr (4, [.ref h0, .int cl, .int be, .int co, .int le, .int ro, .int sa, .int ks, .ref b1, .ref b2])), (b1, .inl (c1, nl, .inl nx))] sz) := by
  refine Met.ofW (cc := b_Tb_shows) (maxL := 2) (ret := (some .boolean)) (by decide) rfl ?_
  intro p e s m args below meth c s₁ B hml hv
  obtain ⟨rfl, hsz, hP, hK, hD0⟩ := hv
  have hx := B.exec
  have hb := B.bytes
  have hr := B.returns
  have hts0 := atoms_spec (ws := .code y_Tb_shows b_Tb_shows 2 (some .boolean) :: V_Tb) B.pre
  have hts : ∀ w ∈ V_Tb, w.before ([.ref b0, .int p1] : List Value).toArray s = true := fun w h => hts0 w (List.mem_cons_of_mem _ h)
  have hown : s.vm.findClass R_Tb = some m.cls := findClass_of_methodNamed B.named
  have hlocks := B.notSynchronized
  subst hsz
  have hD := hD0.self (sz := s.heap.size)
  generalize hAe : va_A [(b0, .inr (4, [.ref h0, .int cl, .int be, .int co, .int le, .int ro, .int sa, .int ks, .ref b1, .ref b2])), (b1, .inl (c1, nl, .inl nx))] s.heap.size = A at hD ⊢
  have hA : ∀ q : Nat, s.heap.size ≤ q → A q := fun q h => by rw [← hAe]; exact Or.inr h
  have hS : va_S A s.heap s.heap [] := va_S.rf
  have hP : va_P (dC, dI) classes [(b0, .inr (4, [.ref h0, .int cl, .int be, .int co, .int le, .int ro, .int sa, .int ks, .ref b1, .ref b2])), (b1, .inl (c1, nl, .inl nx))] s.heap := hP
  have hK : va_K (dC, dI) classes [(c1, .int)] s := hK
  have hl := lv_entry ([.ref b0, .int p1]) (n := 2) (Nat.le_of_ble_eq_true rfl)
  rw [lg_entry_eq]
  generalize (lg_sl ([.ref b0, .int p1]) ++ List.replicate (2 - (lg_sl ([.ref b0, .int p1])).length) Slot.unset).toArray = ls at hl ⊢
  have hl : lv_has ls 2 [(0, .ref b0), (1, .int p1)] := hl
  refine lv_iload_n hx hb d_Tb_shows_0 rfl (lv_at hl 1 rfl) ?_
  refine lv_aload_n hx hb d_Tb_shows_1 rfl (lv_at hl 0 rfl) ?_
  refine va_get (D := (dC, dI)) (ci := 4) (v := .int sa) (C := R_Tb) (T := F_Tb) (N := 10) hx hb hts i_Tb hown hK hP 0 rfl rfl 6 (by decide) (hts _ (k_Tb_12)) (fun _ h9 => h9) rfl d_Tb_shows_2 ?_
  refine lv_icmp_lt (tgt := 16) hx hb d_Tb_shows_5 (by decide) (fun c_1 => ?_) (fun c_1 => ?_)
  · refine lv_iconst (v := 1) hx hb d_Tb_shows_16 (by decide) ?_
    exact W.zret (v := 1) hx hb hr rfl (fun t ht hW => ⟨⟨1, (), rfl, by rw [tb_shows, if_pos c_1], by rw [ht]; exact hP, va_K.moved hW.alike hK, hD⟩, hS.F ht⟩) hS.2.2 d_Tb_shows_17
  · refine lv_aload_n hx hb d_Tb_shows_8 rfl (lv_at hl 0 rfl) ?_
    refine va_get (D := (dC, dI)) (ci := 4) (v := .int cl) (C := R_Tb) (T := F_Tb) (N := 10) hx hb hts i_Tb hown hK hP 0 rfl rfl 1 (by decide) (hts _ (k_Tb_7)) (fun _ h9 => h9) rfl d_Tb_shows_9 ?_
    refine lv_iconst (v := 1) hx hb d_Tb_shows_12 (by decide) ?_
    refine lv_icmp_ge (tgt := 18) hx hb d_Tb_shows_13 (by decide) (fun c_2 => ?_) (fun c_2 => ?_)
    · refine lv_aload_n hx hb d_Tb_shows_18 rfl (lv_at hl 0 rfl) ?_
      refine lv_iload_n hx hb d_Tb_shows_19 rfl (lv_at hl 1 rfl) ?_
      refine lv_aload_n hx hb d_Tb_shows_20 rfl (lv_at hl 0 rfl) ?_
      refine va_get (D := (dC, dI)) (ci := 4) (v := .int sa) (C := R_Tb) (T := F_Tb) (N := 10) hx hb hts i_Tb hown hK hP 0 rfl rfl 6 (by decide) (hts _ (k_Tb_12)) (fun _ h9 => h9) rfl d_Tb_shows_21 ?_
      refine lv_isub hx hb d_Tb_shows_24 ?_
      refine lv_aload_n hx hb d_Tb_shows_25 rfl (lv_at hl 0 rfl) ?_
      refine va_get (D := (dC, dI)) (ci := 4) (v := .int cl) (C := R_Tb) (T := F_Tb) (N := 10) hx hb hts i_Tb hown hK hP 0 rfl rfl 1 (by decide) (hts _ (k_Tb_7)) (fun _ h9 => h9) rfl d_Tb_shows_26 ?_
      refine lv_idiv hx hb d_Tb_shows_29 (fun h => by rw [h] at c_2; exact absurd c_2 (by decide)) ?_
      refine lv_iconst (v := 2) hx hb d_Tb_shows_30 (by decide) ?_
      refine lv_iadd hx hb d_Tb_shows_31 ?_
      have hPc := hP.sub (ws' := [(b0, .inr (4, [.ref h0, .int cl, .int be, .int co, .int le, .int ro, .int sa, .int ks, .ref b1, .ref b2])), (b1, .inl (c1, nl, .inl nx))]) [0, 1] rfl
      have hDc := hD.sub (ws' := [(b0, .inr (4, [.ref h0, .int cl, .int be, .int co, .int le, .int ro, .int sa, .int ks, .ref b1, .ref b2])), (b1, .inl (c1, nl, .inl nx))]) [0, 1] (by decide) rfl
      have hKc := hK.sub (tys' := [(c1, .int)]) [0] rfl
      have hFc := va_free (wc := [(b0, .inr (4, [.ref h0, .int cl, .int be, .int co, .int le, .int ro, .int sa, .int ks, .ref b1, .ref b2])), (b1, .inl (c1, nl, .inl nx))]) hD hS hA [0, 1] rfl
      refine va_calli (va_runV (As := [.int (((p1 - sa) / cl) + 2)]) (rest := []) ⟨hx, hb, hml, hown, hts⟩ (c_Tb_nextOf l dC dI b0 b1 b2 h0 s.heap.size cl be co le ro sa ks c1 nl nx hnl (((p1 - sa) / cl) + 2)) (cwV 1 hts (gwV good_Tb (k_Tb_69) (k_Tb_43) (k_Tb_44) (k_Tb_0) (wcs (k_Tb_45) (fun _ h => h))) rfl rfl rfl (by decide +kernel) ⟨Nat.le_of_ble_eq_true rfl, Nat.le_of_ble_eq_true rfl⟩) (pv_of hPc hKc hDc (va_recv hKc hPc (ci := 4) (q0 := 0) rfl rfl)) rfl rfl hl.1 rfl (lv_room (Nat.le_of_ble_eq_true rfl)) d_Tb_shows_32 ⟨by decide, by decide⟩) hS (fun q _ h => hFc q h) hFc (fun r_3 u t H1 locs ht hvm hw hB hz1 hk1 hS => ?_)
      have er_3 := hw
      obtain ⟨hP1, hK1, hD1⟩ := hB
      rw [ht] at hP1
      have hP1 : va_P (dC, dI) classes [(b0, .inr (4, [.ref h0, .int cl, .int be, .int co, .int le, .int ro, .int sa, .int ks, .ref b1, .ref b2])), (b1, .inl (c1, nl, .inl nx))] H1 := hP1
      have hD1 : va_D _ [(b0, .inr (4, [.ref h0, .int cl, .int be, .int co, .int le, .int ro, .int sa, .int ks, .ref b1, .ref b2])), (b1, .inl (c1, nl, .inl nx))] := hD1
      obtain ⟨hP, hD⟩ := va_join (wr := []) (w1 := [(b0, .inr (4, [.ref h0, .int cl, .int be, .int co, .int le, .int ro, .int sa, .int ks, .ref b1, .ref b2])), (b1, .inl (c1, nl, .inl nx))]) hP hD [0, 1] [] rfl rfl (by decide) (by decide) hk1 hFc hP1 hD1
      generalize H1 = H at hP hS ⊢
      have hP : va_P (dC, dI) classes [(b0, .inr (4, [.ref h0, .int cl, .int be, .int co, .int le, .int ro, .int sa, .int ks, .ref b1, .ref b2])), (b1, .inl (c1, nl, .inl nx))] H := hP
      have hD : va_D A [(b0, .inr (4, [.ref h0, .int cl, .int be, .int co, .int le, .int ro, .int sa, .int ks, .ref b1, .ref b2])), (b1, .inl (c1, nl, .inl nx))] := hD
      refine lv_if_eq (tgt := 42) hx hb d_Tb_shows_35 (by decide) (fun c_4 => ?_) (fun c_4 => ?_)
      · refine lv_iconst (v := 0) hx hb d_Tb_shows_42 (by decide) ?_
        exact W.zret (v := 0) hx hb hr rfl (fun t ht hW => ⟨⟨0, (), rfl, by rw [tb_shows, if_neg c_1, if_pos c_2, ← er_3, if_pos c_4], by rw [ht]; exact hP, va_K.moved hW.alike hK, hD⟩, hS.F ht⟩) hS.2.2 d_Tb_shows_43
      · refine lv_iconst (v := 1) hx hb d_Tb_shows_38 (by decide) ?_
        refine lv_goto (tgt := 43) hx hb d_Tb_shows_39 (by decide) ?_
        exact W.zret (v := 1) hx hb hr rfl (fun t ht hW => ⟨⟨1, (), rfl, by rw [tb_shows, if_neg c_1, if_pos c_2, ← er_3, if_neg c_4], by rw [ht]; exact hP, va_K.moved hW.alike hK, hD⟩, hS.F ht⟩) hS.2.2 d_Tb_shows_43
    · refine lv_iconst (v := 1) hx hb d_Tb_shows_16 (by decide) ?_
      exact W.zret (v := 1) hx hb hr rfl (fun t ht hW => ⟨⟨1, (), rfl, by rw [tb_shows, if_neg c_1, if_neg c_2], by rw [ht]; exact hP, va_K.moved hW.alike hK, hD⟩, hS.F ht⟩) hS.2.2 d_Tb_shows_17
def tb_const (sec : Int32) (n : Nat) (f : Nat → Int32) : Int32 := if (dk_two n f 11) = 512 then if (dk_two n f 17) = 0 then if (dk_two n f 19) = 0 then if (dk_two n f 22) = 0 then if (dk_four n f 32) = sec then if (dk_two n f 48) = 1 then if (dk_two n f 50) = 6 then if (dk_two n f 510) = 43605 then (1) else (0) else (0) else (0) else (0) else (0) else (0) else (0) else (0)
set_option maxHeartbeats 4000000 in
set_option maxRecDepth 100000 in
theorem c_Tb_constantsFit (l : Launch) (dC : Nat → ClassId) (dI : Nat → Nat → Nat) (b0 b1 b2 h0 sz : Nat) (cl be co le ro sa ks : Int32) (h1 : Nat) (cB : ClassId) (sec pw : Int32) (n : Nat) (f : Nat → Int32) (h4 : 4 ≤ n) (hn : n < 2 ^ 31) : Met l y_Tb_constantsFit (.code y_Tb_constantsFit b_Tb_constantsFit 1 (some .boolean) :: V_Tb) ({ frames := 1, cells := 0, slots := 0, locals := 21 }) (va_Pc [.ref b0] (fun U => U.heap.size = sz ∧ at_ (dC, dI) (fun _ => True) [(b0, .inr (4, [.ref h0, .int cl, .int be, .int co, .int le, .int ro, .int sa, .int ks, .ref b1, .ref b2])), (h0, .inr (0, [.int sec, .ref h1, .int pw])), (h1, .inl (cB, n, .inl f))] [(cB, .byte)] U)) (va_Qi (fun (r : Int32) (u : Unit) => r = tb_const sec n f) (fun (u : Unit) t => at_ (dC, dI) (va_A [(b0, .inr (4, [.ref h0, .int cl, .int be, .int co, .int le, .int ro, .int sa, .int ks, .ref b1, .ref b2])), (h0, .inr (0, [.int sec, .ref h1, .int pw])), (h1, .inl (cB, n, .inl f))] sz) [(b0, .inr (4, [.ref h0, .int cl, .int be, .int co, .int le, .int ro, .int sa, .int ks, .ref b1, .ref b2])), (h0, .inr (0, [.int sec, .ref h1, .int pw])), (h1, .inl (cB, n, .inl f))] [(cB, .byte)] t) (va_A [(b0, .inr (4, [.ref h0, .int cl, .int be, .int co, .int le, .int ro, .int sa, .int ks, .ref b1, .ref b2])), (h0, .inr (0, [.int sec, .ref h1, .int pw])), (h1, .inl (cB, n, .inl f))] sz)) 0 0 (va_A [(b0, .inr (4, [.ref h0, .int cl, .int be, .int co, .int le, .int ro, .int sa, .int ks, .ref b1, .ref b2])), (h0, .inr (0, [.int sec, .ref h1, .int pw])), (h1, .inl (cB, n, .inl f))] sz) := by
  refine Met.ofW (cc := b_Tb_constantsFit) (maxL := 1) (ret := (some .boolean)) (by decide) rfl ?_
  intro p e s m args below meth c s₁ B hml hv
  obtain ⟨rfl, hsz, hP, hK, hD0⟩ := hv
  have hx := B.exec
  have hb := B.bytes
  have hr := B.returns
  have hts0 := atoms_spec (ws := .code y_Tb_constantsFit b_Tb_constantsFit 1 (some .boolean) :: V_Tb) B.pre
  have hts : ∀ w ∈ V_Tb, w.before ([.ref b0] : List Value).toArray s = true := fun w h => hts0 w (List.mem_cons_of_mem _ h)
  have hown : s.vm.findClass R_Tb = some m.cls := findClass_of_methodNamed B.named
  have hlocks := B.notSynchronized
  subst hsz
  have hD := hD0.self (sz := s.heap.size)
  generalize hAe : va_A [(b0, .inr (4, [.ref h0, .int cl, .int be, .int co, .int le, .int ro, .int sa, .int ks, .ref b1, .ref b2])), (h0, .inr (0, [.int sec, .ref h1, .int pw])), (h1, .inl (cB, n, .inl f))] s.heap.size = A at hD ⊢
  have hA : ∀ q : Nat, s.heap.size ≤ q → A q := fun q h => by rw [← hAe]; exact Or.inr h
  have hS : va_S A s.heap s.heap [] := va_S.rf
  have hP : va_P (dC, dI) classes [(b0, .inr (4, [.ref h0, .int cl, .int be, .int co, .int le, .int ro, .int sa, .int ks, .ref b1, .ref b2])), (h0, .inr (0, [.int sec, .ref h1, .int pw])), (h1, .inl (cB, n, .inl f))] s.heap := hP
  have hK : va_K (dC, dI) classes [(cB, .byte)] s := hK
  have hl := lv_entry ([.ref b0]) (n := 1) (Nat.le_of_ble_eq_true rfl)
  rw [lg_entry_eq]
  generalize (lg_sl ([.ref b0]) ++ List.replicate (1 - (lg_sl ([.ref b0])).length) Slot.unset).toArray = ls at hl ⊢
  have hl : lv_has ls 1 [(0, .ref b0)] := hl
  refine lv_aload_n hx hb d_Tb_constantsFit_0 rfl (lv_at hl 0 rfl) ?_
  refine va_get (D := (dC, dI)) (ci := 4) (v := .ref h0) (C := R_Tb) (T := F_Tb) (N := 10) hx hb hts i_Tb hown hK hP 0 rfl rfl 0 (by decide) (hts _ (k_Tb_6)) (fun _ h9 => h9) rfl d_Tb_constantsFit_1 ?_
  refine lv_bipush (v := 11) hx hb d_Tb_constantsFit_4 (by decide) ?_
  have hPc := hP.sub (ws' := [(h0, .inr (0, [.int sec, .ref h1, .int pw])), (h1, .inl (cB, n, .inl f))]) [1, 2] rfl
  have hDc := hD.sub (ws' := [(h0, .inr (0, [.int sec, .ref h1, .int pw])), (h1, .inl (cB, n, .inl f))]) [1, 2] (by decide) rfl
  have hKc := hK.sub (tys' := [(cB, .byte)]) [0] rfl
  have hFc := va_free (wc := [(h0, .inr (0, [.int sec, .ref h1, .int pw])), (h1, .inl (cB, n, .inl f))]) hD hS hA [1, 2] rfl
  refine va_calli (va_runV (As := [.int 11]) (rest := []) ⟨hx, hb, hml, hown, hts⟩ (c_Dk_two l dC dI h0 h1 s.heap.size cB sec pw n f h4 hn 11) (cwV 1 hts (gwV good_Tb (k_Tb_23) (u_Tb_Dk _ k_Dk_17) (u_Tb_Dk _ k_Dk_18) (u_Tb_Dk _ k_Dk_0) (wcs (u_Tb_Dk _ k_Dk_19) u_Tb_Dk)) rfl rfl rfl (by decide +kernel) ⟨Nat.le_of_ble_eq_true rfl, Nat.le_of_ble_eq_true rfl⟩) (pv_of hPc hKc hDc (va_recv hKc hPc (ci := 0) (q0 := 0) rfl rfl)) rfl rfl hl.1 rfl (lv_room (Nat.le_of_ble_eq_true rfl)) d_Tb_constantsFit_6 ⟨by decide, by decide⟩) hS (fun q _ h => hFc q h) hFc (fun r_1 u t H1 locs ht hvm hw hB hz1 hk1 hS => ?_)
  obtain ⟨er_1, rfl⟩ := hw
  obtain ⟨hP1, hK1, hD1⟩ := hB
  rw [ht] at hP1
  have hP1 : va_P (dC, dI) classes [(h0, .inr (0, [.int sec, .ref h1, .int pw])), (h1, .inl (cB, n, .inl f))] H1 := hP1
  have hD1 : va_D _ [(h0, .inr (0, [.int sec, .ref h1, .int pw])), (h1, .inl (cB, n, .inl f))] := hD1
  obtain ⟨hP, hD⟩ := va_join (wr := [(b0, .inr (4, [.ref h0, .int cl, .int be, .int co, .int le, .int ro, .int sa, .int ks, .ref b1, .ref b2]))]) (w1 := [(h0, .inr (0, [.int sec, .ref h1, .int pw])), (h1, .inl (cB, n, .inl f))]) hP hD [1, 2] [0] rfl rfl (by decide) (by decide) hk1 hFc hP1 hD1
  generalize H1 = H at hP hS ⊢
  have hP : va_P (dC, dI) classes [(b0, .inr (4, [.ref h0, .int cl, .int be, .int co, .int le, .int ro, .int sa, .int ks, .ref b1, .ref b2])), (h0, .inr (0, [.int sec, .ref h1, .int pw])), (h1, .inl (cB, n, .inl f))] H := hP
  have hD : va_D A [(b0, .inr (4, [.ref h0, .int cl, .int be, .int co, .int le, .int ro, .int sa, .int ks, .ref b1, .ref b2])), (h0, .inr (0, [.int sec, .ref h1, .int pw])), (h1, .inl (cB, n, .inl f))] := hD
  refine lv_sipush (v := 512) hx hb d_Tb_constantsFit_9 (by decide) ?_
  refine lv_icmp_ne (tgt := 116) hx hb d_Tb_constantsFit_12 (by decide) (fun c_2 => ?_) (fun c_2 => ?_)
  · refine lv_iconst (v := 0) hx hb d_Tb_constantsFit_116 (by decide) ?_
    exact W.zret (v := 0) hx hb hr rfl (fun t ht hW => ⟨⟨0, (), rfl, by rw [tb_const, ← er_1, if_neg c_2], by rw [ht]; exact hP, va_K.moved hW.alike hK, hD⟩, hS.F ht⟩) hS.2.2 d_Tb_constantsFit_117
  · refine lv_aload_n hx hb d_Tb_constantsFit_15 rfl (lv_at hl 0 rfl) ?_
    refine va_get (D := (dC, dI)) (ci := 4) (v := .ref h0) (C := R_Tb) (T := F_Tb) (N := 10) hx hb hts i_Tb hown hK hP 0 rfl rfl 0 (by decide) (hts _ (k_Tb_6)) (fun _ h9 => h9) rfl d_Tb_constantsFit_16 ?_
    refine lv_bipush (v := 17) hx hb d_Tb_constantsFit_19 (by decide) ?_
    have hPc := hP.sub (ws' := [(h0, .inr (0, [.int sec, .ref h1, .int pw])), (h1, .inl (cB, n, .inl f))]) [1, 2] rfl
    have hDc := hD.sub (ws' := [(h0, .inr (0, [.int sec, .ref h1, .int pw])), (h1, .inl (cB, n, .inl f))]) [1, 2] (by decide) rfl
    have hKc := hK.sub (tys' := [(cB, .byte)]) [0] rfl
    have hFc := va_free (wc := [(h0, .inr (0, [.int sec, .ref h1, .int pw])), (h1, .inl (cB, n, .inl f))]) hD hS hA [1, 2] rfl
    refine va_calli (va_runV (As := [.int 17]) (rest := []) ⟨hx, hb, hml, hown, hts⟩ (c_Dk_two l dC dI h0 h1 H.size cB sec pw n f h4 hn 17) (cwV 1 hts (gwV good_Tb (k_Tb_23) (u_Tb_Dk _ k_Dk_17) (u_Tb_Dk _ k_Dk_18) (u_Tb_Dk _ k_Dk_0) (wcs (u_Tb_Dk _ k_Dk_19) u_Tb_Dk)) rfl rfl rfl (by decide +kernel) ⟨Nat.le_of_ble_eq_true rfl, Nat.le_of_ble_eq_true rfl⟩) (pv_of hPc hKc hDc (va_recv hKc hPc (ci := 0) (q0 := 0) rfl rfl)) rfl rfl hl.1 rfl (lv_room (Nat.le_of_ble_eq_true rfl)) d_Tb_constantsFit_21 ⟨by decide, by decide⟩) hS (fun q _ h => hFc q h) hFc (fun r_3 u t H1 locs ht hvm hw hB hz1 hk1 hS => ?_)
    obtain ⟨er_3, rfl⟩ := hw
    obtain ⟨hP1, hK1, hD1⟩ := hB
    rw [ht] at hP1
    have hP1 : va_P (dC, dI) classes [(h0, .inr (0, [.int sec, .ref h1, .int pw])), (h1, .inl (cB, n, .inl f))] H1 := hP1
    have hD1 : va_D _ [(h0, .inr (0, [.int sec, .ref h1, .int pw])), (h1, .inl (cB, n, .inl f))] := hD1
    obtain ⟨hP, hD⟩ := va_join (wr := [(b0, .inr (4, [.ref h0, .int cl, .int be, .int co, .int le, .int ro, .int sa, .int ks, .ref b1, .ref b2]))]) (w1 := [(h0, .inr (0, [.int sec, .ref h1, .int pw])), (h1, .inl (cB, n, .inl f))]) hP hD [1, 2] [0] rfl rfl (by decide) (by decide) hk1 hFc hP1 hD1
    generalize H1 = H at hP hS ⊢
    have hP : va_P (dC, dI) classes [(b0, .inr (4, [.ref h0, .int cl, .int be, .int co, .int le, .int ro, .int sa, .int ks, .ref b1, .ref b2])), (h0, .inr (0, [.int sec, .ref h1, .int pw])), (h1, .inl (cB, n, .inl f))] H := hP
    have hD : va_D A [(b0, .inr (4, [.ref h0, .int cl, .int be, .int co, .int le, .int ro, .int sa, .int ks, .ref b1, .ref b2])), (h0, .inr (0, [.int sec, .ref h1, .int pw])), (h1, .inl (cB, n, .inl f))] := hD
    refine lv_if_ne (tgt := 116) hx hb d_Tb_constantsFit_24 (by decide) (fun c_4 => ?_) (fun c_4 => ?_)
    · refine lv_iconst (v := 0) hx hb d_Tb_constantsFit_116 (by decide) ?_
      exact W.zret (v := 0) hx hb hr rfl (fun t ht hW => ⟨⟨0, (), rfl, by rw [tb_const, ← er_1, if_pos c_2, ← er_3, if_neg c_4], by rw [ht]; exact hP, va_K.moved hW.alike hK, hD⟩, hS.F ht⟩) hS.2.2 d_Tb_constantsFit_117
    · refine lv_aload_n hx hb d_Tb_constantsFit_27 rfl (lv_at hl 0 rfl) ?_
      refine va_get (D := (dC, dI)) (ci := 4) (v := .ref h0) (C := R_Tb) (T := F_Tb) (N := 10) hx hb hts i_Tb hown hK hP 0 rfl rfl 0 (by decide) (hts _ (k_Tb_6)) (fun _ h9 => h9) rfl d_Tb_constantsFit_28 ?_
      refine lv_bipush (v := 19) hx hb d_Tb_constantsFit_31 (by decide) ?_
      have hPc := hP.sub (ws' := [(h0, .inr (0, [.int sec, .ref h1, .int pw])), (h1, .inl (cB, n, .inl f))]) [1, 2] rfl
      have hDc := hD.sub (ws' := [(h0, .inr (0, [.int sec, .ref h1, .int pw])), (h1, .inl (cB, n, .inl f))]) [1, 2] (by decide) rfl
      have hKc := hK.sub (tys' := [(cB, .byte)]) [0] rfl
      have hFc := va_free (wc := [(h0, .inr (0, [.int sec, .ref h1, .int pw])), (h1, .inl (cB, n, .inl f))]) hD hS hA [1, 2] rfl
      refine va_calli (va_runV (As := [.int 19]) (rest := []) ⟨hx, hb, hml, hown, hts⟩ (c_Dk_two l dC dI h0 h1 H.size cB sec pw n f h4 hn 19) (cwV 1 hts (gwV good_Tb (k_Tb_23) (u_Tb_Dk _ k_Dk_17) (u_Tb_Dk _ k_Dk_18) (u_Tb_Dk _ k_Dk_0) (wcs (u_Tb_Dk _ k_Dk_19) u_Tb_Dk)) rfl rfl rfl (by decide +kernel) ⟨Nat.le_of_ble_eq_true rfl, Nat.le_of_ble_eq_true rfl⟩) (pv_of hPc hKc hDc (va_recv hKc hPc (ci := 0) (q0 := 0) rfl rfl)) rfl rfl hl.1 rfl (lv_room (Nat.le_of_ble_eq_true rfl)) d_Tb_constantsFit_33 ⟨by decide, by decide⟩) hS (fun q _ h => hFc q h) hFc (fun r_5 u t H1 locs ht hvm hw hB hz1 hk1 hS => ?_)
      obtain ⟨er_5, rfl⟩ := hw
      obtain ⟨hP1, hK1, hD1⟩ := hB
      rw [ht] at hP1
      have hP1 : va_P (dC, dI) classes [(h0, .inr (0, [.int sec, .ref h1, .int pw])), (h1, .inl (cB, n, .inl f))] H1 := hP1
      have hD1 : va_D _ [(h0, .inr (0, [.int sec, .ref h1, .int pw])), (h1, .inl (cB, n, .inl f))] := hD1
      obtain ⟨hP, hD⟩ := va_join (wr := [(b0, .inr (4, [.ref h0, .int cl, .int be, .int co, .int le, .int ro, .int sa, .int ks, .ref b1, .ref b2]))]) (w1 := [(h0, .inr (0, [.int sec, .ref h1, .int pw])), (h1, .inl (cB, n, .inl f))]) hP hD [1, 2] [0] rfl rfl (by decide) (by decide) hk1 hFc hP1 hD1
      generalize H1 = H at hP hS ⊢
      have hP : va_P (dC, dI) classes [(b0, .inr (4, [.ref h0, .int cl, .int be, .int co, .int le, .int ro, .int sa, .int ks, .ref b1, .ref b2])), (h0, .inr (0, [.int sec, .ref h1, .int pw])), (h1, .inl (cB, n, .inl f))] H := hP
      have hD : va_D A [(b0, .inr (4, [.ref h0, .int cl, .int be, .int co, .int le, .int ro, .int sa, .int ks, .ref b1, .ref b2])), (h0, .inr (0, [.int sec, .ref h1, .int pw])), (h1, .inl (cB, n, .inl f))] := hD
      refine lv_if_ne (tgt := 116) hx hb d_Tb_constantsFit_36 (by decide) (fun c_6 => ?_) (fun c_6 => ?_)
      · refine lv_iconst (v := 0) hx hb d_Tb_constantsFit_116 (by decide) ?_
        exact W.zret (v := 0) hx hb hr rfl (fun t ht hW => ⟨⟨0, (), rfl, by rw [tb_const, ← er_1, if_pos c_2, ← er_3, if_pos c_4, ← er_5, if_neg c_6], by rw [ht]; exact hP, va_K.moved hW.alike hK, hD⟩, hS.F ht⟩) hS.2.2 d_Tb_constantsFit_117
      · refine lv_aload_n hx hb d_Tb_constantsFit_39 rfl (lv_at hl 0 rfl) ?_
        refine va_get (D := (dC, dI)) (ci := 4) (v := .ref h0) (C := R_Tb) (T := F_Tb) (N := 10) hx hb hts i_Tb hown hK hP 0 rfl rfl 0 (by decide) (hts _ (k_Tb_6)) (fun _ h9 => h9) rfl d_Tb_constantsFit_40 ?_
        refine lv_bipush (v := 22) hx hb d_Tb_constantsFit_43 (by decide) ?_
        have hPc := hP.sub (ws' := [(h0, .inr (0, [.int sec, .ref h1, .int pw])), (h1, .inl (cB, n, .inl f))]) [1, 2] rfl
        have hDc := hD.sub (ws' := [(h0, .inr (0, [.int sec, .ref h1, .int pw])), (h1, .inl (cB, n, .inl f))]) [1, 2] (by decide) rfl
        have hKc := hK.sub (tys' := [(cB, .byte)]) [0] rfl
        have hFc := va_free (wc := [(h0, .inr (0, [.int sec, .ref h1, .int pw])), (h1, .inl (cB, n, .inl f))]) hD hS hA [1, 2] rfl
        refine va_calli (va_runV (As := [.int 22]) (rest := []) ⟨hx, hb, hml, hown, hts⟩ (c_Dk_two l dC dI h0 h1 H.size cB sec pw n f h4 hn 22) (cwV 1 hts (gwV good_Tb (k_Tb_23) (u_Tb_Dk _ k_Dk_17) (u_Tb_Dk _ k_Dk_18) (u_Tb_Dk _ k_Dk_0) (wcs (u_Tb_Dk _ k_Dk_19) u_Tb_Dk)) rfl rfl rfl (by decide +kernel) ⟨Nat.le_of_ble_eq_true rfl, Nat.le_of_ble_eq_true rfl⟩) (pv_of hPc hKc hDc (va_recv hKc hPc (ci := 0) (q0 := 0) rfl rfl)) rfl rfl hl.1 rfl (lv_room (Nat.le_of_ble_eq_true rfl)) d_Tb_constantsFit_45 ⟨by decide, by decide⟩) hS (fun q _ h => hFc q h) hFc (fun r_7 u t H1 locs ht hvm hw hB hz1 hk1 hS => ?_)
        obtain ⟨er_7, rfl⟩ := hw
        obtain ⟨hP1, hK1, hD1⟩ := hB
        rw [ht] at hP1
        have hP1 : va_P (dC, dI) classes [(h0, .inr (0, [.int sec, .ref h1, .int pw])), (h1, .inl (cB, n, .inl f))] H1 := hP1
        have hD1 : va_D _ [(h0, .inr (0, [.int sec, .ref h1, .int pw])), (h1, .inl (cB, n, .inl f))] := hD1
        obtain ⟨hP, hD⟩ := va_join (wr := [(b0, .inr (4, [.ref h0, .int cl, .int be, .int co, .int le, .int ro, .int sa, .int ks, .ref b1, .ref b2]))]) (w1 := [(h0, .inr (0, [.int sec, .ref h1, .int pw])), (h1, .inl (cB, n, .inl f))]) hP hD [1, 2] [0] rfl rfl (by decide) (by decide) hk1 hFc hP1 hD1
        generalize H1 = H at hP hS ⊢
        have hP : va_P (dC, dI) classes [(b0, .inr (4, [.ref h0, .int cl, .int be, .int co, .int le, .int ro, .int sa, .int ks, .ref b1, .ref b2])), (h0, .inr (0, [.int sec, .ref h1, .int pw])), (h1, .inl (cB, n, .inl f))] H := hP
        have hD : va_D A [(b0, .inr (4, [.ref h0, .int cl, .int be, .int co, .int le, .int ro, .int sa, .int ks, .ref b1, .ref b2])), (h0, .inr (0, [.int sec, .ref h1, .int pw])), (h1, .inl (cB, n, .inl f))] := hD
        refine lv_if_ne (tgt := 116) hx hb d_Tb_constantsFit_48 (by decide) (fun c_8 => ?_) (fun c_8 => ?_)
        · refine lv_iconst (v := 0) hx hb d_Tb_constantsFit_116 (by decide) ?_
          exact W.zret (v := 0) hx hb hr rfl (fun t ht hW => ⟨⟨0, (), rfl, by rw [tb_const, ← er_1, if_pos c_2, ← er_3, if_pos c_4, ← er_5, if_pos c_6, ← er_7, if_neg c_8], by rw [ht]; exact hP, va_K.moved hW.alike hK, hD⟩, hS.F ht⟩) hS.2.2 d_Tb_constantsFit_117
        · refine lv_aload_n hx hb d_Tb_constantsFit_51 rfl (lv_at hl 0 rfl) ?_
          refine va_get (D := (dC, dI)) (ci := 4) (v := .ref h0) (C := R_Tb) (T := F_Tb) (N := 10) hx hb hts i_Tb hown hK hP 0 rfl rfl 0 (by decide) (hts _ (k_Tb_6)) (fun _ h9 => h9) rfl d_Tb_constantsFit_52 ?_
          refine lv_bipush (v := 32) hx hb d_Tb_constantsFit_55 (by decide) ?_
          have hPc := hP.sub (ws' := [(h0, .inr (0, [.int sec, .ref h1, .int pw])), (h1, .inl (cB, n, .inl f))]) [1, 2] rfl
          have hDc := hD.sub (ws' := [(h0, .inr (0, [.int sec, .ref h1, .int pw])), (h1, .inl (cB, n, .inl f))]) [1, 2] (by decide) rfl
          have hKc := hK.sub (tys' := [(cB, .byte)]) [0] rfl
          have hFc := va_free (wc := [(h0, .inr (0, [.int sec, .ref h1, .int pw])), (h1, .inl (cB, n, .inl f))]) hD hS hA [1, 2] rfl
          refine va_calli (va_runV (As := [.int 32]) (rest := []) ⟨hx, hb, hml, hown, hts⟩ (c_Dk_four l dC dI h0 h1 H.size cB sec pw n f h4 hn 32) (cwV 1 hts (gwV good_Tb (k_Tb_24) (u_Tb_Dk _ k_Dk_14) (u_Tb_Dk _ k_Dk_15) (u_Tb_Dk _ k_Dk_0) (wcs (u_Tb_Dk _ k_Dk_16) u_Tb_Dk)) rfl rfl rfl (by decide +kernel) ⟨Nat.le_of_ble_eq_true rfl, Nat.le_of_ble_eq_true rfl⟩) (pv_of hPc hKc hDc (va_recv hKc hPc (ci := 0) (q0 := 0) rfl rfl)) rfl rfl hl.1 rfl (lv_room (Nat.le_of_ble_eq_true rfl)) d_Tb_constantsFit_57 ⟨by decide, by decide⟩) hS (fun q _ h => hFc q h) hFc (fun r_9 u t H1 locs ht hvm hw hB hz1 hk1 hS => ?_)
          obtain ⟨er_9, rfl⟩ := hw
          obtain ⟨hP1, hK1, hD1⟩ := hB
          rw [ht] at hP1
          have hP1 : va_P (dC, dI) classes [(h0, .inr (0, [.int sec, .ref h1, .int pw])), (h1, .inl (cB, n, .inl f))] H1 := hP1
          have hD1 : va_D _ [(h0, .inr (0, [.int sec, .ref h1, .int pw])), (h1, .inl (cB, n, .inl f))] := hD1
          obtain ⟨hP, hD⟩ := va_join (wr := [(b0, .inr (4, [.ref h0, .int cl, .int be, .int co, .int le, .int ro, .int sa, .int ks, .ref b1, .ref b2]))]) (w1 := [(h0, .inr (0, [.int sec, .ref h1, .int pw])), (h1, .inl (cB, n, .inl f))]) hP hD [1, 2] [0] rfl rfl (by decide) (by decide) hk1 hFc hP1 hD1
          generalize H1 = H at hP hS ⊢
          have hP : va_P (dC, dI) classes [(b0, .inr (4, [.ref h0, .int cl, .int be, .int co, .int le, .int ro, .int sa, .int ks, .ref b1, .ref b2])), (h0, .inr (0, [.int sec, .ref h1, .int pw])), (h1, .inl (cB, n, .inl f))] H := hP
          have hD : va_D A [(b0, .inr (4, [.ref h0, .int cl, .int be, .int co, .int le, .int ro, .int sa, .int ks, .ref b1, .ref b2])), (h0, .inr (0, [.int sec, .ref h1, .int pw])), (h1, .inl (cB, n, .inl f))] := hD
          refine lv_aload_n hx hb d_Tb_constantsFit_60 rfl (lv_at hl 0 rfl) ?_
          refine va_get (D := (dC, dI)) (ci := 4) (v := .ref h0) (C := R_Tb) (T := F_Tb) (N := 10) hx hb hts i_Tb hown hK hP 0 rfl rfl 0 (by decide) (hts _ (k_Tb_6)) (fun _ h9 => h9) rfl d_Tb_constantsFit_61 ?_
          refine va_get (D := (dC, dI)) (ci := 0) (v := .int sec) (C := R_Dk) (T := F_Dk) (N := 3) hx hb hts (fun w h => u_Tb_Dk w (i_Dk w h)) hown hK hP 1 rfl rfl 0 (by decide) (hts _ (k_Tb_1)) (fun _ h9 => h9) rfl d_Tb_constantsFit_64 ?_
          refine lv_icmp_ne (tgt := 116) hx hb d_Tb_constantsFit_67 (by decide) (fun c_10 => ?_) (fun c_10 => ?_)
          · refine lv_iconst (v := 0) hx hb d_Tb_constantsFit_116 (by decide) ?_
            exact W.zret (v := 0) hx hb hr rfl (fun t ht hW => ⟨⟨0, (), rfl, by rw [tb_const, ← er_1, if_pos c_2, ← er_3, if_pos c_4, ← er_5, if_pos c_6, ← er_7, if_pos c_8, ← er_9, if_neg c_10], by rw [ht]; exact hP, va_K.moved hW.alike hK, hD⟩, hS.F ht⟩) hS.2.2 d_Tb_constantsFit_117
          · refine lv_aload_n hx hb d_Tb_constantsFit_70 rfl (lv_at hl 0 rfl) ?_
            refine va_get (D := (dC, dI)) (ci := 4) (v := .ref h0) (C := R_Tb) (T := F_Tb) (N := 10) hx hb hts i_Tb hown hK hP 0 rfl rfl 0 (by decide) (hts _ (k_Tb_6)) (fun _ h9 => h9) rfl d_Tb_constantsFit_71 ?_
            refine lv_bipush (v := 48) hx hb d_Tb_constantsFit_74 (by decide) ?_
            have hPc := hP.sub (ws' := [(h0, .inr (0, [.int sec, .ref h1, .int pw])), (h1, .inl (cB, n, .inl f))]) [1, 2] rfl
            have hDc := hD.sub (ws' := [(h0, .inr (0, [.int sec, .ref h1, .int pw])), (h1, .inl (cB, n, .inl f))]) [1, 2] (by decide) rfl
            have hKc := hK.sub (tys' := [(cB, .byte)]) [0] rfl
            have hFc := va_free (wc := [(h0, .inr (0, [.int sec, .ref h1, .int pw])), (h1, .inl (cB, n, .inl f))]) hD hS hA [1, 2] rfl
            refine va_calli (va_runV (As := [.int 48]) (rest := []) ⟨hx, hb, hml, hown, hts⟩ (c_Dk_two l dC dI h0 h1 H.size cB sec pw n f h4 hn 48) (cwV 1 hts (gwV good_Tb (k_Tb_23) (u_Tb_Dk _ k_Dk_17) (u_Tb_Dk _ k_Dk_18) (u_Tb_Dk _ k_Dk_0) (wcs (u_Tb_Dk _ k_Dk_19) u_Tb_Dk)) rfl rfl rfl (by decide +kernel) ⟨Nat.le_of_ble_eq_true rfl, Nat.le_of_ble_eq_true rfl⟩) (pv_of hPc hKc hDc (va_recv hKc hPc (ci := 0) (q0 := 0) rfl rfl)) rfl rfl hl.1 rfl (lv_room (Nat.le_of_ble_eq_true rfl)) d_Tb_constantsFit_76 ⟨by decide, by decide⟩) hS (fun q _ h => hFc q h) hFc (fun r_11 u t H1 locs ht hvm hw hB hz1 hk1 hS => ?_)
            obtain ⟨er_11, rfl⟩ := hw
            obtain ⟨hP1, hK1, hD1⟩ := hB
            rw [ht] at hP1
            have hP1 : va_P (dC, dI) classes [(h0, .inr (0, [.int sec, .ref h1, .int pw])), (h1, .inl (cB, n, .inl f))] H1 := hP1
            have hD1 : va_D _ [(h0, .inr (0, [.int sec, .ref h1, .int pw])), (h1, .inl (cB, n, .inl f))] := hD1
            obtain ⟨hP, hD⟩ := va_join (wr := [(b0, .inr (4, [.ref h0, .int cl, .int be, .int co, .int le, .int ro, .int sa, .int ks, .ref b1, .ref b2]))]) (w1 := [(h0, .inr (0, [.int sec, .ref h1, .int pw])), (h1, .inl (cB, n, .inl f))]) hP hD [1, 2] [0] rfl rfl (by decide) (by decide) hk1 hFc hP1 hD1
            generalize H1 = H at hP hS ⊢
            have hP : va_P (dC, dI) classes [(b0, .inr (4, [.ref h0, .int cl, .int be, .int co, .int le, .int ro, .int sa, .int ks, .ref b1, .ref b2])), (h0, .inr (0, [.int sec, .ref h1, .int pw])), (h1, .inl (cB, n, .inl f))] H := hP
            have hD : va_D A [(b0, .inr (4, [.ref h0, .int cl, .int be, .int co, .int le, .int ro, .int sa, .int ks, .ref b1, .ref b2])), (h0, .inr (0, [.int sec, .ref h1, .int pw])), (h1, .inl (cB, n, .inl f))] := hD
            refine lv_iconst (v := 1) hx hb d_Tb_constantsFit_79 (by decide) ?_
            refine lv_icmp_ne (tgt := 116) hx hb d_Tb_constantsFit_80 (by decide) (fun c_12 => ?_) (fun c_12 => ?_)
            · refine lv_iconst (v := 0) hx hb d_Tb_constantsFit_116 (by decide) ?_
              exact W.zret (v := 0) hx hb hr rfl (fun t ht hW => ⟨⟨0, (), rfl, by rw [tb_const, ← er_1, if_pos c_2, ← er_3, if_pos c_4, ← er_5, if_pos c_6, ← er_7, if_pos c_8, ← er_9, if_pos c_10, ← er_11, if_neg c_12], by rw [ht]; exact hP, va_K.moved hW.alike hK, hD⟩, hS.F ht⟩) hS.2.2 d_Tb_constantsFit_117
            · refine lv_aload_n hx hb d_Tb_constantsFit_83 rfl (lv_at hl 0 rfl) ?_
              refine va_get (D := (dC, dI)) (ci := 4) (v := .ref h0) (C := R_Tb) (T := F_Tb) (N := 10) hx hb hts i_Tb hown hK hP 0 rfl rfl 0 (by decide) (hts _ (k_Tb_6)) (fun _ h9 => h9) rfl d_Tb_constantsFit_84 ?_
              refine lv_bipush (v := 50) hx hb d_Tb_constantsFit_87 (by decide) ?_
              have hPc := hP.sub (ws' := [(h0, .inr (0, [.int sec, .ref h1, .int pw])), (h1, .inl (cB, n, .inl f))]) [1, 2] rfl
              have hDc := hD.sub (ws' := [(h0, .inr (0, [.int sec, .ref h1, .int pw])), (h1, .inl (cB, n, .inl f))]) [1, 2] (by decide) rfl
              have hKc := hK.sub (tys' := [(cB, .byte)]) [0] rfl
              have hFc := va_free (wc := [(h0, .inr (0, [.int sec, .ref h1, .int pw])), (h1, .inl (cB, n, .inl f))]) hD hS hA [1, 2] rfl
              refine va_calli (va_runV (As := [.int 50]) (rest := []) ⟨hx, hb, hml, hown, hts⟩ (c_Dk_two l dC dI h0 h1 H.size cB sec pw n f h4 hn 50) (cwV 1 hts (gwV good_Tb (k_Tb_23) (u_Tb_Dk _ k_Dk_17) (u_Tb_Dk _ k_Dk_18) (u_Tb_Dk _ k_Dk_0) (wcs (u_Tb_Dk _ k_Dk_19) u_Tb_Dk)) rfl rfl rfl (by decide +kernel) ⟨Nat.le_of_ble_eq_true rfl, Nat.le_of_ble_eq_true rfl⟩) (pv_of hPc hKc hDc (va_recv hKc hPc (ci := 0) (q0 := 0) rfl rfl)) rfl rfl hl.1 rfl (lv_room (Nat.le_of_ble_eq_true rfl)) d_Tb_constantsFit_89 ⟨by decide, by decide⟩) hS (fun q _ h => hFc q h) hFc (fun r_13 u t H1 locs ht hvm hw hB hz1 hk1 hS => ?_)
              obtain ⟨er_13, rfl⟩ := hw
              obtain ⟨hP1, hK1, hD1⟩ := hB
              rw [ht] at hP1
              have hP1 : va_P (dC, dI) classes [(h0, .inr (0, [.int sec, .ref h1, .int pw])), (h1, .inl (cB, n, .inl f))] H1 := hP1
              have hD1 : va_D _ [(h0, .inr (0, [.int sec, .ref h1, .int pw])), (h1, .inl (cB, n, .inl f))] := hD1
              obtain ⟨hP, hD⟩ := va_join (wr := [(b0, .inr (4, [.ref h0, .int cl, .int be, .int co, .int le, .int ro, .int sa, .int ks, .ref b1, .ref b2]))]) (w1 := [(h0, .inr (0, [.int sec, .ref h1, .int pw])), (h1, .inl (cB, n, .inl f))]) hP hD [1, 2] [0] rfl rfl (by decide) (by decide) hk1 hFc hP1 hD1
              generalize H1 = H at hP hS ⊢
              have hP : va_P (dC, dI) classes [(b0, .inr (4, [.ref h0, .int cl, .int be, .int co, .int le, .int ro, .int sa, .int ks, .ref b1, .ref b2])), (h0, .inr (0, [.int sec, .ref h1, .int pw])), (h1, .inl (cB, n, .inl f))] H := hP
              have hD : va_D A [(b0, .inr (4, [.ref h0, .int cl, .int be, .int co, .int le, .int ro, .int sa, .int ks, .ref b1, .ref b2])), (h0, .inr (0, [.int sec, .ref h1, .int pw])), (h1, .inl (cB, n, .inl f))] := hD
              refine lv_bipush (v := 6) hx hb d_Tb_constantsFit_92 (by decide) ?_
              refine lv_icmp_ne (tgt := 116) hx hb d_Tb_constantsFit_94 (by decide) (fun c_14 => ?_) (fun c_14 => ?_)
              · refine lv_iconst (v := 0) hx hb d_Tb_constantsFit_116 (by decide) ?_
                exact W.zret (v := 0) hx hb hr rfl (fun t ht hW => ⟨⟨0, (), rfl, by rw [tb_const, ← er_1, if_pos c_2, ← er_3, if_pos c_4, ← er_5, if_pos c_6, ← er_7, if_pos c_8, ← er_9, if_pos c_10, ← er_11, if_pos c_12, ← er_13, if_neg c_14], by rw [ht]; exact hP, va_K.moved hW.alike hK, hD⟩, hS.F ht⟩) hS.2.2 d_Tb_constantsFit_117
              · refine lv_aload_n hx hb d_Tb_constantsFit_97 rfl (lv_at hl 0 rfl) ?_
                refine va_get (D := (dC, dI)) (ci := 4) (v := .ref h0) (C := R_Tb) (T := F_Tb) (N := 10) hx hb hts i_Tb hown hK hP 0 rfl rfl 0 (by decide) (hts _ (k_Tb_6)) (fun _ h9 => h9) rfl d_Tb_constantsFit_98 ?_
                refine lv_sipush (v := 510) hx hb d_Tb_constantsFit_101 (by decide) ?_
                have hPc := hP.sub (ws' := [(h0, .inr (0, [.int sec, .ref h1, .int pw])), (h1, .inl (cB, n, .inl f))]) [1, 2] rfl
                have hDc := hD.sub (ws' := [(h0, .inr (0, [.int sec, .ref h1, .int pw])), (h1, .inl (cB, n, .inl f))]) [1, 2] (by decide) rfl
                have hKc := hK.sub (tys' := [(cB, .byte)]) [0] rfl
                have hFc := va_free (wc := [(h0, .inr (0, [.int sec, .ref h1, .int pw])), (h1, .inl (cB, n, .inl f))]) hD hS hA [1, 2] rfl
                refine va_calli (va_runV (As := [.int 510]) (rest := []) ⟨hx, hb, hml, hown, hts⟩ (c_Dk_two l dC dI h0 h1 H.size cB sec pw n f h4 hn 510) (cwV 1 hts (gwV good_Tb (k_Tb_23) (u_Tb_Dk _ k_Dk_17) (u_Tb_Dk _ k_Dk_18) (u_Tb_Dk _ k_Dk_0) (wcs (u_Tb_Dk _ k_Dk_19) u_Tb_Dk)) rfl rfl rfl (by decide +kernel) ⟨Nat.le_of_ble_eq_true rfl, Nat.le_of_ble_eq_true rfl⟩) (pv_of hPc hKc hDc (va_recv hKc hPc (ci := 0) (q0 := 0) rfl rfl)) rfl rfl hl.1 rfl (lv_room (Nat.le_of_ble_eq_true rfl)) d_Tb_constantsFit_104 ⟨by decide, by decide⟩) hS (fun q _ h => hFc q h) hFc (fun r_15 u t H1 locs ht hvm hw hB hz1 hk1 hS => ?_)
                obtain ⟨er_15, rfl⟩ := hw
                obtain ⟨hP1, hK1, hD1⟩ := hB
                rw [ht] at hP1
                have hP1 : va_P (dC, dI) classes [(h0, .inr (0, [.int sec, .ref h1, .int pw])), (h1, .inl (cB, n, .inl f))] H1 := hP1
                have hD1 : va_D _ [(h0, .inr (0, [.int sec, .ref h1, .int pw])), (h1, .inl (cB, n, .inl f))] := hD1
                obtain ⟨hP, hD⟩ := va_join (wr := [(b0, .inr (4, [.ref h0, .int cl, .int be, .int co, .int le, .int ro, .int sa, .int ks, .ref b1, .ref b2]))]) (w1 := [(h0, .inr (0, [.int sec, .ref h1, .int pw])), (h1, .inl (cB, n, .inl f))]) hP hD [1, 2] [0] rfl rfl (by decide) (by decide) hk1 hFc hP1 hD1
                generalize H1 = H at hP hS ⊢
                have hP : va_P (dC, dI) classes [(b0, .inr (4, [.ref h0, .int cl, .int be, .int co, .int le, .int ro, .int sa, .int ks, .ref b1, .ref b2])), (h0, .inr (0, [.int sec, .ref h1, .int pw])), (h1, .inl (cB, n, .inl f))] H := hP
                have hD : va_D A [(b0, .inr (4, [.ref h0, .int cl, .int be, .int co, .int le, .int ro, .int sa, .int ks, .ref b1, .ref b2])), (h0, .inr (0, [.int sec, .ref h1, .int pw])), (h1, .inl (cB, n, .inl f))] := hD
                refine lv_ldc (v := 43605) hx hb hown (hts _ (k_Tb_28)) d_Tb_constantsFit_107 ?_
                refine lv_icmp_ne (tgt := 116) hx hb d_Tb_constantsFit_109 (by decide) (fun c_16 => ?_) (fun c_16 => ?_)
                · refine lv_iconst (v := 0) hx hb d_Tb_constantsFit_116 (by decide) ?_
                  exact W.zret (v := 0) hx hb hr rfl (fun t ht hW => ⟨⟨0, (), rfl, by rw [tb_const, ← er_1, if_pos c_2, ← er_3, if_pos c_4, ← er_5, if_pos c_6, ← er_7, if_pos c_8, ← er_9, if_pos c_10, ← er_11, if_pos c_12, ← er_13, if_pos c_14, ← er_15, if_neg c_16], by rw [ht]; exact hP, va_K.moved hW.alike hK, hD⟩, hS.F ht⟩) hS.2.2 d_Tb_constantsFit_117
                · refine lv_iconst (v := 1) hx hb d_Tb_constantsFit_112 (by decide) ?_
                  refine lv_goto (tgt := 117) hx hb d_Tb_constantsFit_113 (by decide) ?_
                  exact W.zret (v := 1) hx hb hr rfl (fun t ht hW => ⟨⟨1, (), rfl, by rw [tb_const, ← er_1, if_pos c_2, ← er_3, if_pos c_4, ← er_5, if_pos c_6, ← er_7, if_pos c_8, ← er_9, if_pos c_10, ← er_11, if_pos c_12, ← er_13, if_pos c_14, ← er_15, if_pos c_16], by rw [ht]; exact hP, va_K.moved hW.alike hK, hD⟩, hS.F ht⟩) hS.2.2 d_Tb_constantsFit_117
