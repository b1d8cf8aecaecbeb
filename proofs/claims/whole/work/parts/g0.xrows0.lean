set_option maxHeartbeats 4000000 in
set_option maxRecDepth 100000 in
theorem l_Vt_readsInodes (l : Launch) (dC : Nat → ClassId) (dI : Nat → Nat → Nat) {K : Nat} {M : CA} {E : (Nat → Prop) → State → Prop} (X : ly_X l dC dI K M E) (sz : Nat) {Y : CT} {G0 G' : CG} {S S' : CS} {p0 : Int32} {r : Int32} (h : f_Vt_readsInodes K G0 S p0 = some (.ok r, G', S')) : Met l y_Vt_readsInodes (.code y_Vt_readsInodes cb_Vt_readsInodes 2 (some .boolean) :: V_Vq) ({ frames := 6, cells := G'.gc - G0.gc, slots := G'.gs - G0.gs, locals := 90 }) (va_Pc [.ref M.o_Vt, .int p0] (fun U => U.heap.size = sz ∧ at_ (dC, dI) (fun _ => True) (wV M Y G0 S) (tV M) U ∧ E (va_A (wV M Y G0 S) sz) U)) (va_Qi (fun (r_ : Int32) (u : CT) => r_ = r) (fun (u : CT) t => at_ (dC, dI) (va_A (wV M Y G0 S) sz) (wV M u G' S') (tV M) t) (va_A (wV M Y G0 S) sz)) (G'.gc - G0.gc) (G'.gs - G0.gs) (va_A (wV M Y G0 S) sz) := by
  refine Met.ofW (cc := cb_Vt_readsInodes) (maxL := 2) (ret := (some .boolean)) (by decide) rfl ?_
  intro p e s m args below meth c s₁ B hml hv
  obtain ⟨rfl, hsz, ⟨hP, hK, hD0⟩, hE⟩ := hv
  have hx := B.exec
  have hb := B.bytes
  have hr := B.returns
  have hts0 := atoms_spec (ws := .code y_Vt_readsInodes cb_Vt_readsInodes 2 (some .boolean) :: V_Vq) B.pre
  have hts : ∀ w ∈ V_Vq, w.before ([.ref M.o_Vt, .int p0] : List Value).toArray s = true := fun w h => hts0 w (List.mem_cons_of_mem _ h)
  have hown : s.vm.findClass R_Vt = some m.cls := findClass_of_methodNamed B.named
  subst hsz
  have hD := hD0.self (sz := s.heap.size)
  generalize hAe : va_A (wV M Y G0 S) s.heap.size = A at hD hE ⊢
  have hA : ∀ q : Nat, s.heap.size ≤ q → A q := fun q h => by rw [← hAe]; exact Or.inr h
  have hS : va_S A s.heap s.heap [] := va_S.rf
  have hP : va_P (dC, dI) classes (wV M Y G0 S) s.heap := hP
  have hK : va_K (dC, dI) classes (tV M) s := hK
  have hEw : ∀ (H : Heap) (locs : List Loc), va_S A s.heap H locs → ∀ U : State, U.heap = H → s.WarmedH U.vm → E A U := fun H locs hS U hU hW => X.kept A s U H locs hE hS hU hW
  have hl := lv_entry ([.ref M.o_Vt, .int p0]) (n := 2) (Nat.le_of_ble_eq_true rfl)
  rw [lg_entry_eq]
  generalize (lg_sl ([.ref M.o_Vt, .int p0]) ++ List.replicate (2 - (lg_sl ([.ref M.o_Vt, .int p0])).length) Slot.unset).toArray = ls at hl ⊢
  have hl : lv_has ls 2 [(0, .ref M.o_Vt), (1, .int p0)] := hl
  refine qabs (fun Q hQ => ?_)
  have hB_23 : ∀ (y_1 : Int32) (Y : CT) (G : CG) (S : CS) (H : Heap) (locs : List Loc) (ls : Array Slot), f_Vt_readsInodes_23 K y_1 G S = some (.ok r, G', S') → CG.le G0 G → va_P (dC, dI) classes (wV M Y G S) H → va_D A (wV M Y G S) → va_S A s.heap H locs → lv_has ls 2 [(1, .int y_1)] → W p l e ({ frames := 6, cells := G'.gc - G0.gc, slots := G'.gs - G0.gs, locals := 90 }) s m ([.ref M.o_Vt, .int p0] : List Value).toArray below meth c H locs (G.gc - G0.gc) (G.gs - G0.gs) Q (F0 m 23 ls []) := by
    intro y_1 Y G S H locs ls h m0 hP hD hS hl
    have mF := mo_Vt_readsInodes_23 h
    rw [f_Vt_readsInodes_23] at h
    refine lv_iload_n hx hb d_Vt_readsInodes_23 rfl (lv_at hl 0 rfl) ?_
    refine lv_iconst (v := 2) hx hb d_Vt_readsInodes_24 (by decide) ?_
    refine lv_icmp_ne (tgt := 32) hx hb d_Vt_readsInodes_25 (by decide) (fun c_3 => ?_) (fun c_3 => ?_)
    · have h := lf_f h c_3
      refine lv_iconst (v := 0) hx hb d_Vt_readsInodes_32 (by decide) ?_
      rw [hQ]
      have e1 : (0 : Int32) = r := Except.ok.inj (congrArg (fun z => z.1) (Option.some.inj h))
      have e2 : G = G' := congrArg (fun z => z.2.1) (Option.some.inj h)
      have e3 : S = S' := congrArg (fun z => z.2.2) (Option.some.inj h)
      have hP := ly_newP3 e2.symm e3.symm hP
      have hD := ly_newD3 e2.symm e3.symm hD
      refine W.widen (k := G'.gc - G0.gc) (n := G'.gs - G0.gs) (ly_wc e2) (ly_ws e2) ?_
      exact W.zret (v := 0) hx hb hr rfl (fun t ht hW => ⟨⟨0, Y, rfl, e1, by rw [ht]; exact hP, va_K.moved hW.alike hK, hD⟩, hS.F ht⟩) hS.2.2 d_Vt_readsInodes_33
    · have h := lf_t h c_3
      refine lv_iconst (v := 1) hx hb d_Vt_readsInodes_28 (by decide) ?_
      refine lv_goto (tgt := 33) hx hb d_Vt_readsInodes_29 (by decide) ?_
      rw [hQ]
      have e1 : (1 : Int32) = r := Except.ok.inj (congrArg (fun z => z.1) (Option.some.inj h))
      have e2 : G = G' := congrArg (fun z => z.2.1) (Option.some.inj h)
      have e3 : S = S' := congrArg (fun z => z.2.2) (Option.some.inj h)
      have hP := ly_newP3 e2.symm e3.symm hP
      have hD := ly_newD3 e2.symm e3.symm hD
      refine W.widen (k := G'.gc - G0.gc) (n := G'.gs - G0.gs) (ly_wc e2) (ly_ws e2) ?_
      exact W.zret (v := 1) hx hb hr rfl (fun t ht hW => ⟨⟨1, Y, rfl, e1, by rw [ht]; exact hP, va_K.moved hW.alike hK, hD⟩, hS.F ht⟩) hS.2.2 d_Vt_readsInodes_33
  have m0 : CG.le G0 G0 := ⟨Nat.le_refl _, Nat.le_refl _⟩
  have mF := mo_Vt_readsInodes h
  refine W.widen (k := G0.gc - G0.gc) (n := G0.gs - G0.gs) (Nat.zero_le _) (Nat.zero_le _) ?_
  rw [f_Vt_readsInodes] at h
  refine lv_iload_n hx hb d_Vt_readsInodes_0 rfl (lv_at hl 1 rfl) ?_
  refine lv_iconst (v := 2) hx hb d_Vt_readsInodes_1 (by decide) ?_
  refine lv_icmp_eq (tgt := 23) hx hb d_Vt_readsInodes_2 (by decide) (fun c_1 => ?_) (fun c_1 => ?_)
  · have h := lf_t h c_1
    exact hB_23 p0 Y G0 S _ _ _ h m0 hP hD hS (lv_sub hl [1] rfl)
  · have h := lf_f h c_1
    refine lv_aload_n hx hb d_Vt_readsInodes_5 rfl (lv_at hl 0 rfl) ?_
    refine va_get (D := (dC, dI)) (ci := 11) (v := .int S.v_Vt_lastFault) (C := R_Vt) (T := F_Vt) (N := 16) hx hb hts (fun w h => u_Vq_Vt w (i_Vt w h)) hown hK hP 0 rfl rfl 14 (by decide) (hts _ (u_Vq_Vt _ k_Vt_43)) (fun _ h9 => h9) rfl d_Vt_readsInodes_6 ?_
    refine lv_if_eq (tgt := 23) hx hb d_Vt_readsInodes_9 (by decide) (fun c_2 => ?_) (fun c_2 => ?_)
    · have h := lf_t h c_2
      exact hB_23 p0 Y G0 S _ _ _ h m0 hP hD hS (lv_sub hl [1] rfl)
    · have h := lf_f h c_2
      exact lf_xe h
set_option maxHeartbeats 4000000 in
set_option maxRecDepth 100000 in
theorem lt_Vt_readsInodes_1 (l : Launch) (hfl : l.flags = pinnedFlags ++ [noTraceFlag]) (dC : Nat → ClassId) (dI : Nat → Nat → Nat) {K : Nat} {M : CA} {E : (Nat → Prop) → State → Prop} (X : ly_X l dC dI K M E) (sz : Nat) {Y : CT} {G0 G' : CG} {S S' : CS} {p0 : Int32} (h : f_Vt_readsInodes K G0 S p0 = some (.error 1, G', S')) : MetX l y_Vt_readsInodes (.code y_Vt_readsInodes cb_Vt_readsInodes 2 (some .boolean) :: V_Vq) ({ frames := 6, cells := G'.gc - G0.gc, slots := G'.gs - G0.gs, locals := 90 }) (va_Pc [.ref M.o_Vt, .int p0] (fun U => U.heap.size = sz ∧ at_ (dC, dI) (fun _ => True) (wV M Y G0 S) (tV M) U ∧ E (va_A (wV M Y G0 S) sz) U)) (fun _ _ _ _ => False) (x_Q "java/lang/IllegalStateException" (va_A (wV M Y G0 S) sz) (fun t => ∃ u : CT, at_ (dC, dI) (va_A (wV M Y G0 S) sz) (wV M u G' S') (tV M) t)) (G'.gc - G0.gc) (G'.gs - G0.gs) (va_A (wV M Y G0 S) sz) := by
  refine MetX.ofW (cc := cb_Vt_readsInodes) (maxL := 2) (ret := (some .boolean)) (by decide) rfl ?_
  intro p e s m args below meth c s₁ B hml hv
  obtain ⟨rfl, hsz, ⟨hP, hK, hD0⟩, hE⟩ := hv
  have hx := B.exec
  have hb := B.bytes
  have hr := B.returns
  have hts0 := atoms_spec (ws := .code y_Vt_readsInodes cb_Vt_readsInodes 2 (some .boolean) :: V_Vq) B.pre
  have hts : ∀ w ∈ V_Vq, w.before ([.ref M.o_Vt, .int p0] : List Value).toArray s = true := fun w h => hts0 w (List.mem_cons_of_mem _ h)
  have hown : s.vm.findClass R_Vt = some m.cls := findClass_of_methodNamed B.named
  have hlocks := B.notSynchronized
  have hout := x_table B (hts0 _ List.mem_cons_self)
  subst hsz
  have hD := hD0.self (sz := s.heap.size)
  generalize hAe : va_A (wV M Y G0 S) s.heap.size = A at hD hE ⊢
  have hA : ∀ q : Nat, s.heap.size ≤ q → A q := fun q h => by rw [← hAe]; exact Or.inr h
  have hS : va_S A s.heap s.heap [] := va_S.rf
  have hP : va_P (dC, dI) classes (wV M Y G0 S) s.heap := hP
  have hK : va_K (dC, dI) classes (tV M) s := hK
  have hEw : ∀ (H : Heap) (locs : List Loc), va_S A s.heap H locs → ∀ U : State, U.heap = H → s.WarmedH U.vm → E A U := fun H locs hS U hU hW => X.kept A s U H locs hE hS hU hW
  have hl := lv_entry ([.ref M.o_Vt, .int p0]) (n := 2) (Nat.le_of_ble_eq_true rfl)
  rw [lg_entry_eq]
  generalize (lg_sl ([.ref M.o_Vt, .int p0]) ++ List.replicate (2 - (lg_sl ([.ref M.o_Vt, .int p0])).length) Slot.unset).toArray = ls at hl ⊢
  have hl : lv_has ls 2 [(0, .ref M.o_Vt), (1, .int p0)] := hl
  refine qabs (fun Q hQ => ?_)
  have hB_23 : ∀ (y_1 : Int32) (Y : CT) (G : CG) (S : CS) (H : Heap) (locs : List Loc) (ls : Array Slot), f_Vt_readsInodes_23 K y_1 G S = some (.error 1, G', S') → CG.le G0 G → va_P (dC, dI) classes (wV M Y G S) H → va_D A (wV M Y G S) → va_S A s.heap H locs → lv_has ls 2 [(1, .int y_1)] → W p l e ({ frames := 6, cells := G'.gc - G0.gc, slots := G'.gs - G0.gs, locals := 90 }) s m ([.ref M.o_Vt, .int p0] : List Value).toArray below meth c H locs (G.gc - G0.gc) (G.gs - G0.gs) Q (F0 m 23 ls []) := by
    intro y_1 Y G S H locs ls h m0 hP hD hS hl
    have mF := mo_Vt_readsInodes_23 h
    rw [f_Vt_readsInodes_23] at h
    refine lv_iload_n hx hb d_Vt_readsInodes_23 rfl (lv_at hl 0 rfl) ?_
    refine lv_iconst (v := 2) hx hb d_Vt_readsInodes_24 (by decide) ?_
    refine lv_icmp_ne (tgt := 32) hx hb d_Vt_readsInodes_25 (by decide) (fun c_3 => ?_) (fun c_3 => ?_)
    · have h := lf_f h c_3
      refine lv_iconst (v := 0) hx hb d_Vt_readsInodes_32 (by decide) ?_
      exact lf_xo h
    · have h := lf_t h c_3
      refine lv_iconst (v := 1) hx hb d_Vt_readsInodes_28 (by decide) ?_
      refine lv_goto (tgt := 33) hx hb d_Vt_readsInodes_29 (by decide) ?_
      exact lf_xo h
  have m0 : CG.le G0 G0 := ⟨Nat.le_refl _, Nat.le_refl _⟩
  have mF := mo_Vt_readsInodes h
  refine W.widen (k := G0.gc - G0.gc) (n := G0.gs - G0.gs) (Nat.zero_le _) (Nat.zero_le _) ?_
  rw [f_Vt_readsInodes] at h
  refine lv_iload_n hx hb d_Vt_readsInodes_0 rfl (lv_at hl 1 rfl) ?_
  refine lv_iconst (v := 2) hx hb d_Vt_readsInodes_1 (by decide) ?_
  refine lv_icmp_eq (tgt := 23) hx hb d_Vt_readsInodes_2 (by decide) (fun c_1 => ?_) (fun c_1 => ?_)
  · have h := lf_t h c_1
    exact hB_23 p0 Y G0 S _ _ _ h m0 hP hD hS (lv_sub hl [1] rfl)
  · have h := lf_f h c_1
    refine lv_aload_n hx hb d_Vt_readsInodes_5 rfl (lv_at hl 0 rfl) ?_
    refine va_get (D := (dC, dI)) (ci := 11) (v := .int S.v_Vt_lastFault) (C := R_Vt) (T := F_Vt) (N := 16) hx hb hts (fun w h => u_Vq_Vt w (i_Vt w h)) hown hK hP 0 rfl rfl 14 (by decide) (hts _ (u_Vq_Vt _ k_Vt_43)) (fun _ h9 => h9) rfl d_Vt_readsInodes_6 ?_
    refine lv_if_eq (tgt := 23) hx hb d_Vt_readsInodes_9 (by decide) (fun c_2 => ?_) (fun c_2 => ?_)
    · have h := lf_t h c_2
      exact hB_23 p0 Y G0 S _ _ _ h m0 hP hD hS (lv_sub hl [1] rfl)
    · have h := lf_f h c_2
      rw [hQ]
      have e2 : G0.made 1 6 = G' := congrArg (fun z => z.2.1) (Option.some.inj h)
      have e3 : S = S' := congrArg (fun z => z.2.2) (Option.some.inj h)
      have hP := ly_newP3 e2.symm e3.symm (ly_madeP (c := 1) (n := 6) hP)
      have hD := ly_newD3 e2.symm e3.symm (ly_madeD (c := 1) (n := 6) hD)
      refine W.mono (ly_mqx (fun t z => ⟨Y, z⟩)) ?_
      exact x_thrG (own := R_Vt) (cls := "java/lang/IllegalStateException") (ik := 310) (is := 333) (ic := 314) (k := 3) hx hb (Launch.traces_off hfl (Stand.of_body B).admits) hlocks hown (by decide) (fun T hT => (X.xt_333 _ _ (hEw _ _ hS (xs s T) hT (State.WarmedH.refl s))).1) (hts _ (u_Vq_Vt _ k_Vt_114)) (hts _ (u_Vq_Vt _ k_Vt_115)) (hts _ (u_Vq_Vt _ k_Vt_3)) (X.xt_333 _ _ hE).2 (hl.1.trans hml.symm) d_Vt_readsInodes_12 d_Vt_readsInodes_15 (Or.inr ⟨d_Vt_readsInodes_16, rfl⟩) d_Vt_readsInodes_19 d_Vt_readsInodes_22 hout (Nat.le_of_ble_eq_true rfl) (Nat.le_of_ble_eq_true rfl) (ly_t1 e2 m0) (Nat.le_refl _) (ly_t2 e2 m0) (Nat.le_refl _) hP hK hD hS
set_option maxHeartbeats 4000000 in
set_option maxRecDepth 100000 in
theorem l_Vt_itemHere (l : Launch) (dC : Nat → ClassId) (dI : Nat → Nat → Nat) {K : Nat} {M : CA} {E : (Nat → Prop) → State → Prop} (X : ly_X l dC dI K M E) (sz : Nat) {Y : CT} {G0 G' : CG} {S S' : CS} {p0 : Int32} {r : Int32} (h : f_Vt_itemHere K G0 S p0 = some (.ok r, G', S')) : Met l y_Vt_itemHere (.code y_Vt_itemHere cb_Vt_itemHere 2 (some .int) :: V_Vq) ({ frames := 6, cells := G'.gc - G0.gc, slots := G'.gs - G0.gs, locals := 90 }) (va_Pc [.ref M.o_Vt, .int p0] (fun U => U.heap.size = sz ∧ at_ (dC, dI) (fun _ => True) (wV M Y G0 S) (tV M) U ∧ E (va_A (wV M Y G0 S) sz) U)) (va_Qi (fun (r_ : Int32) (u : CT) => r_ = r) (fun (u : CT) t => at_ (dC, dI) (va_A (wV M Y G0 S) sz) (wV M u G' S') (tV M) t) (va_A (wV M Y G0 S) sz)) (G'.gc - G0.gc) (G'.gs - G0.gs) (va_A (wV M Y G0 S) sz) := by
  refine Met.ofW (cc := cb_Vt_itemHere) (maxL := 2) (ret := (some .int)) (by decide) rfl ?_
  intro p e s m args below meth c s₁ B hml hv
  obtain ⟨rfl, hsz, ⟨hP, hK, hD0⟩, hE⟩ := hv
  have hx := B.exec
  have hb := B.bytes
  have hr := B.returns
  have hts0 := atoms_spec (ws := .code y_Vt_itemHere cb_Vt_itemHere 2 (some .int) :: V_Vq) B.pre
  have hts : ∀ w ∈ V_Vq, w.before ([.ref M.o_Vt, .int p0] : List Value).toArray s = true := fun w h => hts0 w (List.mem_cons_of_mem _ h)
  have hown : s.vm.findClass R_Vt = some m.cls := findClass_of_methodNamed B.named
  subst hsz
  have hD := hD0.self (sz := s.heap.size)
  generalize hAe : va_A (wV M Y G0 S) s.heap.size = A at hD hE ⊢
  have hA : ∀ q : Nat, s.heap.size ≤ q → A q := fun q h => by rw [← hAe]; exact Or.inr h
  have hS : va_S A s.heap s.heap [] := va_S.rf
  have hP : va_P (dC, dI) classes (wV M Y G0 S) s.heap := hP
  have hK : va_K (dC, dI) classes (tV M) s := hK
  have hEw : ∀ (H : Heap) (locs : List Loc), va_S A s.heap H locs → ∀ U : State, U.heap = H → s.WarmedH U.vm → E A U := fun H locs hS U hU hW => X.kept A s U H locs hE hS hU hW
  have hl := lv_entry ([.ref M.o_Vt, .int p0]) (n := 2) (Nat.le_of_ble_eq_true rfl)
  rw [lg_entry_eq]
  generalize (lg_sl ([.ref M.o_Vt, .int p0]) ++ List.replicate (2 - (lg_sl ([.ref M.o_Vt, .int p0])).length) Slot.unset).toArray = ls at hl ⊢
  have hl : lv_has ls 2 [(0, .ref M.o_Vt), (1, .int p0)] := hl
  refine qabs (fun Q hQ => ?_)
  have hB_19 : ∀ (Y : CT) (G : CG) (S : CS) (H : Heap) (locs : List Loc) (ls : Array Slot), f_Vt_itemHere_19 K G S = some (.ok r, G', S') → CG.le G0 G → va_P (dC, dI) classes (wV M Y G S) H → va_D A (wV M Y G S) → va_S A s.heap H locs → lv_has ls 2 [] → W p l e ({ frames := 6, cells := G'.gc - G0.gc, slots := G'.gs - G0.gs, locals := 90 }) s m ([.ref M.o_Vt, .int p0] : List Value).toArray below meth c H locs (G.gc - G0.gc) (G.gs - G0.gs) Q (F0 m 19 ls []) := by
    intro Y G S H locs ls h m0 hP hD hS hl
    have mF := mo_Vt_itemHere_19 h
    rw [f_Vt_itemHere_19] at h
    exact lf_xe h
  have m0 : CG.le G0 G0 := ⟨Nat.le_refl _, Nat.le_refl _⟩
  have mF := mo_Vt_itemHere h
  refine W.widen (k := G0.gc - G0.gc) (n := G0.gs - G0.gs) (Nat.zero_le _) (Nat.zero_le _) ?_
  rw [f_Vt_itemHere] at h
  refine lv_iload_n hx hb d_Vt_itemHere_0 rfl (lv_at hl 1 rfl) ?_
  refine lv_if_lt (tgt := 19) hx hb d_Vt_itemHere_1 (by decide) (fun c_1 => ?_) (fun c_1 => ?_)
  · have h := lf_t h c_1
    exact hB_19 Y G0 S _ _ _ h m0 hP hD hS (lv_sub hl [] rfl)
  · have h := lf_f h c_1
    refine lv_iload_n hx hb d_Vt_itemHere_4 rfl (lv_at hl 1 rfl) ?_
    refine lv_aload_n hx hb d_Vt_itemHere_5 rfl (lv_at hl 0 rfl) ?_
    refine va_get (D := (dC, dI)) (ci := 11) (v := .ref M.o_Tr) (C := R_Vt) (T := F_Vt) (N := 16) hx hb hts (fun w h => u_Vq_Vt w (i_Vt w h)) hown hK hP 0 rfl rfl 3 (by decide) (hts _ (u_Vq_Vt _ k_Vt_32)) (fun _ h9 => h9) rfl d_Vt_itemHere_6 ?_
    refine lv_aload_n hx hb d_Vt_itemHere_9 rfl (lv_at hl 0 rfl) ?_
    refine va_get (D := (dC, dI)) (ci := 11) (v := .int S.v_Vt_here) (C := R_Vt) (T := F_Vt) (N := 16) hx hb hts (fun w h => u_Vq_Vt w (i_Vt w h)) hown hK hP 0 rfl rfl 12 (by decide) (hts _ (u_Vq_Vt _ k_Vt_41)) (fun _ h9 => h9) rfl d_Vt_itemHere_10 ?_
    obtain ⟨r_2, S_2, hc_2, h⟩ := lf_cE h
    have hFc := lx_free hD hS hA
    refine va_calli (va_runV (As := [.int S.v_Vt_here]) (rest := [.int p0]) ⟨hx, hb, hml, hown, hts⟩ (l_Tr_countIn l dC dI X _ hc_2) (cwV 1 hts (gwV good_Vq (u_Vq_Vt _ k_Vt_118) (u_Vq_Tr _ k_Tr_91) (u_Vq_Tr _ k_Tr_92) (u_Vq_Tr _ k_Tr_0) (wcs (u_Vq_Tr _ k_Tr_93) (fun _ h => h))) rfl rfl rfl (by decide +kernel) ⟨Nat.le_of_ble_eq_true rfl, Nat.le_of_ble_eq_true rfl⟩) (pv_ofE (X.same _) (fun U z1 z2 => X.mono _ _ U hFc (hEw _ _ hS U z1 z2)) hP hK hD (va_recv hK hP (ci := 5) (q0 := 4) rfl rfl)) rfl rfl hl.1 rfl (lv_room (Nat.le_of_ble_eq_true rfl)) d_Vt_itemHere_13 ⟨ly_c0 mF.1, ly_c0 mF.2⟩) hS (fun q _ h => hFc q h) hFc (fun r_ u t H locs ht hvm hw hB hz1 hk1 hS => ?_)
    rw [hw]
    obtain ⟨hP, -, hD⟩ := hB
    rw [ht] at hP
    have hD := lx_dj hD hFc
    refine lv_icmp_lt (tgt := 30) hx hb d_Vt_itemHere_16 (by decide) (fun c_3 => ?_) (fun c_3 => ?_)
    · have h := lf_t h c_3
      refine lv_aload_n hx hb d_Vt_itemHere_30 rfl (lv_at hl 0 rfl) ?_
      refine va_get (D := (dC, dI)) (ci := 11) (v := .ref M.o_Tr) (C := R_Vt) (T := F_Vt) (N := 16) hx hb hts (fun w h => u_Vq_Vt w (i_Vt w h)) hown hK hP 0 rfl rfl 3 (by decide) (hts _ (u_Vq_Vt _ k_Vt_32)) (fun _ h9 => h9) rfl d_Vt_itemHere_31 ?_
      refine lv_aload_n hx hb d_Vt_itemHere_34 rfl (lv_at hl 0 rfl) ?_
      refine va_get (D := (dC, dI)) (ci := 11) (v := .int S_2.v_Vt_here) (C := R_Vt) (T := F_Vt) (N := 16) hx hb hts (fun w h => u_Vq_Vt w (i_Vt w h)) hown hK hP 0 rfl rfl 12 (by decide) (hts _ (u_Vq_Vt _ k_Vt_41)) (fun _ h9 => h9) rfl d_Vt_itemHere_35 ?_
      refine lv_iload_n hx hb d_Vt_itemHere_38 rfl (lv_at hl 1 rfl) ?_
      obtain ⟨r_4, S_4, hc_4, h⟩ := lf_cE h
      have hFc := lx_free hD hS hA
      refine va_calli (va_runV (As := [.int S_2.v_Vt_here, .int p0]) (rest := []) ⟨hx, hb, hml, hown, hts⟩ (l_Tr_kid l dC dI X _ hc_4) (cwV 2 hts (gwV good_Vq (u_Vq_Vt _ k_Vt_133) (u_Vq_Tr _ k_Tr_54) (u_Vq_Tr _ k_Tr_55) (u_Vq_Tr _ k_Tr_0) (wcs (u_Vq_Tr _ k_Tr_56) (fun _ h => h))) rfl rfl rfl (by decide +kernel) ⟨Nat.le_of_ble_eq_true rfl, Nat.le_of_ble_eq_true rfl⟩) (pv_ofE (X.same _) (fun U z1 z2 => X.mono _ _ U hFc (hEw _ _ hS U z1 z2)) hP hK hD (va_recv hK hP (ci := 5) (q0 := 4) rfl rfl)) rfl rfl hl.1 rfl (lv_room (Nat.le_of_ble_eq_true rfl)) d_Vt_itemHere_39 ⟨ly_c0 mF.1, ly_c0 mF.2⟩) hS (fun q _ h => hFc q h) hFc (fun r_ u t H locs ht hvm hw hB hz1 hk1 hS => ?_)
      rw [hw]
      obtain ⟨hP, -, hD⟩ := hB
      rw [ht] at hP
      have hD := lx_dj hD hFc
      rw [hQ]
      have e1 : r_4 = r := Except.ok.inj (congrArg (fun z => z.1) (Option.some.inj h))
      have e2 : G0 = G' := congrArg (fun z => z.2.1) (Option.some.inj h)
      have e3 : S_4 = S' := congrArg (fun z => z.2.2) (Option.some.inj h)
      have hP := ly_newP3 e2.symm e3.symm hP
      have hD := ly_newD3 e2.symm e3.symm hD
      refine W.widen (k := G'.gc - G0.gc) (n := G'.gs - G0.gs) (ly_wc e2) (ly_ws e2) ?_
      exact W.iret (v := r_4) hx hb hr (fun t ht hW => ⟨⟨r_4, Y, rfl, e1, by rw [ht]; exact hP, va_K.moved hW.alike hK, hD⟩, hS.F ht⟩) hS.2.2 d_Vt_itemHere_42
    · have h := lf_f h c_3
      exact hB_19 Y G0 S_2 _ _ _ h m0 hP hD hS (lv_sub hl [] rfl)
set_option maxHeartbeats 4000000 in
set_option maxRecDepth 100000 in
theorem lt_Vt_itemHere_2 (l : Launch) (hfl : l.flags = pinnedFlags ++ [noTraceFlag]) (dC : Nat → ClassId) (dI : Nat → Nat → Nat) {K : Nat} {M : CA} {E : (Nat → Prop) → State → Prop} (X : ly_X l dC dI K M E) (sz : Nat) {Y : CT} {G0 G' : CG} {S S' : CS} {p0 : Int32} (h : f_Vt_itemHere K G0 S p0 = some (.error 2, G', S')) : MetX l y_Vt_itemHere (.code y_Vt_itemHere cb_Vt_itemHere 2 (some .int) :: V_Vq) ({ frames := 6, cells := G'.gc - G0.gc, slots := G'.gs - G0.gs, locals := 90 }) (va_Pc [.ref M.o_Vt, .int p0] (fun U => U.heap.size = sz ∧ at_ (dC, dI) (fun _ => True) (wV M Y G0 S) (tV M) U ∧ E (va_A (wV M Y G0 S) sz) U)) (fun _ _ _ _ => False) (x_Q "java/lang/IndexOutOfBoundsException" (va_A (wV M Y G0 S) sz) (fun t => ∃ u : CT, at_ (dC, dI) (va_A (wV M Y G0 S) sz) (wV M u G' S') (tV M) t)) (G'.gc - G0.gc) (G'.gs - G0.gs) (va_A (wV M Y G0 S) sz) := by
  refine MetX.ofW (cc := cb_Vt_itemHere) (maxL := 2) (ret := (some .int)) (by decide) rfl ?_
  intro p e s m args below meth c s₁ B hml hv
  obtain ⟨rfl, hsz, ⟨hP, hK, hD0⟩, hE⟩ := hv
  have hx := B.exec
  have hb := B.bytes
  have hr := B.returns
  have hts0 := atoms_spec (ws := .code y_Vt_itemHere cb_Vt_itemHere 2 (some .int) :: V_Vq) B.pre
  have hts : ∀ w ∈ V_Vq, w.before ([.ref M.o_Vt, .int p0] : List Value).toArray s = true := fun w h => hts0 w (List.mem_cons_of_mem _ h)
  have hown : s.vm.findClass R_Vt = some m.cls := findClass_of_methodNamed B.named
  have hlocks := B.notSynchronized
  have hout := x_table B (hts0 _ List.mem_cons_self)
  subst hsz
  have hD := hD0.self (sz := s.heap.size)
  generalize hAe : va_A (wV M Y G0 S) s.heap.size = A at hD hE ⊢
  have hA : ∀ q : Nat, s.heap.size ≤ q → A q := fun q h => by rw [← hAe]; exact Or.inr h
  have hS : va_S A s.heap s.heap [] := va_S.rf
  have hP : va_P (dC, dI) classes (wV M Y G0 S) s.heap := hP
  have hK : va_K (dC, dI) classes (tV M) s := hK
  have hEw : ∀ (H : Heap) (locs : List Loc), va_S A s.heap H locs → ∀ U : State, U.heap = H → s.WarmedH U.vm → E A U := fun H locs hS U hU hW => X.kept A s U H locs hE hS hU hW
  have hl := lv_entry ([.ref M.o_Vt, .int p0]) (n := 2) (Nat.le_of_ble_eq_true rfl)
  rw [lg_entry_eq]
  generalize (lg_sl ([.ref M.o_Vt, .int p0]) ++ List.replicate (2 - (lg_sl ([.ref M.o_Vt, .int p0])).length) Slot.unset).toArray = ls at hl ⊢
  have hl : lv_has ls 2 [(0, .ref M.o_Vt), (1, .int p0)] := hl
  refine qabs (fun Q hQ => ?_)
  have hB_19 : ∀ (Y : CT) (G : CG) (S : CS) (H : Heap) (locs : List Loc) (ls : Array Slot), f_Vt_itemHere_19 K G S = some (.error 2, G', S') → CG.le G0 G → va_P (dC, dI) classes (wV M Y G S) H → va_D A (wV M Y G S) → va_S A s.heap H locs → lv_has ls 2 [] → W p l e ({ frames := 6, cells := G'.gc - G0.gc, slots := G'.gs - G0.gs, locals := 90 }) s m ([.ref M.o_Vt, .int p0] : List Value).toArray below meth c H locs (G.gc - G0.gc) (G.gs - G0.gs) Q (F0 m 19 ls []) := by
    intro Y G S H locs ls h m0 hP hD hS hl
    have mF := mo_Vt_itemHere_19 h
    rw [f_Vt_itemHere_19] at h
    rw [hQ]
    have e2 : G.made 1 6 = G' := congrArg (fun z => z.2.1) (Option.some.inj h)
    have e3 : S = S' := congrArg (fun z => z.2.2) (Option.some.inj h)
    have hP := ly_newP3 e2.symm e3.symm (ly_madeP (c := 1) (n := 6) hP)
    have hD := ly_newD3 e2.symm e3.symm (ly_madeD (c := 1) (n := 6) hD)
    refine W.mono (ly_mqx (fun t z => ⟨Y, z⟩)) ?_
    exact x_thrG (own := R_Vt) (cls := "java/lang/IndexOutOfBoundsException") (ik := 337) (is := 339) (ic := 341) (k := 3) hx hb (Launch.traces_off hfl (Stand.of_body B).admits) hlocks hown (by decide) (fun T hT => (X.xt_339 _ _ (hEw _ _ hS (xs s T) hT (State.WarmedH.refl s))).1) (hts _ (u_Vq_Vt _ k_Vt_125)) (hts _ (u_Vq_Vt _ k_Vt_126)) (hts _ (u_Vq_Vt _ k_Vt_2)) (X.xt_339 _ _ hE).2 (hl.1.trans hml.symm) d_Vt_itemHere_19 d_Vt_itemHere_22 (Or.inr ⟨d_Vt_itemHere_23, rfl⟩) d_Vt_itemHere_26 d_Vt_itemHere_29 hout (Nat.le_of_ble_eq_true rfl) (Nat.le_of_ble_eq_true rfl) (ly_t1 e2 m0) (Nat.le_refl _) (ly_t2 e2 m0) (Nat.le_refl _) hP hK hD hS
  have m0 : CG.le G0 G0 := ⟨Nat.le_refl _, Nat.le_refl _⟩
  have mF := mo_Vt_itemHere h
  refine W.widen (k := G0.gc - G0.gc) (n := G0.gs - G0.gs) (Nat.zero_le _) (Nat.zero_le _) ?_
  rw [f_Vt_itemHere] at h
  refine lv_iload_n hx hb d_Vt_itemHere_0 rfl (lv_at hl 1 rfl) ?_
  refine lv_if_lt (tgt := 19) hx hb d_Vt_itemHere_1 (by decide) (fun c_1 => ?_) (fun c_1 => ?_)
  · have h := lf_t h c_1
    exact hB_19 Y G0 S _ _ _ h m0 hP hD hS (lv_sub hl [] rfl)
  · have h := lf_f h c_1
    refine lv_iload_n hx hb d_Vt_itemHere_4 rfl (lv_at hl 1 rfl) ?_
    refine lv_aload_n hx hb d_Vt_itemHere_5 rfl (lv_at hl 0 rfl) ?_
    refine va_get (D := (dC, dI)) (ci := 11) (v := .ref M.o_Tr) (C := R_Vt) (T := F_Vt) (N := 16) hx hb hts (fun w h => u_Vq_Vt w (i_Vt w h)) hown hK hP 0 rfl rfl 3 (by decide) (hts _ (u_Vq_Vt _ k_Vt_32)) (fun _ h9 => h9) rfl d_Vt_itemHere_6 ?_
    refine lv_aload_n hx hb d_Vt_itemHere_9 rfl (lv_at hl 0 rfl) ?_
    refine va_get (D := (dC, dI)) (ci := 11) (v := .int S.v_Vt_here) (C := R_Vt) (T := F_Vt) (N := 16) hx hb hts (fun w h => u_Vq_Vt w (i_Vt w h)) hown hK hP 0 rfl rfl 12 (by decide) (hts _ (u_Vq_Vt _ k_Vt_41)) (fun _ h9 => h9) rfl d_Vt_itemHere_10 ?_
    obtain ⟨r_2, S_2, hc_2, h⟩ := lf_cE h
    have hFc := lx_free hD hS hA
    refine va_calli (va_runV (As := [.int S.v_Vt_here]) (rest := [.int p0]) ⟨hx, hb, hml, hown, hts⟩ (l_Tr_countIn l dC dI X _ hc_2) (cwV 1 hts (gwV good_Vq (u_Vq_Vt _ k_Vt_118) (u_Vq_Tr _ k_Tr_91) (u_Vq_Tr _ k_Tr_92) (u_Vq_Tr _ k_Tr_0) (wcs (u_Vq_Tr _ k_Tr_93) (fun _ h => h))) rfl rfl rfl (by decide +kernel) ⟨Nat.le_of_ble_eq_true rfl, Nat.le_of_ble_eq_true rfl⟩) (pv_ofE (X.same _) (fun U z1 z2 => X.mono _ _ U hFc (hEw _ _ hS U z1 z2)) hP hK hD (va_recv hK hP (ci := 5) (q0 := 4) rfl rfl)) rfl rfl hl.1 rfl (lv_room (Nat.le_of_ble_eq_true rfl)) d_Vt_itemHere_13 ⟨ly_c0 mF.1, ly_c0 mF.2⟩) hS (fun q _ h => hFc q h) hFc (fun r_ u t H locs ht hvm hw hB hz1 hk1 hS => ?_)
    rw [hw]
    obtain ⟨hP, -, hD⟩ := hB
    rw [ht] at hP
    have hD := lx_dj hD hFc
    refine lv_icmp_lt (tgt := 30) hx hb d_Vt_itemHere_16 (by decide) (fun c_3 => ?_) (fun c_3 => ?_)
    · have h := lf_t h c_3
      refine lv_aload_n hx hb d_Vt_itemHere_30 rfl (lv_at hl 0 rfl) ?_
      refine va_get (D := (dC, dI)) (ci := 11) (v := .ref M.o_Tr) (C := R_Vt) (T := F_Vt) (N := 16) hx hb hts (fun w h => u_Vq_Vt w (i_Vt w h)) hown hK hP 0 rfl rfl 3 (by decide) (hts _ (u_Vq_Vt _ k_Vt_32)) (fun _ h9 => h9) rfl d_Vt_itemHere_31 ?_
      refine lv_aload_n hx hb d_Vt_itemHere_34 rfl (lv_at hl 0 rfl) ?_
      refine va_get (D := (dC, dI)) (ci := 11) (v := .int S_2.v_Vt_here) (C := R_Vt) (T := F_Vt) (N := 16) hx hb hts (fun w h => u_Vq_Vt w (i_Vt w h)) hown hK hP 0 rfl rfl 12 (by decide) (hts _ (u_Vq_Vt _ k_Vt_41)) (fun _ h9 => h9) rfl d_Vt_itemHere_35 ?_
      refine lv_iload_n hx hb d_Vt_itemHere_38 rfl (lv_at hl 1 rfl) ?_
      obtain ⟨r_4, S_4, hc_4, h⟩ := lf_cE h
      have hFc := lx_free hD hS hA
      refine va_calli (va_runV (As := [.int S_2.v_Vt_here, .int p0]) (rest := []) ⟨hx, hb, hml, hown, hts⟩ (l_Tr_kid l dC dI X _ hc_4) (cwV 2 hts (gwV good_Vq (u_Vq_Vt _ k_Vt_133) (u_Vq_Tr _ k_Tr_54) (u_Vq_Tr _ k_Tr_55) (u_Vq_Tr _ k_Tr_0) (wcs (u_Vq_Tr _ k_Tr_56) (fun _ h => h))) rfl rfl rfl (by decide +kernel) ⟨Nat.le_of_ble_eq_true rfl, Nat.le_of_ble_eq_true rfl⟩) (pv_ofE (X.same _) (fun U z1 z2 => X.mono _ _ U hFc (hEw _ _ hS U z1 z2)) hP hK hD (va_recv hK hP (ci := 5) (q0 := 4) rfl rfl)) rfl rfl hl.1 rfl (lv_room (Nat.le_of_ble_eq_true rfl)) d_Vt_itemHere_39 ⟨ly_c0 mF.1, ly_c0 mF.2⟩) hS (fun q _ h => hFc q h) hFc (fun r_ u t H locs ht hvm hw hB hz1 hk1 hS => ?_)
      rw [hw]
      obtain ⟨hP, -, hD⟩ := hB
      rw [ht] at hP
      have hD := lx_dj hD hFc
      exact lf_xo h
    · have h := lf_f h c_3
      exact hB_19 Y G0 S_2 _ _ _ h m0 hP hD hS (lv_sub hl [] rfl)
set_option maxHeartbeats 4000000 in
set_option maxRecDepth 100000 in
theorem l_Vt_entryHere (l : Launch) (dC : Nat → ClassId) (dI : Nat → Nat → Nat) {K : Nat} {M : CA} {E : (Nat → Prop) → State → Prop} (X : ly_X l dC dI K M E) (sz : Nat) {Y : CT} {G0 G' : CG} {S S' : CS} {p0 : Int32} {r : Int32} (h : f_Vt_entryHere K G0 S p0 = some (.ok r, G', S')) : Met l y_Vt_entryHere (.code y_Vt_entryHere cb_Vt_entryHere 2 (some .int) :: V_Vq) ({ frames := 6, cells := G'.gc - G0.gc, slots := G'.gs - G0.gs, locals := 93 }) (va_Pc [.ref M.o_Vt, .int p0] (fun U => U.heap.size = sz ∧ at_ (dC, dI) (fun _ => True) (wV M Y G0 S) (tV M) U ∧ E (va_A (wV M Y G0 S) sz) U)) (va_Qi (fun (r_ : Int32) (u : CT) => r_ = r) (fun (u : CT) t => at_ (dC, dI) (va_A (wV M Y G0 S) sz) (wV M u G' S') (tV M) t) (va_A (wV M Y G0 S) sz)) (G'.gc - G0.gc) (G'.gs - G0.gs) (va_A (wV M Y G0 S) sz) := by
  refine Met.ofW (cc := cb_Vt_entryHere) (maxL := 2) (ret := (some .int)) (by decide) rfl ?_
  intro p e s m args below meth c s₁ B hml hv
  obtain ⟨rfl, hsz, ⟨hP, hK, hD0⟩, hE⟩ := hv
  have hx := B.exec
  have hb := B.bytes
  have hr := B.returns
  have hts0 := atoms_spec (ws := .code y_Vt_entryHere cb_Vt_entryHere 2 (some .int) :: V_Vq) B.pre
  have hts : ∀ w ∈ V_Vq, w.before ([.ref M.o_Vt, .int p0] : List Value).toArray s = true := fun w h => hts0 w (List.mem_cons_of_mem _ h)
  have hown : s.vm.findClass R_Vt = some m.cls := findClass_of_methodNamed B.named
  subst hsz
  have hD := hD0.self (sz := s.heap.size)
  generalize hAe : va_A (wV M Y G0 S) s.heap.size = A at hD hE ⊢
  have hA : ∀ q : Nat, s.heap.size ≤ q → A q := fun q h => by rw [← hAe]; exact Or.inr h
  have hS : va_S A s.heap s.heap [] := va_S.rf
  have hP : va_P (dC, dI) classes (wV M Y G0 S) s.heap := hP
  have hK : va_K (dC, dI) classes (tV M) s := hK
  have hEw : ∀ (H : Heap) (locs : List Loc), va_S A s.heap H locs → ∀ U : State, U.heap = H → s.WarmedH U.vm → E A U := fun H locs hS U hU hW => X.kept A s U H locs hE hS hU hW
  have hl := lv_entry ([.ref M.o_Vt, .int p0]) (n := 2) (Nat.le_of_ble_eq_true rfl)
  rw [lg_entry_eq]
  generalize (lg_sl ([.ref M.o_Vt, .int p0]) ++ List.replicate (2 - (lg_sl ([.ref M.o_Vt, .int p0])).length) Slot.unset).toArray = ls at hl ⊢
  have hl : lv_has ls 2 [(0, .ref M.o_Vt), (1, .int p0)] := hl
  refine qabs (fun Q hQ => ?_)
  have hB_19 : ∀ (Y : CT) (G : CG) (S : CS) (H : Heap) (locs : List Loc) (ls : Array Slot), f_Vt_entryHere_19 K G S = some (.ok r, G', S') → CG.le G0 G → va_P (dC, dI) classes (wV M Y G S) H → va_D A (wV M Y G S) → va_S A s.heap H locs → lv_has ls 2 [] → W p l e ({ frames := 6, cells := G'.gc - G0.gc, slots := G'.gs - G0.gs, locals := 93 }) s m ([.ref M.o_Vt, .int p0] : List Value).toArray below meth c H locs (G.gc - G0.gc) (G.gs - G0.gs) Q (F0 m 19 ls []) := by
    intro Y G S H locs ls h m0 hP hD hS hl
    have mF := mo_Vt_entryHere_19 h
    rw [f_Vt_entryHere_19] at h
    exact lf_xe h
  have m0 : CG.le G0 G0 := ⟨Nat.le_refl _, Nat.le_refl _⟩
  have mF := mo_Vt_entryHere h
  refine W.widen (k := G0.gc - G0.gc) (n := G0.gs - G0.gs) (Nat.zero_le _) (Nat.zero_le _) ?_
  rw [f_Vt_entryHere] at h
  refine lv_iload_n hx hb d_Vt_entryHere_0 rfl (lv_at hl 1 rfl) ?_
  refine lv_if_lt (tgt := 19) hx hb d_Vt_entryHere_1 (by decide) (fun c_1 => ?_) (fun c_1 => ?_)
  · have h := lf_t h c_1
    exact hB_19 Y G0 S _ _ _ h m0 hP hD hS (lv_sub hl [] rfl)
  · have h := lf_f h c_1
    refine lv_iload_n hx hb d_Vt_entryHere_4 rfl (lv_at hl 1 rfl) ?_
    refine lv_aload_n hx hb d_Vt_entryHere_5 rfl (lv_at hl 0 rfl) ?_
    refine va_get (D := (dC, dI)) (ci := 11) (v := .ref M.o_In) (C := R_Vt) (T := F_Vt) (N := 16) hx hb hts (fun w h => u_Vq_Vt w (i_Vt w h)) hown hK hP 0 rfl rfl 8 (by decide) (hts _ (u_Vq_Vt _ k_Vt_37)) (fun _ h9 => h9) rfl d_Vt_entryHere_6 ?_
    refine lv_aload_n hx hb d_Vt_entryHere_9 rfl (lv_at hl 0 rfl) ?_
    refine va_get (D := (dC, dI)) (ci := 11) (v := .int S.v_Vt_here) (C := R_Vt) (T := F_Vt) (N := 16) hx hb hts (fun w h => u_Vq_Vt w (i_Vt w h)) hown hK hP 0 rfl rfl 12 (by decide) (hts _ (u_Vq_Vt _ k_Vt_41)) (fun _ h9 => h9) rfl d_Vt_entryHere_10 ?_
    obtain ⟨r_2, S_2, hc_2, h⟩ := lf_cE h
    have hFc := lx_free hD hS hA
    refine va_calli (va_runV (As := [.int S.v_Vt_here]) (rest := [.int p0]) ⟨hx, hb, hml, hown, hts⟩ (l_In_countIn l dC dI X _ hc_2) (cwV 1 hts (gwV good_Vq (u_Vq_Vt _ k_Vt_117) (u_Vq_In _ k_In_26) (u_Vq_In _ k_In_27) (u_Vq_In _ k_In_0) (wcs (u_Vq_In _ k_In_28) (fun _ h => h))) rfl rfl rfl (by decide +kernel) ⟨Nat.le_of_ble_eq_true rfl, Nat.le_of_ble_eq_true rfl⟩) (pv_ofE (X.same _) (fun U z1 z2 => X.mono _ _ U hFc (hEw _ _ hS U z1 z2)) hP hK hD (va_recv hK hP (ci := 6) (q0 := 9) rfl rfl)) rfl rfl hl.1 rfl (lv_room (Nat.le_of_ble_eq_true rfl)) d_Vt_entryHere_13 ⟨ly_c0 mF.1, ly_c0 mF.2⟩) hS (fun q _ h => hFc q h) hFc (fun r_ u t H locs ht hvm hw hB hz1 hk1 hS => ?_)
    rw [hw]
    obtain ⟨hP, -, hD⟩ := hB
    rw [ht] at hP
    have hD := lx_dj hD hFc
    refine lv_icmp_lt (tgt := 30) hx hb d_Vt_entryHere_16 (by decide) (fun c_3 => ?_) (fun c_3 => ?_)
    · have h := lf_t h c_3
      refine lv_aload_n hx hb d_Vt_entryHere_30 rfl (lv_at hl 0 rfl) ?_
      refine va_get (D := (dC, dI)) (ci := 11) (v := .ref M.o_In) (C := R_Vt) (T := F_Vt) (N := 16) hx hb hts (fun w h => u_Vq_Vt w (i_Vt w h)) hown hK hP 0 rfl rfl 8 (by decide) (hts _ (u_Vq_Vt _ k_Vt_37)) (fun _ h9 => h9) rfl d_Vt_entryHere_31 ?_
      refine lv_aload_n hx hb d_Vt_entryHere_34 rfl (lv_at hl 0 rfl) ?_
      refine va_get (D := (dC, dI)) (ci := 11) (v := .int S_2.v_Vt_here) (C := R_Vt) (T := F_Vt) (N := 16) hx hb hts (fun w h => u_Vq_Vt w (i_Vt w h)) hown hK hP 0 rfl rfl 12 (by decide) (hts _ (u_Vq_Vt _ k_Vt_41)) (fun _ h9 => h9) rfl d_Vt_entryHere_35 ?_
      refine lv_iload_n hx hb d_Vt_entryHere_38 rfl (lv_at hl 1 rfl) ?_
      refine lv_iconst (v := 2) hx hb d_Vt_entryHere_39 (by decide) ?_
      refine lv_iadd hx hb d_Vt_entryHere_40 ?_
      obtain ⟨r_4, S_4, hc_4, h⟩ := lf_cE h
      have hFc := lx_free hD hS hA
      refine va_calli (va_runV (As := [.int S_2.v_Vt_here, .int (p0 + 2)]) (rest := []) ⟨hx, hb, hml, hown, hts⟩ (l_In_findEntry l dC dI X _ hc_4) (cwV 2 hts (gwV good_Vq (u_Vq_Vt _ k_Vt_128) (u_Vq_In _ k_In_30) (u_Vq_In _ k_In_31) (u_Vq_In _ k_In_0) (wcs (u_Vq_In _ k_In_32) (fun _ h => h))) rfl rfl rfl (by decide +kernel) ⟨Nat.le_of_ble_eq_true rfl, Nat.le_of_ble_eq_true rfl⟩) (pv_ofE (X.same _) (fun U z1 z2 => X.mono _ _ U hFc (hEw _ _ hS U z1 z2)) hP hK hD (va_recv hK hP (ci := 6) (q0 := 9) rfl rfl)) rfl rfl hl.1 rfl (lv_room (Nat.le_of_ble_eq_true rfl)) d_Vt_entryHere_41 ⟨ly_c0 mF.1, ly_c0 mF.2⟩) hS (fun q _ h => hFc q h) hFc (fun r_ u t H locs ht hvm hw hB hz1 hk1 hS => ?_)
      rw [hw]
      obtain ⟨hP, -, hD⟩ := hB
      rw [ht] at hP
      have hD := lx_dj hD hFc
      rw [hQ]
      have e1 : r_4 = r := Except.ok.inj (congrArg (fun z => z.1) (Option.some.inj h))
      have e2 : G0 = G' := congrArg (fun z => z.2.1) (Option.some.inj h)
      have e3 : S_4 = S' := congrArg (fun z => z.2.2) (Option.some.inj h)
      have hP := ly_newP3 e2.symm e3.symm hP
      have hD := ly_newD3 e2.symm e3.symm hD
      refine W.widen (k := G'.gc - G0.gc) (n := G'.gs - G0.gs) (ly_wc e2) (ly_ws e2) ?_
      exact W.iret (v := r_4) hx hb hr (fun t ht hW => ⟨⟨r_4, Y, rfl, e1, by rw [ht]; exact hP, va_K.moved hW.alike hK, hD⟩, hS.F ht⟩) hS.2.2 d_Vt_entryHere_44
    · have h := lf_f h c_3
      exact hB_19 Y G0 S_2 _ _ _ h m0 hP hD hS (lv_sub hl [] rfl)
set_option maxHeartbeats 4000000 in
set_option maxRecDepth 100000 in
theorem lt_Vt_entryHere_2 (l : Launch) (hfl : l.flags = pinnedFlags ++ [noTraceFlag]) (dC : Nat → ClassId) (dI : Nat → Nat → Nat) {K : Nat} {M : CA} {E : (Nat → Prop) → State → Prop} (X : ly_X l dC dI K M E) (sz : Nat) {Y : CT} {G0 G' : CG} {S S' : CS} {p0 : Int32} (h : f_Vt_entryHere K G0 S p0 = some (.error 2, G', S')) : MetX l y_Vt_entryHere (.code y_Vt_entryHere cb_Vt_entryHere 2 (some .int) :: V_Vq) ({ frames := 6, cells := G'.gc - G0.gc, slots := G'.gs - G0.gs, locals := 93 }) (va_Pc [.ref M.o_Vt, .int p0] (fun U => U.heap.size = sz ∧ at_ (dC, dI) (fun _ => True) (wV M Y G0 S) (tV M) U ∧ E (va_A (wV M Y G0 S) sz) U)) (fun _ _ _ _ => False) (x_Q "java/lang/IndexOutOfBoundsException" (va_A (wV M Y G0 S) sz) (fun t => ∃ u : CT, at_ (dC, dI) (va_A (wV M Y G0 S) sz) (wV M u G' S') (tV M) t)) (G'.gc - G0.gc) (G'.gs - G0.gs) (va_A (wV M Y G0 S) sz) := by
  refine MetX.ofW (cc := cb_Vt_entryHere) (maxL := 2) (ret := (some .int)) (by decide) rfl ?_
  intro p e s m args below meth c s₁ B hml hv
  obtain ⟨rfl, hsz, ⟨hP, hK, hD0⟩, hE⟩ := hv
  have hx := B.exec
  have hb := B.bytes
  have hr := B.returns
  have hts0 := atoms_spec (ws := .code y_Vt_entryHere cb_Vt_entryHere 2 (some .int) :: V_Vq) B.pre
  have hts : ∀ w ∈ V_Vq, w.before ([.ref M.o_Vt, .int p0] : List Value).toArray s = true := fun w h => hts0 w (List.mem_cons_of_mem _ h)
  have hown : s.vm.findClass R_Vt = some m.cls := findClass_of_methodNamed B.named
  have hlocks := B.notSynchronized
  have hout := x_table B (hts0 _ List.mem_cons_self)
  subst hsz
  have hD := hD0.self (sz := s.heap.size)
  generalize hAe : va_A (wV M Y G0 S) s.heap.size = A at hD hE ⊢
  have hA : ∀ q : Nat, s.heap.size ≤ q → A q := fun q h => by rw [← hAe]; exact Or.inr h
  have hS : va_S A s.heap s.heap [] := va_S.rf
  have hP : va_P (dC, dI) classes (wV M Y G0 S) s.heap := hP
  have hK : va_K (dC, dI) classes (tV M) s := hK
  have hEw : ∀ (H : Heap) (locs : List Loc), va_S A s.heap H locs → ∀ U : State, U.heap = H → s.WarmedH U.vm → E A U := fun H locs hS U hU hW => X.kept A s U H locs hE hS hU hW
  have hl := lv_entry ([.ref M.o_Vt, .int p0]) (n := 2) (Nat.le_of_ble_eq_true rfl)
  rw [lg_entry_eq]
  generalize (lg_sl ([.ref M.o_Vt, .int p0]) ++ List.replicate (2 - (lg_sl ([.ref M.o_Vt, .int p0])).length) Slot.unset).toArray = ls at hl ⊢
  have hl : lv_has ls 2 [(0, .ref M.o_Vt), (1, .int p0)] := hl
  refine qabs (fun Q hQ => ?_)
  have hB_19 : ∀ (Y : CT) (G : CG) (S : CS) (H : Heap) (locs : List Loc) (ls : Array Slot), f_Vt_entryHere_19 K G S = some (.error 2, G', S') → CG.le G0 G → va_P (dC, dI) classes (wV M Y G S) H → va_D A (wV M Y G S) → va_S A s.heap H locs → lv_has ls 2 [] → W p l e ({ frames := 6, cells := G'.gc - G0.gc, slots := G'.gs - G0.gs, locals := 93 }) s m ([.ref M.o_Vt, .int p0] : List Value).toArray below meth c H locs (G.gc - G0.gc) (G.gs - G0.gs) Q (F0 m 19 ls []) := by
    intro Y G S H locs ls h m0 hP hD hS hl
    have mF := mo_Vt_entryHere_19 h
    rw [f_Vt_entryHere_19] at h
    rw [hQ]
    have e2 : G.made 1 6 = G' := congrArg (fun z => z.2.1) (Option.some.inj h)
    have e3 : S = S' := congrArg (fun z => z.2.2) (Option.some.inj h)
    have hP := ly_newP3 e2.symm e3.symm (ly_madeP (c := 1) (n := 6) hP)
    have hD := ly_newD3 e2.symm e3.symm (ly_madeD (c := 1) (n := 6) hD)
    refine W.mono (ly_mqx (fun t z => ⟨Y, z⟩)) ?_
    exact x_thrG (own := R_Vt) (cls := "java/lang/IndexOutOfBoundsException") (ik := 337) (is := 339) (ic := 341) (k := 3) hx hb (Launch.traces_off hfl (Stand.of_body B).admits) hlocks hown (by decide) (fun T hT => (X.xt_339 _ _ (hEw _ _ hS (xs s T) hT (State.WarmedH.refl s))).1) (hts _ (u_Vq_Vt _ k_Vt_125)) (hts _ (u_Vq_Vt _ k_Vt_126)) (hts _ (u_Vq_Vt _ k_Vt_2)) (X.xt_339 _ _ hE).2 (hl.1.trans hml.symm) d_Vt_entryHere_19 d_Vt_entryHere_22 (Or.inr ⟨d_Vt_entryHere_23, rfl⟩) d_Vt_entryHere_26 d_Vt_entryHere_29 hout (Nat.le_of_ble_eq_true rfl) (Nat.le_of_ble_eq_true rfl) (ly_t1 e2 m0) (Nat.le_refl _) (ly_t2 e2 m0) (Nat.le_refl _) hP hK hD hS
  have m0 : CG.le G0 G0 := ⟨Nat.le_refl _, Nat.le_refl _⟩
  have mF := mo_Vt_entryHere h
  refine W.widen (k := G0.gc - G0.gc) (n := G0.gs - G0.gs) (Nat.zero_le _) (Nat.zero_le _) ?_
  rw [f_Vt_entryHere] at h
  refine lv_iload_n hx hb d_Vt_entryHere_0 rfl (lv_at hl 1 rfl) ?_
  refine lv_if_lt (tgt := 19) hx hb d_Vt_entryHere_1 (by decide) (fun c_1 => ?_) (fun c_1 => ?_)
  · have h := lf_t h c_1
    exact hB_19 Y G0 S _ _ _ h m0 hP hD hS (lv_sub hl [] rfl)
  · have h := lf_f h c_1
    refine lv_iload_n hx hb d_Vt_entryHere_4 rfl (lv_at hl 1 rfl) ?_
    refine lv_aload_n hx hb d_Vt_entryHere_5 rfl (lv_at hl 0 rfl) ?_
    refine va_get (D := (dC, dI)) (ci := 11) (v := .ref M.o_In) (C := R_Vt) (T := F_Vt) (N := 16) hx hb hts (fun w h => u_Vq_Vt w (i_Vt w h)) hown hK hP 0 rfl rfl 8 (by decide) (hts _ (u_Vq_Vt _ k_Vt_37)) (fun _ h9 => h9) rfl d_Vt_entryHere_6 ?_
    refine lv_aload_n hx hb d_Vt_entryHere_9 rfl (lv_at hl 0 rfl) ?_
    refine va_get (D := (dC, dI)) (ci := 11) (v := .int S.v_Vt_here) (C := R_Vt) (T := F_Vt) (N := 16) hx hb hts (fun w h => u_Vq_Vt w (i_Vt w h)) hown hK hP 0 rfl rfl 12 (by decide) (hts _ (u_Vq_Vt _ k_Vt_41)) (fun _ h9 => h9) rfl d_Vt_entryHere_10 ?_
    obtain ⟨r_2, S_2, hc_2, h⟩ := lf_cE h
    have hFc := lx_free hD hS hA
    refine va_calli (va_runV (As := [.int S.v_Vt_here]) (rest := [.int p0]) ⟨hx, hb, hml, hown, hts⟩ (l_In_countIn l dC dI X _ hc_2) (cwV 1 hts (gwV good_Vq (u_Vq_Vt _ k_Vt_117) (u_Vq_In _ k_In_26) (u_Vq_In _ k_In_27) (u_Vq_In _ k_In_0) (wcs (u_Vq_In _ k_In_28) (fun _ h => h))) rfl rfl rfl (by decide +kernel) ⟨Nat.le_of_ble_eq_true rfl, Nat.le_of_ble_eq_true rfl⟩) (pv_ofE (X.same _) (fun U z1 z2 => X.mono _ _ U hFc (hEw _ _ hS U z1 z2)) hP hK hD (va_recv hK hP (ci := 6) (q0 := 9) rfl rfl)) rfl rfl hl.1 rfl (lv_room (Nat.le_of_ble_eq_true rfl)) d_Vt_entryHere_13 ⟨ly_c0 mF.1, ly_c0 mF.2⟩) hS (fun q _ h => hFc q h) hFc (fun r_ u t H locs ht hvm hw hB hz1 hk1 hS => ?_)
    rw [hw]
    obtain ⟨hP, -, hD⟩ := hB
    rw [ht] at hP
    have hD := lx_dj hD hFc
    refine lv_icmp_lt (tgt := 30) hx hb d_Vt_entryHere_16 (by decide) (fun c_3 => ?_) (fun c_3 => ?_)
    · have h := lf_t h c_3
      refine lv_aload_n hx hb d_Vt_entryHere_30 rfl (lv_at hl 0 rfl) ?_
      refine va_get (D := (dC, dI)) (ci := 11) (v := .ref M.o_In) (C := R_Vt) (T := F_Vt) (N := 16) hx hb hts (fun w h => u_Vq_Vt w (i_Vt w h)) hown hK hP 0 rfl rfl 8 (by decide) (hts _ (u_Vq_Vt _ k_Vt_37)) (fun _ h9 => h9) rfl d_Vt_entryHere_31 ?_
      refine lv_aload_n hx hb d_Vt_entryHere_34 rfl (lv_at hl 0 rfl) ?_
      refine va_get (D := (dC, dI)) (ci := 11) (v := .int S_2.v_Vt_here) (C := R_Vt) (T := F_Vt) (N := 16) hx hb hts (fun w h => u_Vq_Vt w (i_Vt w h)) hown hK hP 0 rfl rfl 12 (by decide) (hts _ (u_Vq_Vt _ k_Vt_41)) (fun _ h9 => h9) rfl d_Vt_entryHere_35 ?_
      refine lv_iload_n hx hb d_Vt_entryHere_38 rfl (lv_at hl 1 rfl) ?_
      refine lv_iconst (v := 2) hx hb d_Vt_entryHere_39 (by decide) ?_
      refine lv_iadd hx hb d_Vt_entryHere_40 ?_
      obtain ⟨r_4, S_4, hc_4, h⟩ := lf_cE h
      have hFc := lx_free hD hS hA
      refine va_calli (va_runV (As := [.int S_2.v_Vt_here, .int (p0 + 2)]) (rest := []) ⟨hx, hb, hml, hown, hts⟩ (l_In_findEntry l dC dI X _ hc_4) (cwV 2 hts (gwV good_Vq (u_Vq_Vt _ k_Vt_128) (u_Vq_In _ k_In_30) (u_Vq_In _ k_In_31) (u_Vq_In _ k_In_0) (wcs (u_Vq_In _ k_In_32) (fun _ h => h))) rfl rfl rfl (by decide +kernel) ⟨Nat.le_of_ble_eq_true rfl, Nat.le_of_ble_eq_true rfl⟩) (pv_ofE (X.same _) (fun U z1 z2 => X.mono _ _ U hFc (hEw _ _ hS U z1 z2)) hP hK hD (va_recv hK hP (ci := 6) (q0 := 9) rfl rfl)) rfl rfl hl.1 rfl (lv_room (Nat.le_of_ble_eq_true rfl)) d_Vt_entryHere_41 ⟨ly_c0 mF.1, ly_c0 mF.2⟩) hS (fun q _ h => hFc q h) hFc (fun r_ u t H locs ht hvm hw hB hz1 hk1 hS => ?_)
      rw [hw]
      obtain ⟨hP, -, hD⟩ := hB
      rw [ht] at hP
      have hD := lx_dj hD hFc
      exact lf_xo h
    · have h := lf_f h c_3
      exact hB_19 Y G0 S_2 _ _ _ h m0 hP hD hS (lv_sub hl [] rfl)
set_option maxHeartbeats 4000000 in
set_option maxRecDepth 100000 in
theorem l_Vt_about (l : Launch) (dC : Nat → ClassId) (dI : Nat → Nat → Nat) {K : Nat} {M : CA} {E : (Nat → Prop) → State → Prop} (X : ly_X l dC dI K M E) (sz : Nat) {Y : CT} {G0 G' : CG} {S S' : CS} {p0 : Int32} {p1 : Int32} {r : Int64} (h : f_Vt_about K G0 S p0 p1 = some (.ok r, G', S')) : Met l y_Vt_about (.code y_Vt_about cb_Vt_about 5 (some .long) :: V_Vq) ({ frames := 8, cells := G'.gc - G0.gc, slots := G'.gs - G0.gs, locals := 224 }) (va_Pc [.ref M.o_Vt, .int p0, .int p1] (fun U => U.heap.size = sz ∧ at_ (dC, dI) (fun _ => True) (wV M Y G0 S) (tV M) U ∧ E (va_A (wV M Y G0 S) sz) U)) (va_Ql (fun (r_ : Int64) (u : CT) => r_ = r) (fun (u : CT) t => at_ (dC, dI) (va_A (wV M Y G0 S) sz) (wV M u G' S') (tV M) t) (va_A (wV M Y G0 S) sz)) (G'.gc - G0.gc) (G'.gs - G0.gs) (va_A (wV M Y G0 S) sz) := by
  refine Met.ofW (cc := cb_Vt_about) (maxL := 5) (ret := (some .long)) (by decide) rfl ?_
  intro p e s m args below meth c s₁ B hml hv
  obtain ⟨rfl, hsz, ⟨hP, hK, hD0⟩, hE⟩ := hv
  have hx := B.exec
  have hb := B.bytes
  have hr := B.returns
  have hts0 := atoms_spec (ws := .code y_Vt_about cb_Vt_about 5 (some .long) :: V_Vq) B.pre
  have hts : ∀ w ∈ V_Vq, w.before ([.ref M.o_Vt, .int p0, .int p1] : List Value).toArray s = true := fun w h => hts0 w (List.mem_cons_of_mem _ h)
  have hown : s.vm.findClass R_Vt = some m.cls := findClass_of_methodNamed B.named
  subst hsz
  have hD := hD0.self (sz := s.heap.size)
  generalize hAe : va_A (wV M Y G0 S) s.heap.size = A at hD hE ⊢
  have hA : ∀ q : Nat, s.heap.size ≤ q → A q := fun q h => by rw [← hAe]; exact Or.inr h
  have hS : va_S A s.heap s.heap [] := va_S.rf
  have hP : va_P (dC, dI) classes (wV M Y G0 S) s.heap := hP
  have hK : va_K (dC, dI) classes (tV M) s := hK
  have hEw : ∀ (H : Heap) (locs : List Loc), va_S A s.heap H locs → ∀ U : State, U.heap = H → s.WarmedH U.vm → E A U := fun H locs hS U hU hW => X.kept A s U H locs hE hS hU hW
  have hl := lv_entry ([.ref M.o_Vt, .int p0, .int p1]) (n := 5) (Nat.le_of_ble_eq_true rfl)
  rw [lg_entry_eq]
  generalize (lg_sl ([.ref M.o_Vt, .int p0, .int p1]) ++ List.replicate (5 - (lg_sl ([.ref M.o_Vt, .int p0, .int p1])).length) Slot.unset).toArray = ls at hl ⊢
  have hl : lv_has ls 5 [(0, .ref M.o_Vt), (1, .int p0), (2, .int p1)] := hl
  refine qabs (fun Q hQ => ?_)
  have hB_37 : ∀ (Y : CT) (G : CG) (S : CS) (H : Heap) (locs : List Loc) (ls : Array Slot), f_Vt_about_37 K G S = some (.ok r, G', S') → CG.le G0 G → va_P (dC, dI) classes (wV M Y G S) H → va_D A (wV M Y G S) → va_S A s.heap H locs → lv_has ls 5 [] → W p l e ({ frames := 8, cells := G'.gc - G0.gc, slots := G'.gs - G0.gs, locals := 224 }) s m ([.ref M.o_Vt, .int p0, .int p1] : List Value).toArray below meth c H locs (G.gc - G0.gc) (G.gs - G0.gs) Q (F0 m 37 ls []) := by
    intro Y G S H locs ls h m0 hP hD hS hl
    have mF := mo_Vt_about_37 h
    rw [f_Vt_about_37] at h
    exact lf_xe h
  have hB_26 : ∀ (y_2 : Int32) (y_3 : Int32) (z_0 : Int32) (Y : CT) (G : CG) (S : CS) (H : Heap) (locs : List Loc) (ls : Array Slot), f_Vt_about_26 K y_2 y_3 z_0 G S = some (.ok r, G', S') → CG.le G0 G → va_P (dC, dI) classes (wV M Y G S) H → va_D A (wV M Y G S) → va_S A s.heap H locs → lv_has ls 5 [(0, .ref M.o_Vt), (2, .int y_2), (3, .int y_3)] → W p l e ({ frames := 8, cells := G'.gc - G0.gc, slots := G'.gs - G0.gs, locals := 224 }) s m ([.ref M.o_Vt, .int p0, .int p1] : List Value).toArray below meth c H locs (G.gc - G0.gc) (G.gs - G0.gs) Q (F0 m 26 ls [.int z_0]) := by
    intro y_2 y_3 z_0 Y G S H locs ls h m0 hP hD hS hl
    have mF := mo_Vt_about_26 h
    rw [f_Vt_about_26] at h
    refine lv_istore (lv' := [(4, .int z_0), (0, .ref M.o_Vt), (2, .int y_2), (3, .int y_3)]) hx hb d_Vt_about_26 hl (by decide) rfl (fun ls hl => ?_)
    refine lv_iload_n hx hb d_Vt_about_28 rfl (lv_at hl 2 rfl) ?_
    refine lv_if_lt (tgt := 37) hx hb d_Vt_about_29 (by decide) (fun c_6 => ?_) (fun c_6 => ?_)
    · have h := lf_t h c_6
      exact hB_37 Y G S _ _ _ h m0 hP hD hS (lv_sub hl [] rfl)
    · have h := lf_f h c_6
      refine lv_iload_n hx hb d_Vt_about_32 rfl (lv_at hl 2 rfl) ?_
      refine lv_iconst (v := 5) hx hb d_Vt_about_33 (by decide) ?_
      refine lv_icmp_le (tgt := 47) hx hb d_Vt_about_34 (by decide) (fun c_7 => ?_) (fun c_7 => ?_)
      · have h := lf_t h c_7
        refine lv_iload_n hx hb d_Vt_about_47 rfl (lv_at hl 3 rfl) ?_
        refine lv_if_eq (tgt := 64) hx hb d_Vt_about_48 (by decide) (fun c_8 => ?_) (fun c_8 => ?_)
        · have h := lf_t h c_8
          refine lv_aload_n hx hb d_Vt_about_64 rfl (lv_at hl 1 rfl) ?_
          refine lv_iload hx hb d_Vt_about_65 (lv_at hl 0 rfl) ?_
          refine lv_iload_n hx hb d_Vt_about_67 rfl (lv_at hl 2 rfl) ?_
          obtain ⟨r_9, S_9, hc_9, h⟩ := lf_cE h
          have hFc := lx_free hD hS hA
          refine va_calll (va_runV (As := [.int z_0, .int y_2]) (rest := []) ⟨hx, hb, hml, hown, hts⟩ (l_Vt_tellItem l dC dI X _ hc_9) (cwV 2 hts (gwV good_Vq (u_Vq_Vt _ k_Vt_139) (u_Vq_Vt _ k_Vt_140) (u_Vq_Vt _ k_Vt_221) (u_Vq_Vt _ k_Vt_0) (wcs (u_Vq_Vt _ k_Vt_141) (fun _ h => h))) rfl rfl rfl (by decide +kernel) ⟨Nat.le_of_ble_eq_true rfl, Nat.le_of_ble_eq_true rfl⟩) (pv_ofE (X.same _) (fun U z1 z2 => X.mono _ _ U hFc (hEw _ _ hS U z1 z2)) hP hK hD (va_recv hK hP (ci := 11) (q0 := 0) rfl rfl)) rfl rfl hl.1 rfl (lv_room (Nat.le_of_ble_eq_true rfl)) d_Vt_about_68 ⟨ly_c0 mF.1, ly_c0 mF.2⟩) hS (fun q _ h => hFc q h) hFc (fun r_ u t H locs ht hvm hw hB hz1 hk1 hS => ?_)
          rw [hw]
          obtain ⟨hP, -, hD⟩ := hB
          rw [ht] at hP
          have hD := lx_dj hD hFc
          rw [hQ]
          have e1 : (r_9 : Int64) = r := Except.ok.inj (congrArg (fun z => z.1) (Option.some.inj h))
          have e2 : G = G' := congrArg (fun z => z.2.1) (Option.some.inj h)
          have e3 : S_9 = S' := congrArg (fun z => z.2.2) (Option.some.inj h)
          have hP := ly_newP3 e2.symm e3.symm hP
          have hD := ly_newD3 e2.symm e3.symm hD
          refine W.widen (k := G'.gc - G0.gc) (n := G'.gs - G0.gs) (ly_wc e2) (ly_ws e2) ?_
          exact W.lret (v := r_9) hx hb hr (fun t ht hW => ⟨⟨r_9, Y, rfl, e1, by rw [ht]; exact hP, va_K.moved hW.alike hK, hD⟩, hS.F ht⟩) hS.2.2 d_Vt_about_71
        · have h := lf_f h c_8
          refine lv_aload_n hx hb d_Vt_about_51 rfl (lv_at hl 1 rfl) ?_
          refine va_get (D := (dC, dI)) (ci := 11) (v := .ref M.o_In) (C := R_Vt) (T := F_Vt) (N := 16) hx hb hts (fun w h => u_Vq_Vt w (i_Vt w h)) hown hK hP 0 rfl rfl 8 (by decide) (hts _ (u_Vq_Vt _ k_Vt_37)) (fun _ h9 => h9) rfl d_Vt_about_52 ?_
          refine lv_iload hx hb d_Vt_about_55 (lv_at hl 0 rfl) ?_
          refine lv_iload_n hx hb d_Vt_about_57 rfl (lv_at hl 2 rfl) ?_
          obtain ⟨r_10, S_10, hc_10, h⟩ := lf_cE h
          have hFc := lx_free hD hS hA
          refine va_calll (va_runV (As := [.int z_0, .int y_2]) (rest := []) ⟨hx, hb, hml, hown, hts⟩ (l_In_tell l dC dI X _ hc_10) (cwV 2 hts (gwV good_Vq (u_Vq_Vt _ k_Vt_138) (u_Vq_In _ k_In_46) (u_Vq_In _ k_In_47) (u_Vq_In _ k_In_0) (wcs (u_Vq_In _ k_In_48) (fun _ h => h))) rfl rfl rfl (by decide +kernel) ⟨Nat.le_of_ble_eq_true rfl, Nat.le_of_ble_eq_true rfl⟩) (pv_ofE (X.same _) (fun U z1 z2 => X.mono _ _ U hFc (hEw _ _ hS U z1 z2)) hP hK hD (va_recv hK hP (ci := 6) (q0 := 9) rfl rfl)) rfl rfl hl.1 rfl (lv_room (Nat.le_of_ble_eq_true rfl)) d_Vt_about_58 ⟨ly_c0 mF.1, ly_c0 mF.2⟩) hS (fun q _ h => hFc q h) hFc (fun r_ u t H locs ht hvm hw hB hz1 hk1 hS => ?_)
          rw [hw]
          obtain ⟨hP, -, hD⟩ := hB
          rw [ht] at hP
          have hD := lx_dj hD hFc
          refine lv_goto (tgt := 71) hx hb d_Vt_about_61 (by decide) ?_
          rw [hQ]
          have e1 : (r_10 : Int64) = r := Except.ok.inj (congrArg (fun z => z.1) (Option.some.inj h))
          have e2 : G = G' := congrArg (fun z => z.2.1) (Option.some.inj h)
          have e3 : S_10 = S' := congrArg (fun z => z.2.2) (Option.some.inj h)
          have hP := ly_newP3 e2.symm e3.symm hP
          have hD := ly_newD3 e2.symm e3.symm hD
          refine W.widen (k := G'.gc - G0.gc) (n := G'.gs - G0.gs) (ly_wc e2) (ly_ws e2) ?_
          exact W.lret (v := r_10) hx hb hr (fun t ht hW => ⟨⟨r_10, Y, rfl, e1, by rw [ht]; exact hP, va_K.moved hW.alike hK, hD⟩, hS.F ht⟩) hS.2.2 d_Vt_about_71
      · have h := lf_f h c_7
        exact hB_37 Y G S _ _ _ h m0 hP hD hS (lv_sub hl [] rfl)
  have hB_18 : ∀ (y_2 : Int32) (y_3 : Int32) (z_0 : Int32) (Y : CT) (G : CG) (S : CS) (H : Heap) (locs : List Loc) (ls : Array Slot), f_Vt_about_18 K y_2 y_3 z_0 G S = some (.ok r, G', S') → CG.le G0 G → va_P (dC, dI) classes (wV M Y G S) H → va_D A (wV M Y G S) → va_S A s.heap H locs → lv_has ls 5 [(0, .ref M.o_Vt), (2, .int y_2), (3, .int y_3)] → W p l e ({ frames := 8, cells := G'.gc - G0.gc, slots := G'.gs - G0.gs, locals := 224 }) s m ([.ref M.o_Vt, .int p0, .int p1] : List Value).toArray below meth c H locs (G.gc - G0.gc) (G.gs - G0.gs) Q (F0 m 18 ls [.int z_0]) := by
    intro y_2 y_3 z_0 Y G S H locs ls h m0 hP hD hS hl
    have mF := mo_Vt_about_18 h
    rw [f_Vt_about_18] at h
    refine lv_goto (tgt := 26) hx hb d_Vt_about_18 (by decide) ?_
    exact hB_26 y_2 y_3 z_0 Y G S _ _ _ h m0 hP hD hS (lv_sub hl [0, 1, 2] rfl)
  have hB_8 : ∀ (y_1 : Int32) (y_2 : Int32) (z_0 : Int32) (Y : CT) (G : CG) (S : CS) (H : Heap) (locs : List Loc) (ls : Array Slot), f_Vt_about_8 K y_1 y_2 z_0 G S = some (.ok r, G', S') → CG.le G0 G → va_P (dC, dI) classes (wV M Y G S) H → va_D A (wV M Y G S) → va_S A s.heap H locs → lv_has ls 5 [(0, .ref M.o_Vt), (1, .int y_1), (2, .int y_2)] → W p l e ({ frames := 8, cells := G'.gc - G0.gc, slots := G'.gs - G0.gs, locals := 224 }) s m ([.ref M.o_Vt, .int p0, .int p1] : List Value).toArray below meth c H locs (G.gc - G0.gc) (G.gs - G0.gs) Q (F0 m 8 ls [.int z_0]) := by
    intro y_1 y_2 z_0 Y G S H locs ls h m0 hP hD hS hl
    have mF := mo_Vt_about_8 h
    rw [f_Vt_about_8] at h
    refine lv_istore_n (lv' := [(3, .int z_0), (0, .ref M.o_Vt), (1, .int y_1), (2, .int y_2)]) hx hb d_Vt_about_8 rfl hl (by decide) rfl (fun ls hl => ?_)
    refine lv_iload_n hx hb d_Vt_about_9 rfl (lv_at hl 0 rfl) ?_
    refine lv_if_eq (tgt := 21) hx hb d_Vt_about_10 (by decide) (fun c_3 => ?_) (fun c_3 => ?_)
    · have h := lf_t h c_3
      refine lv_aload_n hx hb d_Vt_about_21 rfl (lv_at hl 1 rfl) ?_
      refine lv_iload_n hx hb d_Vt_about_22 rfl (lv_at hl 2 rfl) ?_
      obtain ⟨r_4, G_4, S_4, hc_4, h⟩ := lf_aO h
      have mc := mo_Vt_itemHere hc_4
      have ml_4 := mo_Vt_itemHere hc_4
      have mF1 := mo_Vt_about_26 h
      have hFc := lx_free hD hS hA
      refine va_calli (va_runV (As := [.int y_1]) (rest := []) ⟨hx, hb, hml, hown, hts⟩ (l_Vt_itemHere l dC dI X _ hc_4) (cwV 1 hts (gwV good_Vq (u_Vq_Vt _ k_Vt_130) (u_Vq_Vt _ k_Vt_131) (u_Vq_Vt _ k_Vt_217) (u_Vq_Vt _ k_Vt_0) (wcs (u_Vq_Vt _ k_Vt_132) (fun _ h => h))) rfl rfl rfl (by decide +kernel) ⟨Nat.le_of_ble_eq_true rfl, Nat.le_of_ble_eq_true rfl⟩) (pv_ofE (X.same _) (fun U z1 z2 => X.mono _ _ U hFc (hEw _ _ hS U z1 z2)) hP hK hD (va_recv hK hP (ci := 11) (q0 := 0) rfl rfl)) rfl rfl hl.1 rfl (lv_room (Nat.le_of_ble_eq_true rfl)) d_Vt_about_23 ⟨ly_c1 m0.1 mc.1 mF1.1, ly_c1 m0.2 mc.2 mF1.2⟩) hS (fun q _ h => hFc q h) hFc (fun r_ Y_4 t H locs ht hvm hw hB hz1 hk1 hS => ?_)
      rw [hw]
      obtain ⟨hP, -, hD⟩ := hB
      rw [ht] at hP
      have hD := lx_dj hD hFc
      refine W.widen (k := G_4.gc - G0.gc) (n := G_4.gs - G0.gs) (ly_c2 m0.1 mc.1) (ly_c2 m0.2 mc.2) ?_
      have m0 := CG.le_tr m0 mc
      exact hB_26 y_2 z_0 r_4 Y_4 G_4 S_4 _ _ _ h m0 hP hD hS (lv_sub hl [1, 3, 0] rfl)
    · have h := lf_f h c_3
      refine lv_aload_n hx hb d_Vt_about_13 rfl (lv_at hl 1 rfl) ?_
      refine lv_iload_n hx hb d_Vt_about_14 rfl (lv_at hl 2 rfl) ?_
      obtain ⟨r_5, G_5, S_5, hc_5, h⟩ := lf_aO h
      have mc := mo_Vt_entryHere hc_5
      have ml_5 := mo_Vt_entryHere hc_5
      have mF1 := mo_Vt_about_18 h
      have hFc := lx_free hD hS hA
      refine va_calli (va_runV (As := [.int y_1]) (rest := []) ⟨hx, hb, hml, hown, hts⟩ (l_Vt_entryHere l dC dI X _ hc_5) (cwV 1 hts (gwV good_Vq (u_Vq_Vt _ k_Vt_122) (u_Vq_Vt _ k_Vt_123) (u_Vq_Vt _ k_Vt_218) (u_Vq_Vt _ k_Vt_0) (wcs (u_Vq_Vt _ k_Vt_124) (fun _ h => h))) rfl rfl rfl (by decide +kernel) ⟨Nat.le_of_ble_eq_true rfl, Nat.le_of_ble_eq_true rfl⟩) (pv_ofE (X.same _) (fun U z1 z2 => X.mono _ _ U hFc (hEw _ _ hS U z1 z2)) hP hK hD (va_recv hK hP (ci := 11) (q0 := 0) rfl rfl)) rfl rfl hl.1 rfl (lv_room (Nat.le_of_ble_eq_true rfl)) d_Vt_about_15 ⟨ly_c1 m0.1 mc.1 mF1.1, ly_c1 m0.2 mc.2 mF1.2⟩) hS (fun q _ h => hFc q h) hFc (fun r_ Y_5 t H locs ht hvm hw hB hz1 hk1 hS => ?_)
      rw [hw]
      obtain ⟨hP, -, hD⟩ := hB
      rw [ht] at hP
      have hD := lx_dj hD hFc
      refine W.widen (k := G_5.gc - G0.gc) (n := G_5.gs - G0.gs) (ly_c2 m0.1 mc.1) (ly_c2 m0.2 mc.2) ?_
      have m0 := CG.le_tr m0 mc
      exact hB_18 y_2 z_0 r_5 Y_5 G_5 S_5 _ _ _ h m0 hP hD hS (lv_sub hl [1, 3, 0] rfl)
  have hB_5 : ∀ (y_1 : Int32) (y_2 : Int32) (z_1 : Int32) (Y : CT) (G : CG) (S : CS) (H : Heap) (locs : List Loc) (ls : Array Slot), f_Vt_about_5 K y_1 y_2 z_1 G S = some (.ok r, G', S') → CG.le G0 G → va_P (dC, dI) classes (wV M Y G S) H → va_D A (wV M Y G S) → va_S A s.heap H locs → lv_has ls 5 [(0, .ref M.o_Vt), (1, .int y_1), (2, .int y_2)] → W p l e ({ frames := 8, cells := G'.gc - G0.gc, slots := G'.gs - G0.gs, locals := 224 }) s m ([.ref M.o_Vt, .int p0, .int p1] : List Value).toArray below meth c H locs (G.gc - G0.gc) (G.gs - G0.gs) Q (F0 m 5 ls [.int z_1, .ref M.o_Vt]) := by
    intro y_1 y_2 z_1 Y G S H locs ls h m0 hP hD hS hl
    have mF := mo_Vt_about_5 h
    rw [f_Vt_about_5] at h
    obtain ⟨r_2, G_2, S_2, hc_2, h⟩ := lf_aO h
    have mc := mo_Vt_readsInodes hc_2
    have ml_2 := mo_Vt_readsInodes hc_2
    have mF1 := mo_Vt_about_8 h
    have hFc := lx_free hD hS hA
    refine va_calli (va_runV (As := [.int z_1]) (rest := []) ⟨hx, hb, hml, hown, hts⟩ (l_Vt_readsInodes l dC dI X _ hc_2) (cwV 1 hts (gwV good_Vq (u_Vq_Vt _ k_Vt_111) (u_Vq_Vt _ k_Vt_112) (u_Vq_Vt _ k_Vt_215) (u_Vq_Vt _ k_Vt_0) (wcs (u_Vq_Vt _ k_Vt_113) (fun _ h => h))) rfl rfl rfl (by decide +kernel) ⟨Nat.le_of_ble_eq_true rfl, Nat.le_of_ble_eq_true rfl⟩) (pv_ofE (X.same _) (fun U z1 z2 => X.mono _ _ U hFc (hEw _ _ hS U z1 z2)) hP hK hD (va_recv hK hP (ci := 11) (q0 := 0) rfl rfl)) rfl rfl hl.1 rfl (lv_room (Nat.le_of_ble_eq_true rfl)) d_Vt_about_5 ⟨ly_c1 m0.1 mc.1 mF1.1, ly_c1 m0.2 mc.2 mF1.2⟩) hS (fun q _ h => hFc q h) hFc (fun r_ Y_2 t H locs ht hvm hw hB hz1 hk1 hS => ?_)
    rw [hw]
    obtain ⟨hP, -, hD⟩ := hB
    rw [ht] at hP
    have hD := lx_dj hD hFc
    refine W.widen (k := G_2.gc - G0.gc) (n := G_2.gs - G0.gs) (ly_c2 m0.1 mc.1) (ly_c2 m0.2 mc.2) ?_
    have m0 := CG.le_tr m0 mc
    exact hB_8 y_1 y_2 r_2 Y_2 G_2 S_2 _ _ _ h m0 hP hD hS (lv_sub hl [0, 1, 2] rfl)
  have m0 : CG.le G0 G0 := ⟨Nat.le_refl _, Nat.le_refl _⟩
  have mF := mo_Vt_about h
  refine W.widen (k := G0.gc - G0.gc) (n := G0.gs - G0.gs) (Nat.zero_le _) (Nat.zero_le _) ?_
  rw [f_Vt_about] at h
  refine lv_aload_n hx hb d_Vt_about_0 rfl (lv_at hl 0 rfl) ?_
  refine lv_aload_n hx hb d_Vt_about_1 rfl (lv_at hl 0 rfl) ?_
  obtain ⟨r_1, G_1, S_1, hc_1, h⟩ := lf_nE h
  have mc := mo_Vt_look hc_1
  have ml_1 := mo_Vt_look hc_1
  have mF1 := mo_Vt_about_5 h
  have hFc := lx_free hD hS hA
  refine va_calli (va_runV (As := []) (rest := [.ref M.o_Vt]) ⟨hx, hb, hml, hown, hts⟩ (l_Vt_look l dC dI X _ hc_1) (cwV 0 hts (gwV good_Vq (u_Vq_Vt _ k_Vt_68) (u_Vq_Vt _ k_Vt_69) (u_Vq_Vt _ k_Vt_214) (u_Vq_Vt _ k_Vt_0) (wcs (u_Vq_Vt _ k_Vt_70) (fun _ h => h))) rfl rfl rfl (by decide +kernel) ⟨Nat.le_of_ble_eq_true rfl, Nat.le_of_ble_eq_true rfl⟩) (pv_ofE (X.same _) (fun U z1 z2 => X.mono _ _ U hFc (hEw _ _ hS U z1 z2)) hP hK hD (va_recv hK hP (ci := 11) (q0 := 0) rfl rfl)) rfl rfl hl.1 rfl (lv_room (Nat.le_of_ble_eq_true rfl)) d_Vt_about_2 ⟨ly_c1 m0.1 mc.1 mF1.1, ly_c1 m0.2 mc.2 mF1.2⟩) hS (fun q _ h => hFc q h) hFc (fun r_ Y_1 t H locs ht hvm hw hB hz1 hk1 hS => ?_)
  rw [hw]
  obtain ⟨hP, -, hD⟩ := hB
  rw [ht] at hP
  have hD := lx_dj hD hFc
  refine W.widen (k := G_1.gc - G0.gc) (n := G_1.gs - G0.gs) (ly_c2 m0.1 mc.1) (ly_c2 m0.2 mc.2) ?_
  have m0 := CG.le_tr m0 mc
  exact hB_5 p0 p1 r_1 Y_1 G_1 S_1 _ _ _ h m0 hP hD hS (lv_sub hl [0, 1, 2] rfl)
set_option maxHeartbeats 4000000 in
set_option maxRecDepth 100000 in
theorem lt_Vt_about_0 (l : Launch) (hfl : l.flags = pinnedFlags ++ [noTraceFlag]) (dC : Nat → ClassId) (dI : Nat → Nat → Nat) {K : Nat} {M : CA} {E : (Nat → Prop) → State → Prop} (X : ly_X l dC dI K M E) (sz : Nat) {Y : CT} {G0 G' : CG} {S S' : CS} {p0 : Int32} {p1 : Int32} (h : f_Vt_about K G0 S p0 p1 = some (.error 0, G', S')) : MetX l y_Vt_about (.code y_Vt_about cb_Vt_about 5 (some .long) :: V_Vq) ({ frames := 8, cells := G'.gc - G0.gc, slots := G'.gs - G0.gs, locals := 224 }) (va_Pc [.ref M.o_Vt, .int p0, .int p1] (fun U => U.heap.size = sz ∧ at_ (dC, dI) (fun _ => True) (wV M Y G0 S) (tV M) U ∧ E (va_A (wV M Y G0 S) sz) U)) (fun _ _ _ _ => False) (x_Q "java/lang/IllegalArgumentException" (va_A (wV M Y G0 S) sz) (fun t => ∃ u : CT, at_ (dC, dI) (va_A (wV M Y G0 S) sz) (wV M u G' S') (tV M) t)) (G'.gc - G0.gc) (G'.gs - G0.gs) (va_A (wV M Y G0 S) sz) := by
  refine MetX.ofW (cc := cb_Vt_about) (maxL := 5) (ret := (some .long)) (by decide) rfl ?_
  intro p e s m args below meth c s₁ B hml hv
  obtain ⟨rfl, hsz, ⟨hP, hK, hD0⟩, hE⟩ := hv
  have hx := B.exec
  have hb := B.bytes
  have hr := B.returns
  have hts0 := atoms_spec (ws := .code y_Vt_about cb_Vt_about 5 (some .long) :: V_Vq) B.pre
  have hts : ∀ w ∈ V_Vq, w.before ([.ref M.o_Vt, .int p0, .int p1] : List Value).toArray s = true := fun w h => hts0 w (List.mem_cons_of_mem _ h)
  have hown : s.vm.findClass R_Vt = some m.cls := findClass_of_methodNamed B.named
  have hlocks := B.notSynchronized
  have hout := x_table B (hts0 _ List.mem_cons_self)
  subst hsz
  have hD := hD0.self (sz := s.heap.size)
  generalize hAe : va_A (wV M Y G0 S) s.heap.size = A at hD hE ⊢
  have hA : ∀ q : Nat, s.heap.size ≤ q → A q := fun q h => by rw [← hAe]; exact Or.inr h
  have hS : va_S A s.heap s.heap [] := va_S.rf
  have hP : va_P (dC, dI) classes (wV M Y G0 S) s.heap := hP
  have hK : va_K (dC, dI) classes (tV M) s := hK
  have hEw : ∀ (H : Heap) (locs : List Loc), va_S A s.heap H locs → ∀ U : State, U.heap = H → s.WarmedH U.vm → E A U := fun H locs hS U hU hW => X.kept A s U H locs hE hS hU hW
  have hl := lv_entry ([.ref M.o_Vt, .int p0, .int p1]) (n := 5) (Nat.le_of_ble_eq_true rfl)
  rw [lg_entry_eq]
  generalize (lg_sl ([.ref M.o_Vt, .int p0, .int p1]) ++ List.replicate (5 - (lg_sl ([.ref M.o_Vt, .int p0, .int p1])).length) Slot.unset).toArray = ls at hl ⊢
  have hl : lv_has ls 5 [(0, .ref M.o_Vt), (1, .int p0), (2, .int p1)] := hl
  refine qabs (fun Q hQ => ?_)
  have hB_37 : ∀ (Y : CT) (G : CG) (S : CS) (H : Heap) (locs : List Loc) (ls : Array Slot), f_Vt_about_37 K G S = some (.error 0, G', S') → CG.le G0 G → va_P (dC, dI) classes (wV M Y G S) H → va_D A (wV M Y G S) → va_S A s.heap H locs → lv_has ls 5 [] → W p l e ({ frames := 8, cells := G'.gc - G0.gc, slots := G'.gs - G0.gs, locals := 224 }) s m ([.ref M.o_Vt, .int p0, .int p1] : List Value).toArray below meth c H locs (G.gc - G0.gc) (G.gs - G0.gs) Q (F0 m 37 ls []) := by
    intro Y G S H locs ls h m0 hP hD hS hl
    have mF := mo_Vt_about_37 h
    rw [f_Vt_about_37] at h
    rw [hQ]
    have e2 : G.made 1 6 = G' := congrArg (fun z => z.2.1) (Option.some.inj h)
    have e3 : S = S' := congrArg (fun z => z.2.2) (Option.some.inj h)
    have hP := ly_newP3 e2.symm e3.symm (ly_madeP (c := 1) (n := 6) hP)
    have hD := ly_newD3 e2.symm e3.symm (ly_madeD (c := 1) (n := 6) hD)
    refine W.mono (ly_mqx (fun t z => ⟨Y, z⟩)) ?_
    exact x_thrG (own := R_Vt) (cls := "java/lang/IllegalArgumentException") (ik := 133) (is := 201) (ic := 137) (k := 2) hx hb (Launch.traces_off hfl (Stand.of_body B).admits) hlocks hown (by decide) (fun T hT => (X.xt_201 _ _ (hEw _ _ hS (xs s T) hT (State.WarmedH.refl s))).1) (hts _ (u_Vq_Vt _ k_Vt_100)) (hts _ (u_Vq_Vt _ k_Vt_101)) (hts _ (u_Vq_Vt _ k_Vt_1)) (X.xt_201 _ _ hE).2 (hl.1.trans hml.symm) d_Vt_about_37 d_Vt_about_40 (Or.inl ⟨d_Vt_about_41, rfl⟩) d_Vt_about_43 d_Vt_about_46 hout (Nat.le_of_ble_eq_true rfl) (Nat.le_of_ble_eq_true rfl) (ly_t1 e2 m0) (Nat.le_refl _) (ly_t2 e2 m0) (Nat.le_refl _) hP hK hD hS
  have hB_26 : ∀ (y_2 : Int32) (y_3 : Int32) (z_0 : Int32) (Y : CT) (G : CG) (S : CS) (H : Heap) (locs : List Loc) (ls : Array Slot), f_Vt_about_26 K y_2 y_3 z_0 G S = some (.error 0, G', S') → CG.le G0 G → va_P (dC, dI) classes (wV M Y G S) H → va_D A (wV M Y G S) → va_S A s.heap H locs → lv_has ls 5 [(0, .ref M.o_Vt), (2, .int y_2), (3, .int y_3)] → W p l e ({ frames := 8, cells := G'.gc - G0.gc, slots := G'.gs - G0.gs, locals := 224 }) s m ([.ref M.o_Vt, .int p0, .int p1] : List Value).toArray below meth c H locs (G.gc - G0.gc) (G.gs - G0.gs) Q (F0 m 26 ls [.int z_0]) := by
    intro y_2 y_3 z_0 Y G S H locs ls h m0 hP hD hS hl
    have mF := mo_Vt_about_26 h
    rw [f_Vt_about_26] at h
    refine lv_istore (lv' := [(4, .int z_0), (0, .ref M.o_Vt), (2, .int y_2), (3, .int y_3)]) hx hb d_Vt_about_26 hl (by decide) rfl (fun ls hl => ?_)
    refine lv_iload_n hx hb d_Vt_about_28 rfl (lv_at hl 2 rfl) ?_
    refine lv_if_lt (tgt := 37) hx hb d_Vt_about_29 (by decide) (fun c_6 => ?_) (fun c_6 => ?_)
    · have h := lf_t h c_6
      exact hB_37 Y G S _ _ _ h m0 hP hD hS (lv_sub hl [] rfl)
    · have h := lf_f h c_6
      refine lv_iload_n hx hb d_Vt_about_32 rfl (lv_at hl 2 rfl) ?_
      refine lv_iconst (v := 5) hx hb d_Vt_about_33 (by decide) ?_
      refine lv_icmp_le (tgt := 47) hx hb d_Vt_about_34 (by decide) (fun c_7 => ?_) (fun c_7 => ?_)
      · have h := lf_t h c_7
        refine lv_iload_n hx hb d_Vt_about_47 rfl (lv_at hl 3 rfl) ?_
        refine lv_if_eq (tgt := 64) hx hb d_Vt_about_48 (by decide) (fun c_8 => ?_) (fun c_8 => ?_)
        · have h := lf_t h c_8
          refine lv_aload_n hx hb d_Vt_about_64 rfl (lv_at hl 1 rfl) ?_
          refine lv_iload hx hb d_Vt_about_65 (lv_at hl 0 rfl) ?_
          refine lv_iload_n hx hb d_Vt_about_67 rfl (lv_at hl 2 rfl) ?_
          obtain ⟨r_9, S_9, hc_9, h⟩ := lf_cE h
          have hFc := lx_free hD hS hA
          refine va_calll (va_runV (As := [.int z_0, .int y_2]) (rest := []) ⟨hx, hb, hml, hown, hts⟩ (l_Vt_tellItem l dC dI X _ hc_9) (cwV 2 hts (gwV good_Vq (u_Vq_Vt _ k_Vt_139) (u_Vq_Vt _ k_Vt_140) (u_Vq_Vt _ k_Vt_221) (u_Vq_Vt _ k_Vt_0) (wcs (u_Vq_Vt _ k_Vt_141) (fun _ h => h))) rfl rfl rfl (by decide +kernel) ⟨Nat.le_of_ble_eq_true rfl, Nat.le_of_ble_eq_true rfl⟩) (pv_ofE (X.same _) (fun U z1 z2 => X.mono _ _ U hFc (hEw _ _ hS U z1 z2)) hP hK hD (va_recv hK hP (ci := 11) (q0 := 0) rfl rfl)) rfl rfl hl.1 rfl (lv_room (Nat.le_of_ble_eq_true rfl)) d_Vt_about_68 ⟨ly_c0 mF.1, ly_c0 mF.2⟩) hS (fun q _ h => hFc q h) hFc (fun r_ u t H locs ht hvm hw hB hz1 hk1 hS => ?_)
          rw [hw]
          obtain ⟨hP, -, hD⟩ := hB
          rw [ht] at hP
          have hD := lx_dj hD hFc
          exact lf_xo h
        · have h := lf_f h c_8
          refine lv_aload_n hx hb d_Vt_about_51 rfl (lv_at hl 1 rfl) ?_
          refine va_get (D := (dC, dI)) (ci := 11) (v := .ref M.o_In) (C := R_Vt) (T := F_Vt) (N := 16) hx hb hts (fun w h => u_Vq_Vt w (i_Vt w h)) hown hK hP 0 rfl rfl 8 (by decide) (hts _ (u_Vq_Vt _ k_Vt_37)) (fun _ h9 => h9) rfl d_Vt_about_52 ?_
          refine lv_iload hx hb d_Vt_about_55 (lv_at hl 0 rfl) ?_
          refine lv_iload_n hx hb d_Vt_about_57 rfl (lv_at hl 2 rfl) ?_
          obtain ⟨r_10, S_10, hc_10, h⟩ := lf_cE h
          have hFc := lx_free hD hS hA
          refine va_calll (va_runV (As := [.int z_0, .int y_2]) (rest := []) ⟨hx, hb, hml, hown, hts⟩ (l_In_tell l dC dI X _ hc_10) (cwV 2 hts (gwV good_Vq (u_Vq_Vt _ k_Vt_138) (u_Vq_In _ k_In_46) (u_Vq_In _ k_In_47) (u_Vq_In _ k_In_0) (wcs (u_Vq_In _ k_In_48) (fun _ h => h))) rfl rfl rfl (by decide +kernel) ⟨Nat.le_of_ble_eq_true rfl, Nat.le_of_ble_eq_true rfl⟩) (pv_ofE (X.same _) (fun U z1 z2 => X.mono _ _ U hFc (hEw _ _ hS U z1 z2)) hP hK hD (va_recv hK hP (ci := 6) (q0 := 9) rfl rfl)) rfl rfl hl.1 rfl (lv_room (Nat.le_of_ble_eq_true rfl)) d_Vt_about_58 ⟨ly_c0 mF.1, ly_c0 mF.2⟩) hS (fun q _ h => hFc q h) hFc (fun r_ u t H locs ht hvm hw hB hz1 hk1 hS => ?_)
          rw [hw]
          obtain ⟨hP, -, hD⟩ := hB
          rw [ht] at hP
          have hD := lx_dj hD hFc
          refine lv_goto (tgt := 71) hx hb d_Vt_about_61 (by decide) ?_
          exact lf_xo h
      · have h := lf_f h c_7
        exact hB_37 Y G S _ _ _ h m0 hP hD hS (lv_sub hl [] rfl)
  have hB_18 : ∀ (y_2 : Int32) (y_3 : Int32) (z_0 : Int32) (Y : CT) (G : CG) (S : CS) (H : Heap) (locs : List Loc) (ls : Array Slot), f_Vt_about_18 K y_2 y_3 z_0 G S = some (.error 0, G', S') → CG.le G0 G → va_P (dC, dI) classes (wV M Y G S) H → va_D A (wV M Y G S) → va_S A s.heap H locs → lv_has ls 5 [(0, .ref M.o_Vt), (2, .int y_2), (3, .int y_3)] → W p l e ({ frames := 8, cells := G'.gc - G0.gc, slots := G'.gs - G0.gs, locals := 224 }) s m ([.ref M.o_Vt, .int p0, .int p1] : List Value).toArray below meth c H locs (G.gc - G0.gc) (G.gs - G0.gs) Q (F0 m 18 ls [.int z_0]) := by
    intro y_2 y_3 z_0 Y G S H locs ls h m0 hP hD hS hl
    have mF := mo_Vt_about_18 h
    rw [f_Vt_about_18] at h
    refine lv_goto (tgt := 26) hx hb d_Vt_about_18 (by decide) ?_
    exact hB_26 y_2 y_3 z_0 Y G S _ _ _ h m0 hP hD hS (lv_sub hl [0, 1, 2] rfl)
  have hB_8 : ∀ (y_1 : Int32) (y_2 : Int32) (z_0 : Int32) (Y : CT) (G : CG) (S : CS) (H : Heap) (locs : List Loc) (ls : Array Slot), f_Vt_about_8 K y_1 y_2 z_0 G S = some (.error 0, G', S') → CG.le G0 G → va_P (dC, dI) classes (wV M Y G S) H → va_D A (wV M Y G S) → va_S A s.heap H locs → lv_has ls 5 [(0, .ref M.o_Vt), (1, .int y_1), (2, .int y_2)] → W p l e ({ frames := 8, cells := G'.gc - G0.gc, slots := G'.gs - G0.gs, locals := 224 }) s m ([.ref M.o_Vt, .int p0, .int p1] : List Value).toArray below meth c H locs (G.gc - G0.gc) (G.gs - G0.gs) Q (F0 m 8 ls [.int z_0]) := by
    intro y_1 y_2 z_0 Y G S H locs ls h m0 hP hD hS hl
    have mF := mo_Vt_about_8 h
    rw [f_Vt_about_8] at h
    refine lv_istore_n (lv' := [(3, .int z_0), (0, .ref M.o_Vt), (1, .int y_1), (2, .int y_2)]) hx hb d_Vt_about_8 rfl hl (by decide) rfl (fun ls hl => ?_)
    refine lv_iload_n hx hb d_Vt_about_9 rfl (lv_at hl 0 rfl) ?_
    refine lv_if_eq (tgt := 21) hx hb d_Vt_about_10 (by decide) (fun c_3 => ?_) (fun c_3 => ?_)
    · have h := lf_t h c_3
      refine lv_aload_n hx hb d_Vt_about_21 rfl (lv_at hl 1 rfl) ?_
      refine lv_iload_n hx hb d_Vt_about_22 rfl (lv_at hl 2 rfl) ?_
      rcases lf_aT h with ⟨r_4, G_4, S_4, hc_4, h⟩ | h9
      · have mc := mo_Vt_itemHere hc_4
        have ml_4 := mo_Vt_itemHere hc_4
        have mF1 := mo_Vt_about_26 h
        have hFc := lx_free hD hS hA
        refine va_calli (va_runV (As := [.int y_1]) (rest := []) ⟨hx, hb, hml, hown, hts⟩ (l_Vt_itemHere l dC dI X _ hc_4) (cwV 1 hts (gwV good_Vq (u_Vq_Vt _ k_Vt_130) (u_Vq_Vt _ k_Vt_131) (u_Vq_Vt _ k_Vt_217) (u_Vq_Vt _ k_Vt_0) (wcs (u_Vq_Vt _ k_Vt_132) (fun _ h => h))) rfl rfl rfl (by decide +kernel) ⟨Nat.le_of_ble_eq_true rfl, Nat.le_of_ble_eq_true rfl⟩) (pv_ofE (X.same _) (fun U z1 z2 => X.mono _ _ U hFc (hEw _ _ hS U z1 z2)) hP hK hD (va_recv hK hP (ci := 11) (q0 := 0) rfl rfl)) rfl rfl hl.1 rfl (lv_room (Nat.le_of_ble_eq_true rfl)) d_Vt_about_23 ⟨ly_c1 m0.1 mc.1 mF1.1, ly_c1 m0.2 mc.2 mF1.2⟩) hS (fun q _ h => hFc q h) hFc (fun r_ Y_4 t H locs ht hvm hw hB hz1 hk1 hS => ?_)
        rw [hw]
        obtain ⟨hP, -, hD⟩ := hB
        rw [ht] at hP
        have hD := lx_dj hD hFc
        refine W.widen (k := G_4.gc - G0.gc) (n := G_4.gs - G0.gs) (ly_c2 m0.1 mc.1) (ly_c2 m0.2 mc.2) ?_
        have m0 := CG.le_tr m0 mc
        exact hB_26 y_2 z_0 r_4 Y_4 G_4 S_4 _ _ _ h m0 hP hD hS (lv_sub hl [1, 3, 0] rfl)
      · exact absurd (th_Vt_itemHere h9) (by decide)
    · have h := lf_f h c_3
      refine lv_aload_n hx hb d_Vt_about_13 rfl (lv_at hl 1 rfl) ?_
      refine lv_iload_n hx hb d_Vt_about_14 rfl (lv_at hl 2 rfl) ?_
      rcases lf_aT h with ⟨r_5, G_5, S_5, hc_5, h⟩ | h9
      · have mc := mo_Vt_entryHere hc_5
        have ml_5 := mo_Vt_entryHere hc_5
        have mF1 := mo_Vt_about_18 h
        have hFc := lx_free hD hS hA
        refine va_calli (va_runV (As := [.int y_1]) (rest := []) ⟨hx, hb, hml, hown, hts⟩ (l_Vt_entryHere l dC dI X _ hc_5) (cwV 1 hts (gwV good_Vq (u_Vq_Vt _ k_Vt_122) (u_Vq_Vt _ k_Vt_123) (u_Vq_Vt _ k_Vt_218) (u_Vq_Vt _ k_Vt_0) (wcs (u_Vq_Vt _ k_Vt_124) (fun _ h => h))) rfl rfl rfl (by decide +kernel) ⟨Nat.le_of_ble_eq_true rfl, Nat.le_of_ble_eq_true rfl⟩) (pv_ofE (X.same _) (fun U z1 z2 => X.mono _ _ U hFc (hEw _ _ hS U z1 z2)) hP hK hD (va_recv hK hP (ci := 11) (q0 := 0) rfl rfl)) rfl rfl hl.1 rfl (lv_room (Nat.le_of_ble_eq_true rfl)) d_Vt_about_15 ⟨ly_c1 m0.1 mc.1 mF1.1, ly_c1 m0.2 mc.2 mF1.2⟩) hS (fun q _ h => hFc q h) hFc (fun r_ Y_5 t H locs ht hvm hw hB hz1 hk1 hS => ?_)
        rw [hw]
        obtain ⟨hP, -, hD⟩ := hB
        rw [ht] at hP
        have hD := lx_dj hD hFc
        refine W.widen (k := G_5.gc - G0.gc) (n := G_5.gs - G0.gs) (ly_c2 m0.1 mc.1) (ly_c2 m0.2 mc.2) ?_
        have m0 := CG.le_tr m0 mc
        exact hB_18 y_2 z_0 r_5 Y_5 G_5 S_5 _ _ _ h m0 hP hD hS (lv_sub hl [1, 3, 0] rfl)
      · exact absurd (th_Vt_entryHere h9) (by decide)
  have hB_5 : ∀ (y_1 : Int32) (y_2 : Int32) (z_1 : Int32) (Y : CT) (G : CG) (S : CS) (H : Heap) (locs : List Loc) (ls : Array Slot), f_Vt_about_5 K y_1 y_2 z_1 G S = some (.error 0, G', S') → CG.le G0 G → va_P (dC, dI) classes (wV M Y G S) H → va_D A (wV M Y G S) → va_S A s.heap H locs → lv_has ls 5 [(0, .ref M.o_Vt), (1, .int y_1), (2, .int y_2)] → W p l e ({ frames := 8, cells := G'.gc - G0.gc, slots := G'.gs - G0.gs, locals := 224 }) s m ([.ref M.o_Vt, .int p0, .int p1] : List Value).toArray below meth c H locs (G.gc - G0.gc) (G.gs - G0.gs) Q (F0 m 5 ls [.int z_1, .ref M.o_Vt]) := by
    intro y_1 y_2 z_1 Y G S H locs ls h m0 hP hD hS hl
    have mF := mo_Vt_about_5 h
    rw [f_Vt_about_5] at h
    rcases lf_aT h with ⟨r_2, G_2, S_2, hc_2, h⟩ | h9
    · have mc := mo_Vt_readsInodes hc_2
      have ml_2 := mo_Vt_readsInodes hc_2
      have mF1 := mo_Vt_about_8 h
      have hFc := lx_free hD hS hA
      refine va_calli (va_runV (As := [.int z_1]) (rest := []) ⟨hx, hb, hml, hown, hts⟩ (l_Vt_readsInodes l dC dI X _ hc_2) (cwV 1 hts (gwV good_Vq (u_Vq_Vt _ k_Vt_111) (u_Vq_Vt _ k_Vt_112) (u_Vq_Vt _ k_Vt_215) (u_Vq_Vt _ k_Vt_0) (wcs (u_Vq_Vt _ k_Vt_113) (fun _ h => h))) rfl rfl rfl (by decide +kernel) ⟨Nat.le_of_ble_eq_true rfl, Nat.le_of_ble_eq_true rfl⟩) (pv_ofE (X.same _) (fun U z1 z2 => X.mono _ _ U hFc (hEw _ _ hS U z1 z2)) hP hK hD (va_recv hK hP (ci := 11) (q0 := 0) rfl rfl)) rfl rfl hl.1 rfl (lv_room (Nat.le_of_ble_eq_true rfl)) d_Vt_about_5 ⟨ly_c1 m0.1 mc.1 mF1.1, ly_c1 m0.2 mc.2 mF1.2⟩) hS (fun q _ h => hFc q h) hFc (fun r_ Y_2 t H locs ht hvm hw hB hz1 hk1 hS => ?_)
      rw [hw]
      obtain ⟨hP, -, hD⟩ := hB
      rw [ht] at hP
      have hD := lx_dj hD hFc
      refine W.widen (k := G_2.gc - G0.gc) (n := G_2.gs - G0.gs) (ly_c2 m0.1 mc.1) (ly_c2 m0.2 mc.2) ?_
      have m0 := CG.le_tr m0 mc
      exact hB_8 y_1 y_2 r_2 Y_2 G_2 S_2 _ _ _ h m0 hP hD hS (lv_sub hl [0, 1, 2] rfl)
    · exact absurd (th_Vt_readsInodes h9) (by decide)
  have m0 : CG.le G0 G0 := ⟨Nat.le_refl _, Nat.le_refl _⟩
  have mF := mo_Vt_about h
  refine W.widen (k := G0.gc - G0.gc) (n := G0.gs - G0.gs) (Nat.zero_le _) (Nat.zero_le _) ?_
  rw [f_Vt_about] at h
  refine lv_aload_n hx hb d_Vt_about_0 rfl (lv_at hl 0 rfl) ?_
  refine lv_aload_n hx hb d_Vt_about_1 rfl (lv_at hl 0 rfl) ?_
  obtain ⟨r_1, G_1, S_1, hc_1, h⟩ := lf_nE h
  have mc := mo_Vt_look hc_1
  have ml_1 := mo_Vt_look hc_1
  have mF1 := mo_Vt_about_5 h
  have hFc := lx_free hD hS hA
  refine va_calli (va_runV (As := []) (rest := [.ref M.o_Vt]) ⟨hx, hb, hml, hown, hts⟩ (l_Vt_look l dC dI X _ hc_1) (cwV 0 hts (gwV good_Vq (u_Vq_Vt _ k_Vt_68) (u_Vq_Vt _ k_Vt_69) (u_Vq_Vt _ k_Vt_214) (u_Vq_Vt _ k_Vt_0) (wcs (u_Vq_Vt _ k_Vt_70) (fun _ h => h))) rfl rfl rfl (by decide +kernel) ⟨Nat.le_of_ble_eq_true rfl, Nat.le_of_ble_eq_true rfl⟩) (pv_ofE (X.same _) (fun U z1 z2 => X.mono _ _ U hFc (hEw _ _ hS U z1 z2)) hP hK hD (va_recv hK hP (ci := 11) (q0 := 0) rfl rfl)) rfl rfl hl.1 rfl (lv_room (Nat.le_of_ble_eq_true rfl)) d_Vt_about_2 ⟨ly_c1 m0.1 mc.1 mF1.1, ly_c1 m0.2 mc.2 mF1.2⟩) hS (fun q _ h => hFc q h) hFc (fun r_ Y_1 t H locs ht hvm hw hB hz1 hk1 hS => ?_)
  rw [hw]
  obtain ⟨hP, -, hD⟩ := hB
  rw [ht] at hP
  have hD := lx_dj hD hFc
  refine W.widen (k := G_1.gc - G0.gc) (n := G_1.gs - G0.gs) (ly_c2 m0.1 mc.1) (ly_c2 m0.2 mc.2) ?_
  have m0 := CG.le_tr m0 mc
  exact hB_5 p0 p1 r_1 Y_1 G_1 S_1 _ _ _ h m0 hP hD hS (lv_sub hl [0, 1, 2] rfl)
set_option maxHeartbeats 4000000 in
set_option maxRecDepth 100000 in
theorem lt_Vt_about_1 (l : Launch) (hfl : l.flags = pinnedFlags ++ [noTraceFlag]) (dC : Nat → ClassId) (dI : Nat → Nat → Nat) {K : Nat} {M : CA} {E : (Nat → Prop) → State → Prop} (X : ly_X l dC dI K M E) (sz : Nat) {Y : CT} {G0 G' : CG} {S S' : CS} {p0 : Int32} {p1 : Int32} (h : f_Vt_about K G0 S p0 p1 = some (.error 1, G', S')) : MetX l y_Vt_about (.code y_Vt_about cb_Vt_about 5 (some .long) :: V_Vq) ({ frames := 8, cells := G'.gc - G0.gc, slots := G'.gs - G0.gs, locals := 224 }) (va_Pc [.ref M.o_Vt, .int p0, .int p1] (fun U => U.heap.size = sz ∧ at_ (dC, dI) (fun _ => True) (wV M Y G0 S) (tV M) U ∧ E (va_A (wV M Y G0 S) sz) U)) (fun _ _ _ _ => False) (x_Q "java/lang/IllegalStateException" (va_A (wV M Y G0 S) sz) (fun t => ∃ u : CT, at_ (dC, dI) (va_A (wV M Y G0 S) sz) (wV M u G' S') (tV M) t)) (G'.gc - G0.gc) (G'.gs - G0.gs) (va_A (wV M Y G0 S) sz) := by
  refine MetX.ofW (cc := cb_Vt_about) (maxL := 5) (ret := (some .long)) (by decide) rfl ?_
  intro p e s m args below meth c s₁ B hml hv
  obtain ⟨rfl, hsz, ⟨hP, hK, hD0⟩, hE⟩ := hv
  have hx := B.exec
  have hb := B.bytes
  have hr := B.returns
  have hts0 := atoms_spec (ws := .code y_Vt_about cb_Vt_about 5 (some .long) :: V_Vq) B.pre
  have hts : ∀ w ∈ V_Vq, w.before ([.ref M.o_Vt, .int p0, .int p1] : List Value).toArray s = true := fun w h => hts0 w (List.mem_cons_of_mem _ h)
  have hown : s.vm.findClass R_Vt = some m.cls := findClass_of_methodNamed B.named
  have hlocks := B.notSynchronized
  have hout := x_table B (hts0 _ List.mem_cons_self)
  subst hsz
  have hD := hD0.self (sz := s.heap.size)
  generalize hAe : va_A (wV M Y G0 S) s.heap.size = A at hD hE ⊢
  have hA : ∀ q : Nat, s.heap.size ≤ q → A q := fun q h => by rw [← hAe]; exact Or.inr h
  have hS : va_S A s.heap s.heap [] := va_S.rf
  have hP : va_P (dC, dI) classes (wV M Y G0 S) s.heap := hP
  have hK : va_K (dC, dI) classes (tV M) s := hK
  have hEw : ∀ (H : Heap) (locs : List Loc), va_S A s.heap H locs → ∀ U : State, U.heap = H → s.WarmedH U.vm → E A U := fun H locs hS U hU hW => X.kept A s U H locs hE hS hU hW
  have hl := lv_entry ([.ref M.o_Vt, .int p0, .int p1]) (n := 5) (Nat.le_of_ble_eq_true rfl)
  rw [lg_entry_eq]
  generalize (lg_sl ([.ref M.o_Vt, .int p0, .int p1]) ++ List.replicate (5 - (lg_sl ([.ref M.o_Vt, .int p0, .int p1])).length) Slot.unset).toArray = ls at hl ⊢
  have hl : lv_has ls 5 [(0, .ref M.o_Vt), (1, .int p0), (2, .int p1)] := hl
  refine qabs (fun Q hQ => ?_)
  have hB_37 : ∀ (Y : CT) (G : CG) (S : CS) (H : Heap) (locs : List Loc) (ls : Array Slot), f_Vt_about_37 K G S = some (.error 1, G', S') → CG.le G0 G → va_P (dC, dI) classes (wV M Y G S) H → va_D A (wV M Y G S) → va_S A s.heap H locs → lv_has ls 5 [] → W p l e ({ frames := 8, cells := G'.gc - G0.gc, slots := G'.gs - G0.gs, locals := 224 }) s m ([.ref M.o_Vt, .int p0, .int p1] : List Value).toArray below meth c H locs (G.gc - G0.gc) (G.gs - G0.gs) Q (F0 m 37 ls []) := by
    intro Y G S H locs ls h m0 hP hD hS hl
    have mF := mo_Vt_about_37 h
    rw [f_Vt_about_37] at h
    exact lf_xk h (by decide)
  have hB_26 : ∀ (y_2 : Int32) (y_3 : Int32) (z_0 : Int32) (Y : CT) (G : CG) (S : CS) (H : Heap) (locs : List Loc) (ls : Array Slot), f_Vt_about_26 K y_2 y_3 z_0 G S = some (.error 1, G', S') → CG.le G0 G → va_P (dC, dI) classes (wV M Y G S) H → va_D A (wV M Y G S) → va_S A s.heap H locs → lv_has ls 5 [(0, .ref M.o_Vt), (2, .int y_2), (3, .int y_3)] → W p l e ({ frames := 8, cells := G'.gc - G0.gc, slots := G'.gs - G0.gs, locals := 224 }) s m ([.ref M.o_Vt, .int p0, .int p1] : List Value).toArray below meth c H locs (G.gc - G0.gc) (G.gs - G0.gs) Q (F0 m 26 ls [.int z_0]) := by
    intro y_2 y_3 z_0 Y G S H locs ls h m0 hP hD hS hl
    have mF := mo_Vt_about_26 h
    rw [f_Vt_about_26] at h
    refine lv_istore (lv' := [(4, .int z_0), (0, .ref M.o_Vt), (2, .int y_2), (3, .int y_3)]) hx hb d_Vt_about_26 hl (by decide) rfl (fun ls hl => ?_)
    refine lv_iload_n hx hb d_Vt_about_28 rfl (lv_at hl 2 rfl) ?_
    refine lv_if_lt (tgt := 37) hx hb d_Vt_about_29 (by decide) (fun c_6 => ?_) (fun c_6 => ?_)
    · have h := lf_t h c_6
      exact hB_37 Y G S _ _ _ h m0 hP hD hS (lv_sub hl [] rfl)
    · have h := lf_f h c_6
      refine lv_iload_n hx hb d_Vt_about_32 rfl (lv_at hl 2 rfl) ?_
      refine lv_iconst (v := 5) hx hb d_Vt_about_33 (by decide) ?_
      refine lv_icmp_le (tgt := 47) hx hb d_Vt_about_34 (by decide) (fun c_7 => ?_) (fun c_7 => ?_)
      · have h := lf_t h c_7
        refine lv_iload_n hx hb d_Vt_about_47 rfl (lv_at hl 3 rfl) ?_
        refine lv_if_eq (tgt := 64) hx hb d_Vt_about_48 (by decide) (fun c_8 => ?_) (fun c_8 => ?_)
        · have h := lf_t h c_8
          refine lv_aload_n hx hb d_Vt_about_64 rfl (lv_at hl 1 rfl) ?_
          refine lv_iload hx hb d_Vt_about_65 (lv_at hl 0 rfl) ?_
          refine lv_iload_n hx hb d_Vt_about_67 rfl (lv_at hl 2 rfl) ?_
          obtain ⟨r_9, S_9, hc_9, h⟩ := lf_cE h
          have hFc := lx_free hD hS hA
          refine va_calll (va_runV (As := [.int z_0, .int y_2]) (rest := []) ⟨hx, hb, hml, hown, hts⟩ (l_Vt_tellItem l dC dI X _ hc_9) (cwV 2 hts (gwV good_Vq (u_Vq_Vt _ k_Vt_139) (u_Vq_Vt _ k_Vt_140) (u_Vq_Vt _ k_Vt_221) (u_Vq_Vt _ k_Vt_0) (wcs (u_Vq_Vt _ k_Vt_141) (fun _ h => h))) rfl rfl rfl (by decide +kernel) ⟨Nat.le_of_ble_eq_true rfl, Nat.le_of_ble_eq_true rfl⟩) (pv_ofE (X.same _) (fun U z1 z2 => X.mono _ _ U hFc (hEw _ _ hS U z1 z2)) hP hK hD (va_recv hK hP (ci := 11) (q0 := 0) rfl rfl)) rfl rfl hl.1 rfl (lv_room (Nat.le_of_ble_eq_true rfl)) d_Vt_about_68 ⟨ly_c0 mF.1, ly_c0 mF.2⟩) hS (fun q _ h => hFc q h) hFc (fun r_ u t H locs ht hvm hw hB hz1 hk1 hS => ?_)
          rw [hw]
          obtain ⟨hP, -, hD⟩ := hB
          rw [ht] at hP
          have hD := lx_dj hD hFc
          exact lf_xo h
        · have h := lf_f h c_8
          refine lv_aload_n hx hb d_Vt_about_51 rfl (lv_at hl 1 rfl) ?_
          refine va_get (D := (dC, dI)) (ci := 11) (v := .ref M.o_In) (C := R_Vt) (T := F_Vt) (N := 16) hx hb hts (fun w h => u_Vq_Vt w (i_Vt w h)) hown hK hP 0 rfl rfl 8 (by decide) (hts _ (u_Vq_Vt _ k_Vt_37)) (fun _ h9 => h9) rfl d_Vt_about_52 ?_
          refine lv_iload hx hb d_Vt_about_55 (lv_at hl 0 rfl) ?_
          refine lv_iload_n hx hb d_Vt_about_57 rfl (lv_at hl 2 rfl) ?_
          obtain ⟨r_10, S_10, hc_10, h⟩ := lf_cE h
          have hFc := lx_free hD hS hA
          refine va_calll (va_runV (As := [.int z_0, .int y_2]) (rest := []) ⟨hx, hb, hml, hown, hts⟩ (l_In_tell l dC dI X _ hc_10) (cwV 2 hts (gwV good_Vq (u_Vq_Vt _ k_Vt_138) (u_Vq_In _ k_In_46) (u_Vq_In _ k_In_47) (u_Vq_In _ k_In_0) (wcs (u_Vq_In _ k_In_48) (fun _ h => h))) rfl rfl rfl (by decide +kernel) ⟨Nat.le_of_ble_eq_true rfl, Nat.le_of_ble_eq_true rfl⟩) (pv_ofE (X.same _) (fun U z1 z2 => X.mono _ _ U hFc (hEw _ _ hS U z1 z2)) hP hK hD (va_recv hK hP (ci := 6) (q0 := 9) rfl rfl)) rfl rfl hl.1 rfl (lv_room (Nat.le_of_ble_eq_true rfl)) d_Vt_about_58 ⟨ly_c0 mF.1, ly_c0 mF.2⟩) hS (fun q _ h => hFc q h) hFc (fun r_ u t H locs ht hvm hw hB hz1 hk1 hS => ?_)
          rw [hw]
          obtain ⟨hP, -, hD⟩ := hB
          rw [ht] at hP
          have hD := lx_dj hD hFc
          refine lv_goto (tgt := 71) hx hb d_Vt_about_61 (by decide) ?_
          exact lf_xo h
      · have h := lf_f h c_7
        exact hB_37 Y G S _ _ _ h m0 hP hD hS (lv_sub hl [] rfl)
  have hB_18 : ∀ (y_2 : Int32) (y_3 : Int32) (z_0 : Int32) (Y : CT) (G : CG) (S : CS) (H : Heap) (locs : List Loc) (ls : Array Slot), f_Vt_about_18 K y_2 y_3 z_0 G S = some (.error 1, G', S') → CG.le G0 G → va_P (dC, dI) classes (wV M Y G S) H → va_D A (wV M Y G S) → va_S A s.heap H locs → lv_has ls 5 [(0, .ref M.o_Vt), (2, .int y_2), (3, .int y_3)] → W p l e ({ frames := 8, cells := G'.gc - G0.gc, slots := G'.gs - G0.gs, locals := 224 }) s m ([.ref M.o_Vt, .int p0, .int p1] : List Value).toArray below meth c H locs (G.gc - G0.gc) (G.gs - G0.gs) Q (F0 m 18 ls [.int z_0]) := by
    intro y_2 y_3 z_0 Y G S H locs ls h m0 hP hD hS hl
    have mF := mo_Vt_about_18 h
    rw [f_Vt_about_18] at h
    refine lv_goto (tgt := 26) hx hb d_Vt_about_18 (by decide) ?_
    exact hB_26 y_2 y_3 z_0 Y G S _ _ _ h m0 hP hD hS (lv_sub hl [0, 1, 2] rfl)
  have hB_8 : ∀ (y_1 : Int32) (y_2 : Int32) (z_0 : Int32) (Y : CT) (G : CG) (S : CS) (H : Heap) (locs : List Loc) (ls : Array Slot), f_Vt_about_8 K y_1 y_2 z_0 G S = some (.error 1, G', S') → CG.le G0 G → va_P (dC, dI) classes (wV M Y G S) H → va_D A (wV M Y G S) → va_S A s.heap H locs → lv_has ls 5 [(0, .ref M.o_Vt), (1, .int y_1), (2, .int y_2)] → W p l e ({ frames := 8, cells := G'.gc - G0.gc, slots := G'.gs - G0.gs, locals := 224 }) s m ([.ref M.o_Vt, .int p0, .int p1] : List Value).toArray below meth c H locs (G.gc - G0.gc) (G.gs - G0.gs) Q (F0 m 8 ls [.int z_0]) := by
    intro y_1 y_2 z_0 Y G S H locs ls h m0 hP hD hS hl
    have mF := mo_Vt_about_8 h
    rw [f_Vt_about_8] at h
    refine lv_istore_n (lv' := [(3, .int z_0), (0, .ref M.o_Vt), (1, .int y_1), (2, .int y_2)]) hx hb d_Vt_about_8 rfl hl (by decide) rfl (fun ls hl => ?_)
    refine lv_iload_n hx hb d_Vt_about_9 rfl (lv_at hl 0 rfl) ?_
    refine lv_if_eq (tgt := 21) hx hb d_Vt_about_10 (by decide) (fun c_3 => ?_) (fun c_3 => ?_)
    · have h := lf_t h c_3
      refine lv_aload_n hx hb d_Vt_about_21 rfl (lv_at hl 1 rfl) ?_
      refine lv_iload_n hx hb d_Vt_about_22 rfl (lv_at hl 2 rfl) ?_
      rcases lf_aT h with ⟨r_4, G_4, S_4, hc_4, h⟩ | h9
      · have mc := mo_Vt_itemHere hc_4
        have ml_4 := mo_Vt_itemHere hc_4
        have mF1 := mo_Vt_about_26 h
        have hFc := lx_free hD hS hA
        refine va_calli (va_runV (As := [.int y_1]) (rest := []) ⟨hx, hb, hml, hown, hts⟩ (l_Vt_itemHere l dC dI X _ hc_4) (cwV 1 hts (gwV good_Vq (u_Vq_Vt _ k_Vt_130) (u_Vq_Vt _ k_Vt_131) (u_Vq_Vt _ k_Vt_217) (u_Vq_Vt _ k_Vt_0) (wcs (u_Vq_Vt _ k_Vt_132) (fun _ h => h))) rfl rfl rfl (by decide +kernel) ⟨Nat.le_of_ble_eq_true rfl, Nat.le_of_ble_eq_true rfl⟩) (pv_ofE (X.same _) (fun U z1 z2 => X.mono _ _ U hFc (hEw _ _ hS U z1 z2)) hP hK hD (va_recv hK hP (ci := 11) (q0 := 0) rfl rfl)) rfl rfl hl.1 rfl (lv_room (Nat.le_of_ble_eq_true rfl)) d_Vt_about_23 ⟨ly_c1 m0.1 mc.1 mF1.1, ly_c1 m0.2 mc.2 mF1.2⟩) hS (fun q _ h => hFc q h) hFc (fun r_ Y_4 t H locs ht hvm hw hB hz1 hk1 hS => ?_)
        rw [hw]
        obtain ⟨hP, -, hD⟩ := hB
        rw [ht] at hP
        have hD := lx_dj hD hFc
        refine W.widen (k := G_4.gc - G0.gc) (n := G_4.gs - G0.gs) (ly_c2 m0.1 mc.1) (ly_c2 m0.2 mc.2) ?_
        have m0 := CG.le_tr m0 mc
        exact hB_26 y_2 z_0 r_4 Y_4 G_4 S_4 _ _ _ h m0 hP hD hS (lv_sub hl [1, 3, 0] rfl)
      · exact absurd (th_Vt_itemHere h9) (by decide)
    · have h := lf_f h c_3
      refine lv_aload_n hx hb d_Vt_about_13 rfl (lv_at hl 1 rfl) ?_
      refine lv_iload_n hx hb d_Vt_about_14 rfl (lv_at hl 2 rfl) ?_
      rcases lf_aT h with ⟨r_5, G_5, S_5, hc_5, h⟩ | h9
      · have mc := mo_Vt_entryHere hc_5
        have ml_5 := mo_Vt_entryHere hc_5
        have mF1 := mo_Vt_about_18 h
        have hFc := lx_free hD hS hA
        refine va_calli (va_runV (As := [.int y_1]) (rest := []) ⟨hx, hb, hml, hown, hts⟩ (l_Vt_entryHere l dC dI X _ hc_5) (cwV 1 hts (gwV good_Vq (u_Vq_Vt _ k_Vt_122) (u_Vq_Vt _ k_Vt_123) (u_Vq_Vt _ k_Vt_218) (u_Vq_Vt _ k_Vt_0) (wcs (u_Vq_Vt _ k_Vt_124) (fun _ h => h))) rfl rfl rfl (by decide +kernel) ⟨Nat.le_of_ble_eq_true rfl, Nat.le_of_ble_eq_true rfl⟩) (pv_ofE (X.same _) (fun U z1 z2 => X.mono _ _ U hFc (hEw _ _ hS U z1 z2)) hP hK hD (va_recv hK hP (ci := 11) (q0 := 0) rfl rfl)) rfl rfl hl.1 rfl (lv_room (Nat.le_of_ble_eq_true rfl)) d_Vt_about_15 ⟨ly_c1 m0.1 mc.1 mF1.1, ly_c1 m0.2 mc.2 mF1.2⟩) hS (fun q _ h => hFc q h) hFc (fun r_ Y_5 t H locs ht hvm hw hB hz1 hk1 hS => ?_)
        rw [hw]
        obtain ⟨hP, -, hD⟩ := hB
        rw [ht] at hP
        have hD := lx_dj hD hFc
        refine W.widen (k := G_5.gc - G0.gc) (n := G_5.gs - G0.gs) (ly_c2 m0.1 mc.1) (ly_c2 m0.2 mc.2) ?_
        have m0 := CG.le_tr m0 mc
        exact hB_18 y_2 z_0 r_5 Y_5 G_5 S_5 _ _ _ h m0 hP hD hS (lv_sub hl [1, 3, 0] rfl)
      · exact absurd (th_Vt_entryHere h9) (by decide)
  have hB_5 : ∀ (y_1 : Int32) (y_2 : Int32) (z_1 : Int32) (Y : CT) (G : CG) (S : CS) (H : Heap) (locs : List Loc) (ls : Array Slot), f_Vt_about_5 K y_1 y_2 z_1 G S = some (.error 1, G', S') → CG.le G0 G → va_P (dC, dI) classes (wV M Y G S) H → va_D A (wV M Y G S) → va_S A s.heap H locs → lv_has ls 5 [(0, .ref M.o_Vt), (1, .int y_1), (2, .int y_2)] → W p l e ({ frames := 8, cells := G'.gc - G0.gc, slots := G'.gs - G0.gs, locals := 224 }) s m ([.ref M.o_Vt, .int p0, .int p1] : List Value).toArray below meth c H locs (G.gc - G0.gc) (G.gs - G0.gs) Q (F0 m 5 ls [.int z_1, .ref M.o_Vt]) := by
    intro y_1 y_2 z_1 Y G S H locs ls h m0 hP hD hS hl
    have mF := mo_Vt_about_5 h
    rw [f_Vt_about_5] at h
    rcases lf_aT h with ⟨r_2, G_2, S_2, hc_2, h⟩ | h9
    · have mc := mo_Vt_readsInodes hc_2
      have ml_2 := mo_Vt_readsInodes hc_2
      have mF1 := mo_Vt_about_8 h
      have hFc := lx_free hD hS hA
      refine va_calli (va_runV (As := [.int z_1]) (rest := []) ⟨hx, hb, hml, hown, hts⟩ (l_Vt_readsInodes l dC dI X _ hc_2) (cwV 1 hts (gwV good_Vq (u_Vq_Vt _ k_Vt_111) (u_Vq_Vt _ k_Vt_112) (u_Vq_Vt _ k_Vt_215) (u_Vq_Vt _ k_Vt_0) (wcs (u_Vq_Vt _ k_Vt_113) (fun _ h => h))) rfl rfl rfl (by decide +kernel) ⟨Nat.le_of_ble_eq_true rfl, Nat.le_of_ble_eq_true rfl⟩) (pv_ofE (X.same _) (fun U z1 z2 => X.mono _ _ U hFc (hEw _ _ hS U z1 z2)) hP hK hD (va_recv hK hP (ci := 11) (q0 := 0) rfl rfl)) rfl rfl hl.1 rfl (lv_room (Nat.le_of_ble_eq_true rfl)) d_Vt_about_5 ⟨ly_c1 m0.1 mc.1 mF1.1, ly_c1 m0.2 mc.2 mF1.2⟩) hS (fun q _ h => hFc q h) hFc (fun r_ Y_2 t H locs ht hvm hw hB hz1 hk1 hS => ?_)
      rw [hw]
      obtain ⟨hP, -, hD⟩ := hB
      rw [ht] at hP
      have hD := lx_dj hD hFc
      refine W.widen (k := G_2.gc - G0.gc) (n := G_2.gs - G0.gs) (ly_c2 m0.1 mc.1) (ly_c2 m0.2 mc.2) ?_
      have m0 := CG.le_tr m0 mc
      exact hB_8 y_1 y_2 r_2 Y_2 G_2 S_2 _ _ _ h m0 hP hD hS (lv_sub hl [0, 1, 2] rfl)
    · have mc := mo_Vt_readsInodes h9
      have hFc := lx_free hD hS hA
      rw [hQ]
      exact x_outV (n := 1) (As := [.int z_1]) (rest := []) (b := M.o_Vt) (st0 := [.int z_1, .ref M.o_Vt]) ⟨hx, hb, hml, hown, hts⟩ (lt_Vt_readsInodes_1 l hfl dC dI X _ h9) (cwV 1 hts (gwV good_Vq (u_Vq_Vt _ k_Vt_111) (u_Vq_Vt _ k_Vt_112) (u_Vq_Vt _ k_Vt_215) (u_Vq_Vt _ k_Vt_0) (wcs (u_Vq_Vt _ k_Vt_113) (fun _ h => h))) rfl rfl rfl (by decide +kernel) ⟨Nat.le_of_ble_eq_true rfl, Nat.le_of_ble_eq_true rfl⟩) (pv_ofE (X.same _) (fun U z1 z2 => X.mono _ _ U hFc (hEw _ _ hS U z1 z2)) hP hK hD (va_recv hK hP (ci := 11) (q0 := 0) rfl rfl)) rfl hl.1 rfl (Nat.le_of_ble_eq_true rfl) d_Vt_about_5 ⟨ly_c2 m0.1 mc.1, ly_c2 m0.2 mc.2⟩ hlocks hout ⟨ly_c2 m0.1 mc.1, ly_c2 m0.2 mc.2⟩ (fun E st t U z1 z2 z3 z4 z5 => ly_outQ hS hK hFc z1 z3 z4 z5) ⟨hS.2.2, fun z h => hFc z h⟩
  have m0 : CG.le G0 G0 := ⟨Nat.le_refl _, Nat.le_refl _⟩
  have mF := mo_Vt_about h
  refine W.widen (k := G0.gc - G0.gc) (n := G0.gs - G0.gs) (Nat.zero_le _) (Nat.zero_le _) ?_
  rw [f_Vt_about] at h
  refine lv_aload_n hx hb d_Vt_about_0 rfl (lv_at hl 0 rfl) ?_
  refine lv_aload_n hx hb d_Vt_about_1 rfl (lv_at hl 0 rfl) ?_
  obtain ⟨r_1, G_1, S_1, hc_1, h⟩ := lf_nE h
  have mc := mo_Vt_look hc_1
  have ml_1 := mo_Vt_look hc_1
  have mF1 := mo_Vt_about_5 h
  have hFc := lx_free hD hS hA
  refine va_calli (va_runV (As := []) (rest := [.ref M.o_Vt]) ⟨hx, hb, hml, hown, hts⟩ (l_Vt_look l dC dI X _ hc_1) (cwV 0 hts (gwV good_Vq (u_Vq_Vt _ k_Vt_68) (u_Vq_Vt _ k_Vt_69) (u_Vq_Vt _ k_Vt_214) (u_Vq_Vt _ k_Vt_0) (wcs (u_Vq_Vt _ k_Vt_70) (fun _ h => h))) rfl rfl rfl (by decide +kernel) ⟨Nat.le_of_ble_eq_true rfl, Nat.le_of_ble_eq_true rfl⟩) (pv_ofE (X.same _) (fun U z1 z2 => X.mono _ _ U hFc (hEw _ _ hS U z1 z2)) hP hK hD (va_recv hK hP (ci := 11) (q0 := 0) rfl rfl)) rfl rfl hl.1 rfl (lv_room (Nat.le_of_ble_eq_true rfl)) d_Vt_about_2 ⟨ly_c1 m0.1 mc.1 mF1.1, ly_c1 m0.2 mc.2 mF1.2⟩) hS (fun q _ h => hFc q h) hFc (fun r_ Y_1 t H locs ht hvm hw hB hz1 hk1 hS => ?_)
  rw [hw]
  obtain ⟨hP, -, hD⟩ := hB
  rw [ht] at hP
  have hD := lx_dj hD hFc
  refine W.widen (k := G_1.gc - G0.gc) (n := G_1.gs - G0.gs) (ly_c2 m0.1 mc.1) (ly_c2 m0.2 mc.2) ?_
  have m0 := CG.le_tr m0 mc
  exact hB_5 p0 p1 r_1 Y_1 G_1 S_1 _ _ _ h m0 hP hD hS (lv_sub hl [0, 1, 2] rfl)
set_option maxHeartbeats 4000000 in
set_option maxRecDepth 100000 in
theorem lt_Vt_about_2 (l : Launch) (hfl : l.flags = pinnedFlags ++ [noTraceFlag]) (dC : Nat → ClassId) (dI : Nat → Nat → Nat) {K : Nat} {M : CA} {E : (Nat → Prop) → State → Prop} (X : ly_X l dC dI K M E) (sz : Nat) {Y : CT} {G0 G' : CG} {S S' : CS} {p0 : Int32} {p1 : Int32} (h : f_Vt_about K G0 S p0 p1 = some (.error 2, G', S')) : MetX l y_Vt_about (.code y_Vt_about cb_Vt_about 5 (some .long) :: V_Vq) ({ frames := 8, cells := G'.gc - G0.gc, slots := G'.gs - G0.gs, locals := 224 }) (va_Pc [.ref M.o_Vt, .int p0, .int p1] (fun U => U.heap.size = sz ∧ at_ (dC, dI) (fun _ => True) (wV M Y G0 S) (tV M) U ∧ E (va_A (wV M Y G0 S) sz) U)) (fun _ _ _ _ => False) (x_Q "java/lang/IndexOutOfBoundsException" (va_A (wV M Y G0 S) sz) (fun t => ∃ u : CT, at_ (dC, dI) (va_A (wV M Y G0 S) sz) (wV M u G' S') (tV M) t)) (G'.gc - G0.gc) (G'.gs - G0.gs) (va_A (wV M Y G0 S) sz) := by
  refine MetX.ofW (cc := cb_Vt_about) (maxL := 5) (ret := (some .long)) (by decide) rfl ?_
  intro p e s m args below meth c s₁ B hml hv
  obtain ⟨rfl, hsz, ⟨hP, hK, hD0⟩, hE⟩ := hv
  have hx := B.exec
  have hb := B.bytes
  have hr := B.returns
  have hts0 := atoms_spec (ws := .code y_Vt_about cb_Vt_about 5 (some .long) :: V_Vq) B.pre
  have hts : ∀ w ∈ V_Vq, w.before ([.ref M.o_Vt, .int p0, .int p1] : List Value).toArray s = true := fun w h => hts0 w (List.mem_cons_of_mem _ h)
  have hown : s.vm.findClass R_Vt = some m.cls := findClass_of_methodNamed B.named
  have hlocks := B.notSynchronized
  have hout := x_table B (hts0 _ List.mem_cons_self)
  subst hsz
  have hD := hD0.self (sz := s.heap.size)
  generalize hAe : va_A (wV M Y G0 S) s.heap.size = A at hD hE ⊢
  have hA : ∀ q : Nat, s.heap.size ≤ q → A q := fun q h => by rw [← hAe]; exact Or.inr h
  have hS : va_S A s.heap s.heap [] := va_S.rf
  have hP : va_P (dC, dI) classes (wV M Y G0 S) s.heap := hP
  have hK : va_K (dC, dI) classes (tV M) s := hK
  have hEw : ∀ (H : Heap) (locs : List Loc), va_S A s.heap H locs → ∀ U : State, U.heap = H → s.WarmedH U.vm → E A U := fun H locs hS U hU hW => X.kept A s U H locs hE hS hU hW
  have hl := lv_entry ([.ref M.o_Vt, .int p0, .int p1]) (n := 5) (Nat.le_of_ble_eq_true rfl)
  rw [lg_entry_eq]
  generalize (lg_sl ([.ref M.o_Vt, .int p0, .int p1]) ++ List.replicate (5 - (lg_sl ([.ref M.o_Vt, .int p0, .int p1])).length) Slot.unset).toArray = ls at hl ⊢
  have hl : lv_has ls 5 [(0, .ref M.o_Vt), (1, .int p0), (2, .int p1)] := hl
  refine qabs (fun Q hQ => ?_)
  have hB_37 : ∀ (Y : CT) (G : CG) (S : CS) (H : Heap) (locs : List Loc) (ls : Array Slot), f_Vt_about_37 K G S = some (.error 2, G', S') → CG.le G0 G → va_P (dC, dI) classes (wV M Y G S) H → va_D A (wV M Y G S) → va_S A s.heap H locs → lv_has ls 5 [] → W p l e ({ frames := 8, cells := G'.gc - G0.gc, slots := G'.gs - G0.gs, locals := 224 }) s m ([.ref M.o_Vt, .int p0, .int p1] : List Value).toArray below meth c H locs (G.gc - G0.gc) (G.gs - G0.gs) Q (F0 m 37 ls []) := by
    intro Y G S H locs ls h m0 hP hD hS hl
    have mF := mo_Vt_about_37 h
    rw [f_Vt_about_37] at h
    exact lf_xk h (by decide)
  have hB_26 : ∀ (y_2 : Int32) (y_3 : Int32) (z_0 : Int32) (Y : CT) (G : CG) (S : CS) (H : Heap) (locs : List Loc) (ls : Array Slot), f_Vt_about_26 K y_2 y_3 z_0 G S = some (.error 2, G', S') → CG.le G0 G → va_P (dC, dI) classes (wV M Y G S) H → va_D A (wV M Y G S) → va_S A s.heap H locs → lv_has ls 5 [(0, .ref M.o_Vt), (2, .int y_2), (3, .int y_3)] → W p l e ({ frames := 8, cells := G'.gc - G0.gc, slots := G'.gs - G0.gs, locals := 224 }) s m ([.ref M.o_Vt, .int p0, .int p1] : List Value).toArray below meth c H locs (G.gc - G0.gc) (G.gs - G0.gs) Q (F0 m 26 ls [.int z_0]) := by
    intro y_2 y_3 z_0 Y G S H locs ls h m0 hP hD hS hl
    have mF := mo_Vt_about_26 h
    rw [f_Vt_about_26] at h
    refine lv_istore (lv' := [(4, .int z_0), (0, .ref M.o_Vt), (2, .int y_2), (3, .int y_3)]) hx hb d_Vt_about_26 hl (by decide) rfl (fun ls hl => ?_)
    refine lv_iload_n hx hb d_Vt_about_28 rfl (lv_at hl 2 rfl) ?_
    refine lv_if_lt (tgt := 37) hx hb d_Vt_about_29 (by decide) (fun c_6 => ?_) (fun c_6 => ?_)
    · have h := lf_t h c_6
      exact hB_37 Y G S _ _ _ h m0 hP hD hS (lv_sub hl [] rfl)
    · have h := lf_f h c_6
      refine lv_iload_n hx hb d_Vt_about_32 rfl (lv_at hl 2 rfl) ?_
      refine lv_iconst (v := 5) hx hb d_Vt_about_33 (by decide) ?_
      refine lv_icmp_le (tgt := 47) hx hb d_Vt_about_34 (by decide) (fun c_7 => ?_) (fun c_7 => ?_)
      · have h := lf_t h c_7
        refine lv_iload_n hx hb d_Vt_about_47 rfl (lv_at hl 3 rfl) ?_
        refine lv_if_eq (tgt := 64) hx hb d_Vt_about_48 (by decide) (fun c_8 => ?_) (fun c_8 => ?_)
        · have h := lf_t h c_8
          refine lv_aload_n hx hb d_Vt_about_64 rfl (lv_at hl 1 rfl) ?_
          refine lv_iload hx hb d_Vt_about_65 (lv_at hl 0 rfl) ?_
          refine lv_iload_n hx hb d_Vt_about_67 rfl (lv_at hl 2 rfl) ?_
          obtain ⟨r_9, S_9, hc_9, h⟩ := lf_cE h
          have hFc := lx_free hD hS hA
          refine va_calll (va_runV (As := [.int z_0, .int y_2]) (rest := []) ⟨hx, hb, hml, hown, hts⟩ (l_Vt_tellItem l dC dI X _ hc_9) (cwV 2 hts (gwV good_Vq (u_Vq_Vt _ k_Vt_139) (u_Vq_Vt _ k_Vt_140) (u_Vq_Vt _ k_Vt_221) (u_Vq_Vt _ k_Vt_0) (wcs (u_Vq_Vt _ k_Vt_141) (fun _ h => h))) rfl rfl rfl (by decide +kernel) ⟨Nat.le_of_ble_eq_true rfl, Nat.le_of_ble_eq_true rfl⟩) (pv_ofE (X.same _) (fun U z1 z2 => X.mono _ _ U hFc (hEw _ _ hS U z1 z2)) hP hK hD (va_recv hK hP (ci := 11) (q0 := 0) rfl rfl)) rfl rfl hl.1 rfl (lv_room (Nat.le_of_ble_eq_true rfl)) d_Vt_about_68 ⟨ly_c0 mF.1, ly_c0 mF.2⟩) hS (fun q _ h => hFc q h) hFc (fun r_ u t H locs ht hvm hw hB hz1 hk1 hS => ?_)
          rw [hw]
          obtain ⟨hP, -, hD⟩ := hB
          rw [ht] at hP
          have hD := lx_dj hD hFc
          exact lf_xo h
        · have h := lf_f h c_8
          refine lv_aload_n hx hb d_Vt_about_51 rfl (lv_at hl 1 rfl) ?_
          refine va_get (D := (dC, dI)) (ci := 11) (v := .ref M.o_In) (C := R_Vt) (T := F_Vt) (N := 16) hx hb hts (fun w h => u_Vq_Vt w (i_Vt w h)) hown hK hP 0 rfl rfl 8 (by decide) (hts _ (u_Vq_Vt _ k_Vt_37)) (fun _ h9 => h9) rfl d_Vt_about_52 ?_
          refine lv_iload hx hb d_Vt_about_55 (lv_at hl 0 rfl) ?_
          refine lv_iload_n hx hb d_Vt_about_57 rfl (lv_at hl 2 rfl) ?_
          obtain ⟨r_10, S_10, hc_10, h⟩ := lf_cE h
          have hFc := lx_free hD hS hA
          refine va_calll (va_runV (As := [.int z_0, .int y_2]) (rest := []) ⟨hx, hb, hml, hown, hts⟩ (l_In_tell l dC dI X _ hc_10) (cwV 2 hts (gwV good_Vq (u_Vq_Vt _ k_Vt_138) (u_Vq_In _ k_In_46) (u_Vq_In _ k_In_47) (u_Vq_In _ k_In_0) (wcs (u_Vq_In _ k_In_48) (fun _ h => h))) rfl rfl rfl (by decide +kernel) ⟨Nat.le_of_ble_eq_true rfl, Nat.le_of_ble_eq_true rfl⟩) (pv_ofE (X.same _) (fun U z1 z2 => X.mono _ _ U hFc (hEw _ _ hS U z1 z2)) hP hK hD (va_recv hK hP (ci := 6) (q0 := 9) rfl rfl)) rfl rfl hl.1 rfl (lv_room (Nat.le_of_ble_eq_true rfl)) d_Vt_about_58 ⟨ly_c0 mF.1, ly_c0 mF.2⟩) hS (fun q _ h => hFc q h) hFc (fun r_ u t H locs ht hvm hw hB hz1 hk1 hS => ?_)
          rw [hw]
          obtain ⟨hP, -, hD⟩ := hB
          rw [ht] at hP
          have hD := lx_dj hD hFc
          refine lv_goto (tgt := 71) hx hb d_Vt_about_61 (by decide) ?_
          exact lf_xo h
      · have h := lf_f h c_7
        exact hB_37 Y G S _ _ _ h m0 hP hD hS (lv_sub hl [] rfl)
  have hB_18 : ∀ (y_2 : Int32) (y_3 : Int32) (z_0 : Int32) (Y : CT) (G : CG) (S : CS) (H : Heap) (locs : List Loc) (ls : Array Slot), f_Vt_about_18 K y_2 y_3 z_0 G S = some (.error 2, G', S') → CG.le G0 G → va_P (dC, dI) classes (wV M Y G S) H → va_D A (wV M Y G S) → va_S A s.heap H locs → lv_has ls 5 [(0, .ref M.o_Vt), (2, .int y_2), (3, .int y_3)] → W p l e ({ frames := 8, cells := G'.gc - G0.gc, slots := G'.gs - G0.gs, locals := 224 }) s m ([.ref M.o_Vt, .int p0, .int p1] : List Value).toArray below meth c H locs (G.gc - G0.gc) (G.gs - G0.gs) Q (F0 m 18 ls [.int z_0]) := by
    intro y_2 y_3 z_0 Y G S H locs ls h m0 hP hD hS hl
    have mF := mo_Vt_about_18 h
    rw [f_Vt_about_18] at h
    refine lv_goto (tgt := 26) hx hb d_Vt_about_18 (by decide) ?_
    exact hB_26 y_2 y_3 z_0 Y G S _ _ _ h m0 hP hD hS (lv_sub hl [0, 1, 2] rfl)
  have hB_8 : ∀ (y_1 : Int32) (y_2 : Int32) (z_0 : Int32) (Y : CT) (G : CG) (S : CS) (H : Heap) (locs : List Loc) (ls : Array Slot), f_Vt_about_8 K y_1 y_2 z_0 G S = some (.error 2, G', S') → CG.le G0 G → va_P (dC, dI) classes (wV M Y G S) H → va_D A (wV M Y G S) → va_S A s.heap H locs → lv_has ls 5 [(0, .ref M.o_Vt), (1, .int y_1), (2, .int y_2)] → W p l e ({ frames := 8, cells := G'.gc - G0.gc, slots := G'.gs - G0.gs, locals := 224 }) s m ([.ref M.o_Vt, .int p0, .int p1] : List Value).toArray below meth c H locs (G.gc - G0.gc) (G.gs - G0.gs) Q (F0 m 8 ls [.int z_0]) := by
    intro y_1 y_2 z_0 Y G S H locs ls h m0 hP hD hS hl
    have mF := mo_Vt_about_8 h
    rw [f_Vt_about_8] at h
    refine lv_istore_n (lv' := [(3, .int z_0), (0, .ref M.o_Vt), (1, .int y_1), (2, .int y_2)]) hx hb d_Vt_about_8 rfl hl (by decide) rfl (fun ls hl => ?_)
    refine lv_iload_n hx hb d_Vt_about_9 rfl (lv_at hl 0 rfl) ?_
    refine lv_if_eq (tgt := 21) hx hb d_Vt_about_10 (by decide) (fun c_3 => ?_) (fun c_3 => ?_)
    · have h := lf_t h c_3
      refine lv_aload_n hx hb d_Vt_about_21 rfl (lv_at hl 1 rfl) ?_
      refine lv_iload_n hx hb d_Vt_about_22 rfl (lv_at hl 2 rfl) ?_
      rcases lf_aT h with ⟨r_4, G_4, S_4, hc_4, h⟩ | h9
      · have mc := mo_Vt_itemHere hc_4
        have ml_4 := mo_Vt_itemHere hc_4
        have mF1 := mo_Vt_about_26 h
        have hFc := lx_free hD hS hA
        refine va_calli (va_runV (As := [.int y_1]) (rest := []) ⟨hx, hb, hml, hown, hts⟩ (l_Vt_itemHere l dC dI X _ hc_4) (cwV 1 hts (gwV good_Vq (u_Vq_Vt _ k_Vt_130) (u_Vq_Vt _ k_Vt_131) (u_Vq_Vt _ k_Vt_217) (u_Vq_Vt _ k_Vt_0) (wcs (u_Vq_Vt _ k_Vt_132) (fun _ h => h))) rfl rfl rfl (by decide +kernel) ⟨Nat.le_of_ble_eq_true rfl, Nat.le_of_ble_eq_true rfl⟩) (pv_ofE (X.same _) (fun U z1 z2 => X.mono _ _ U hFc (hEw _ _ hS U z1 z2)) hP hK hD (va_recv hK hP (ci := 11) (q0 := 0) rfl rfl)) rfl rfl hl.1 rfl (lv_room (Nat.le_of_ble_eq_true rfl)) d_Vt_about_23 ⟨ly_c1 m0.1 mc.1 mF1.1, ly_c1 m0.2 mc.2 mF1.2⟩) hS (fun q _ h => hFc q h) hFc (fun r_ Y_4 t H locs ht hvm hw hB hz1 hk1 hS => ?_)
        rw [hw]
        obtain ⟨hP, -, hD⟩ := hB
        rw [ht] at hP
        have hD := lx_dj hD hFc
        refine W.widen (k := G_4.gc - G0.gc) (n := G_4.gs - G0.gs) (ly_c2 m0.1 mc.1) (ly_c2 m0.2 mc.2) ?_
        have m0 := CG.le_tr m0 mc
        exact hB_26 y_2 z_0 r_4 Y_4 G_4 S_4 _ _ _ h m0 hP hD hS (lv_sub hl [1, 3, 0] rfl)
      · have mc := mo_Vt_itemHere h9
        have hFc := lx_free hD hS hA
        rw [hQ]
        exact x_outV (n := 1) (As := [.int y_1]) (rest := []) (b := M.o_Vt) (st0 := [.int y_1, .ref M.o_Vt]) ⟨hx, hb, hml, hown, hts⟩ (lt_Vt_itemHere_2 l hfl dC dI X _ h9) (cwV 1 hts (gwV good_Vq (u_Vq_Vt _ k_Vt_130) (u_Vq_Vt _ k_Vt_131) (u_Vq_Vt _ k_Vt_217) (u_Vq_Vt _ k_Vt_0) (wcs (u_Vq_Vt _ k_Vt_132) (fun _ h => h))) rfl rfl rfl (by decide +kernel) ⟨Nat.le_of_ble_eq_true rfl, Nat.le_of_ble_eq_true rfl⟩) (pv_ofE (X.same _) (fun U z1 z2 => X.mono _ _ U hFc (hEw _ _ hS U z1 z2)) hP hK hD (va_recv hK hP (ci := 11) (q0 := 0) rfl rfl)) rfl hl.1 rfl (Nat.le_of_ble_eq_true rfl) d_Vt_about_23 ⟨ly_c2 m0.1 mc.1, ly_c2 m0.2 mc.2⟩ hlocks hout ⟨ly_c2 m0.1 mc.1, ly_c2 m0.2 mc.2⟩ (fun E st t U z1 z2 z3 z4 z5 => ly_outQ hS hK hFc z1 z3 z4 z5) ⟨hS.2.2, fun z h => hFc z h⟩
    · have h := lf_f h c_3
      refine lv_aload_n hx hb d_Vt_about_13 rfl (lv_at hl 1 rfl) ?_
      refine lv_iload_n hx hb d_Vt_about_14 rfl (lv_at hl 2 rfl) ?_
      rcases lf_aT h with ⟨r_5, G_5, S_5, hc_5, h⟩ | h9
      · have mc := mo_Vt_entryHere hc_5
        have ml_5 := mo_Vt_entryHere hc_5
        have mF1 := mo_Vt_about_18 h
        have hFc := lx_free hD hS hA
        refine va_calli (va_runV (As := [.int y_1]) (rest := []) ⟨hx, hb, hml, hown, hts⟩ (l_Vt_entryHere l dC dI X _ hc_5) (cwV 1 hts (gwV good_Vq (u_Vq_Vt _ k_Vt_122) (u_Vq_Vt _ k_Vt_123) (u_Vq_Vt _ k_Vt_218) (u_Vq_Vt _ k_Vt_0) (wcs (u_Vq_Vt _ k_Vt_124) (fun _ h => h))) rfl rfl rfl (by decide +kernel) ⟨Nat.le_of_ble_eq_true rfl, Nat.le_of_ble_eq_true rfl⟩) (pv_ofE (X.same _) (fun U z1 z2 => X.mono _ _ U hFc (hEw _ _ hS U z1 z2)) hP hK hD (va_recv hK hP (ci := 11) (q0 := 0) rfl rfl)) rfl rfl hl.1 rfl (lv_room (Nat.le_of_ble_eq_true rfl)) d_Vt_about_15 ⟨ly_c1 m0.1 mc.1 mF1.1, ly_c1 m0.2 mc.2 mF1.2⟩) hS (fun q _ h => hFc q h) hFc (fun r_ Y_5 t H locs ht hvm hw hB hz1 hk1 hS => ?_)
        rw [hw]
        obtain ⟨hP, -, hD⟩ := hB
        rw [ht] at hP
        have hD := lx_dj hD hFc
        refine W.widen (k := G_5.gc - G0.gc) (n := G_5.gs - G0.gs) (ly_c2 m0.1 mc.1) (ly_c2 m0.2 mc.2) ?_
        have m0 := CG.le_tr m0 mc
        exact hB_18 y_2 z_0 r_5 Y_5 G_5 S_5 _ _ _ h m0 hP hD hS (lv_sub hl [1, 3, 0] rfl)
      · have mc := mo_Vt_entryHere h9
        have hFc := lx_free hD hS hA
        rw [hQ]
        exact x_outV (n := 1) (As := [.int y_1]) (rest := []) (b := M.o_Vt) (st0 := [.int y_1, .ref M.o_Vt]) ⟨hx, hb, hml, hown, hts⟩ (lt_Vt_entryHere_2 l hfl dC dI X _ h9) (cwV 1 hts (gwV good_Vq (u_Vq_Vt _ k_Vt_122) (u_Vq_Vt _ k_Vt_123) (u_Vq_Vt _ k_Vt_218) (u_Vq_Vt _ k_Vt_0) (wcs (u_Vq_Vt _ k_Vt_124) (fun _ h => h))) rfl rfl rfl (by decide +kernel) ⟨Nat.le_of_ble_eq_true rfl, Nat.le_of_ble_eq_true rfl⟩) (pv_ofE (X.same _) (fun U z1 z2 => X.mono _ _ U hFc (hEw _ _ hS U z1 z2)) hP hK hD (va_recv hK hP (ci := 11) (q0 := 0) rfl rfl)) rfl hl.1 rfl (Nat.le_of_ble_eq_true rfl) d_Vt_about_15 ⟨ly_c2 m0.1 mc.1, ly_c2 m0.2 mc.2⟩ hlocks hout ⟨ly_c2 m0.1 mc.1, ly_c2 m0.2 mc.2⟩ (fun E st t U z1 z2 z3 z4 z5 => ly_outQ hS hK hFc z1 z3 z4 z5) ⟨hS.2.2, fun z h => hFc z h⟩
  have hB_5 : ∀ (y_1 : Int32) (y_2 : Int32) (z_1 : Int32) (Y : CT) (G : CG) (S : CS) (H : Heap) (locs : List Loc) (ls : Array Slot), f_Vt_about_5 K y_1 y_2 z_1 G S = some (.error 2, G', S') → CG.le G0 G → va_P (dC, dI) classes (wV M Y G S) H → va_D A (wV M Y G S) → va_S A s.heap H locs → lv_has ls 5 [(0, .ref M.o_Vt), (1, .int y_1), (2, .int y_2)] → W p l e ({ frames := 8, cells := G'.gc - G0.gc, slots := G'.gs - G0.gs, locals := 224 }) s m ([.ref M.o_Vt, .int p0, .int p1] : List Value).toArray below meth c H locs (G.gc - G0.gc) (G.gs - G0.gs) Q (F0 m 5 ls [.int z_1, .ref M.o_Vt]) := by
    intro y_1 y_2 z_1 Y G S H locs ls h m0 hP hD hS hl
    have mF := mo_Vt_about_5 h
    rw [f_Vt_about_5] at h
    rcases lf_aT h with ⟨r_2, G_2, S_2, hc_2, h⟩ | h9
    · have mc := mo_Vt_readsInodes hc_2
      have ml_2 := mo_Vt_readsInodes hc_2
      have mF1 := mo_Vt_about_8 h
      have hFc := lx_free hD hS hA
      refine va_calli (va_runV (As := [.int z_1]) (rest := []) ⟨hx, hb, hml, hown, hts⟩ (l_Vt_readsInodes l dC dI X _ hc_2) (cwV 1 hts (gwV good_Vq (u_Vq_Vt _ k_Vt_111) (u_Vq_Vt _ k_Vt_112) (u_Vq_Vt _ k_Vt_215) (u_Vq_Vt _ k_Vt_0) (wcs (u_Vq_Vt _ k_Vt_113) (fun _ h => h))) rfl rfl rfl (by decide +kernel) ⟨Nat.le_of_ble_eq_true rfl, Nat.le_of_ble_eq_true rfl⟩) (pv_ofE (X.same _) (fun U z1 z2 => X.mono _ _ U hFc (hEw _ _ hS U z1 z2)) hP hK hD (va_recv hK hP (ci := 11) (q0 := 0) rfl rfl)) rfl rfl hl.1 rfl (lv_room (Nat.le_of_ble_eq_true rfl)) d_Vt_about_5 ⟨ly_c1 m0.1 mc.1 mF1.1, ly_c1 m0.2 mc.2 mF1.2⟩) hS (fun q _ h => hFc q h) hFc (fun r_ Y_2 t H locs ht hvm hw hB hz1 hk1 hS => ?_)
      rw [hw]
      obtain ⟨hP, -, hD⟩ := hB
      rw [ht] at hP
      have hD := lx_dj hD hFc
      refine W.widen (k := G_2.gc - G0.gc) (n := G_2.gs - G0.gs) (ly_c2 m0.1 mc.1) (ly_c2 m0.2 mc.2) ?_
      have m0 := CG.le_tr m0 mc
      exact hB_8 y_1 y_2 r_2 Y_2 G_2 S_2 _ _ _ h m0 hP hD hS (lv_sub hl [0, 1, 2] rfl)
    · exact absurd (th_Vt_readsInodes h9) (by decide)
  have m0 : CG.le G0 G0 := ⟨Nat.le_refl _, Nat.le_refl _⟩
  have mF := mo_Vt_about h
  refine W.widen (k := G0.gc - G0.gc) (n := G0.gs - G0.gs) (Nat.zero_le _) (Nat.zero_le _) ?_
  rw [f_Vt_about] at h
  refine lv_aload_n hx hb d_Vt_about_0 rfl (lv_at hl 0 rfl) ?_
  refine lv_aload_n hx hb d_Vt_about_1 rfl (lv_at hl 0 rfl) ?_
  obtain ⟨r_1, G_1, S_1, hc_1, h⟩ := lf_nE h
  have mc := mo_Vt_look hc_1
  have ml_1 := mo_Vt_look hc_1
  have mF1 := mo_Vt_about_5 h
  have hFc := lx_free hD hS hA
  refine va_calli (va_runV (As := []) (rest := [.ref M.o_Vt]) ⟨hx, hb, hml, hown, hts⟩ (l_Vt_look l dC dI X _ hc_1) (cwV 0 hts (gwV good_Vq (u_Vq_Vt _ k_Vt_68) (u_Vq_Vt _ k_Vt_69) (u_Vq_Vt _ k_Vt_214) (u_Vq_Vt _ k_Vt_0) (wcs (u_Vq_Vt _ k_Vt_70) (fun _ h => h))) rfl rfl rfl (by decide +kernel) ⟨Nat.le_of_ble_eq_true rfl, Nat.le_of_ble_eq_true rfl⟩) (pv_ofE (X.same _) (fun U z1 z2 => X.mono _ _ U hFc (hEw _ _ hS U z1 z2)) hP hK hD (va_recv hK hP (ci := 11) (q0 := 0) rfl rfl)) rfl rfl hl.1 rfl (lv_room (Nat.le_of_ble_eq_true rfl)) d_Vt_about_2 ⟨ly_c1 m0.1 mc.1 mF1.1, ly_c1 m0.2 mc.2 mF1.2⟩) hS (fun q _ h => hFc q h) hFc (fun r_ Y_1 t H locs ht hvm hw hB hz1 hk1 hS => ?_)
  rw [hw]
  obtain ⟨hP, -, hD⟩ := hB
  rw [ht] at hP
  have hD := lx_dj hD hFc
  refine W.widen (k := G_1.gc - G0.gc) (n := G_1.gs - G0.gs) (ly_c2 m0.1 mc.1) (ly_c2 m0.2 mc.2) ?_
  have m0 := CG.le_tr m0 mc
  exact hB_5 p0 p1 r_1 Y_1 G_1 S_1 _ _ _ h m0 hP hD hS (lv_sub hl [0, 1, 2] rfl)
set_option maxHeartbeats 4000000 in
set_option maxRecDepth 100000 in
theorem l_Vt_content (l : Launch) (dC : Nat → ClassId) (dI : Nat → Nat → Nat) {K : Nat} {M : CA} {E : (Nat → Prop) → State → Prop} (X : ly_X l dC dI K M E) (sz : Nat) {Y : CT} {G0 G' : CG} {S S' : CS} {p0 : Int32} {p1 : Int32} {r : Int32} (h : f_Vt_content K G0 S p0 p1 = some (.ok r, G', S')) : Met l y_Vt_content (.code y_Vt_content cb_Vt_content 4 (some .int) :: V_Vq) ({ frames := 8, cells := G'.gc - G0.gc, slots := G'.gs - G0.gs, locals := 224 }) (va_Pc [.ref M.o_Vt, .int p0, .int p1] (fun U => U.heap.size = sz ∧ at_ (dC, dI) (fun _ => True) (wV M Y G0 S) (tV M) U ∧ E (va_A (wV M Y G0 S) sz) U)) (va_Qi (fun (r_ : Int32) (u : CT) => r_ = r) (fun (u : CT) t => at_ (dC, dI) (va_A (wV M Y G0 S) sz) (wV M u G' S') (tV M) t) (va_A (wV M Y G0 S) sz)) (G'.gc - G0.gc) (G'.gs - G0.gs) (va_A (wV M Y G0 S) sz) := by
  refine Met.ofW (cc := cb_Vt_content) (maxL := 4) (ret := (some .int)) (by decide) rfl ?_
  intro p e s m args below meth c s₁ B hml hv
  obtain ⟨rfl, hsz, ⟨hP, hK, hD0⟩, hE⟩ := hv
  have hx := B.exec
  have hb := B.bytes
  have hr := B.returns
  have hts0 := atoms_spec (ws := .code y_Vt_content cb_Vt_content 4 (some .int) :: V_Vq) B.pre
  have hts : ∀ w ∈ V_Vq, w.before ([.ref M.o_Vt, .int p0, .int p1] : List Value).toArray s = true := fun w h => hts0 w (List.mem_cons_of_mem _ h)
  have hown : s.vm.findClass R_Vt = some m.cls := findClass_of_methodNamed B.named
  subst hsz
  have hD := hD0.self (sz := s.heap.size)
  generalize hAe : va_A (wV M Y G0 S) s.heap.size = A at hD hE ⊢
  have hA : ∀ q : Nat, s.heap.size ≤ q → A q := fun q h => by rw [← hAe]; exact Or.inr h
  have hS : va_S A s.heap s.heap [] := va_S.rf
  have hP : va_P (dC, dI) classes (wV M Y G0 S) s.heap := hP
  have hK : va_K (dC, dI) classes (tV M) s := hK
  have hEw : ∀ (H : Heap) (locs : List Loc), va_S A s.heap H locs → ∀ U : State, U.heap = H → s.WarmedH U.vm → E A U := fun H locs hS U hU hW => X.kept A s U H locs hE hS hU hW
  have hl := lv_entry ([.ref M.o_Vt, .int p0, .int p1]) (n := 4) (Nat.le_of_ble_eq_true rfl)
  rw [lg_entry_eq]
  generalize (lg_sl ([.ref M.o_Vt, .int p0, .int p1]) ++ List.replicate (4 - (lg_sl ([.ref M.o_Vt, .int p0, .int p1])).length) Slot.unset).toArray = ls at hl ⊢
  have hl : lv_has ls 4 [(0, .ref M.o_Vt), (1, .int p0), (2, .int p1)] := hl
  refine qabs (fun Q hQ => ?_)
  have hB_20 : ∀ (y_2 : Int32) (z_1 : Int32) (Y : CT) (G : CG) (S : CS) (H : Heap) (locs : List Loc) (ls : Array Slot), f_Vt_content_20 K y_2 z_1 G S = some (.ok r, G', S') → CG.le G0 G → va_P (dC, dI) classes (wV M Y G S) H → va_D A (wV M Y G S) → va_S A s.heap H locs → lv_has ls 4 [(2, .int y_2)] → W p l e ({ frames := 8, cells := G'.gc - G0.gc, slots := G'.gs - G0.gs, locals := 224 }) s m ([.ref M.o_Vt, .int p0, .int p1] : List Value).toArray below meth c H locs (G.gc - G0.gc) (G.gs - G0.gs) Q (F0 m 20 ls [.int z_1, .ref M.o_In]) := by
    intro y_2 z_1 Y G S H locs ls h m0 hP hD hS hl
    have mF := mo_Vt_content_20 h
    rw [f_Vt_content_20] at h
    refine lv_iload_n hx hb d_Vt_content_20 rfl (lv_at hl 0 rfl) ?_
    obtain ⟨r_13, S_13, hc_13, h⟩ := lf_cE h
    have hFc := lx_free hD hS hA
    refine va_calli (va_runV (As := [.int z_1, .int y_2]) (rest := []) ⟨hx, hb, hml, hown, hts⟩ (l_In_fileByte l dC dI X _ hc_13) (cwV 2 hts (gwV good_Vq (u_Vq_Vt _ k_Vt_151) (u_Vq_In _ k_In_58) (u_Vq_In _ k_In_59) (u_Vq_In _ k_In_0) (wcs (u_Vq_In _ k_In_60) (fun _ h => h))) rfl rfl rfl (by decide +kernel) ⟨Nat.le_of_ble_eq_true rfl, Nat.le_of_ble_eq_true rfl⟩) (pv_ofE (X.same _) (fun U z1 z2 => X.mono _ _ U hFc (hEw _ _ hS U z1 z2)) hP hK hD (va_recv hK hP (ci := 6) (q0 := 9) rfl rfl)) rfl rfl hl.1 rfl (lv_room (Nat.le_of_ble_eq_true rfl)) d_Vt_content_21 ⟨ly_c0 mF.1, ly_c0 mF.2⟩) hS (fun q _ h => hFc q h) hFc (fun r_ u t H locs ht hvm hw hB hz1 hk1 hS => ?_)
    rw [hw]
    obtain ⟨hP, -, hD⟩ := hB
    rw [ht] at hP
    have hD := lx_dj hD hFc
    rw [hQ]
    have e1 : r_13 = r := Except.ok.inj (congrArg (fun z => z.1) (Option.some.inj h))
    have e2 : G = G' := congrArg (fun z => z.2.1) (Option.some.inj h)
    have e3 : S_13 = S' := congrArg (fun z => z.2.2) (Option.some.inj h)
    have hP := ly_newP3 e2.symm e3.symm hP
    have hD := ly_newD3 e2.symm e3.symm hD
    refine W.widen (k := G'.gc - G0.gc) (n := G'.gs - G0.gs) (ly_wc e2) (ly_ws e2) ?_
    exact W.iret (v := r_13) hx hb hr (fun t ht hW => ⟨⟨r_13, Y, rfl, e1, by rw [ht]; exact hP, va_K.moved hW.alike hK, hD⟩, hS.F ht⟩) hS.2.2 d_Vt_content_24
  have hB_58 : ∀ (Y : CT) (G : CG) (S : CS) (H : Heap) (locs : List Loc) (ls : Array Slot), f_Vt_content_58 K G S = some (.ok r, G', S') → CG.le G0 G → va_P (dC, dI) classes (wV M Y G S) H → va_D A (wV M Y G S) → va_S A s.heap H locs → lv_has ls 4 [] → W p l e ({ frames := 8, cells := G'.gc - G0.gc, slots := G'.gs - G0.gs, locals := 224 }) s m ([.ref M.o_Vt, .int p0, .int p1] : List Value).toArray below meth c H locs (G.gc - G0.gc) (G.gs - G0.gs) Q (F0 m 58 ls []) := by
    intro Y G S H locs ls h m0 hP hD hS hl
    have mF := mo_Vt_content_58 h
    rw [f_Vt_content_58] at h
    refine lv_iconst (v := (-1)) hx hb d_Vt_content_58 (by decide) ?_
    rw [hQ]
    have e1 : ((-1)) = r := Except.ok.inj (congrArg (fun z => z.1) (Option.some.inj h))
    have e2 : G = G' := congrArg (fun z => z.2.1) (Option.some.inj h)
    have e3 : S = S' := congrArg (fun z => z.2.2) (Option.some.inj h)
    have hP := ly_newP3 e2.symm e3.symm hP
    have hD := ly_newD3 e2.symm e3.symm hD
    refine W.widen (k := G'.gc - G0.gc) (n := G'.gs - G0.gs) (ly_wc e2) (ly_ws e2) ?_
    exact W.iret (v := ((-1))) hx hb hr (fun t ht hW => ⟨⟨((-1)), Y, rfl, e1, by rw [ht]; exact hP, va_K.moved hW.alike hK, hD⟩, hS.F ht⟩) hS.2.2 d_Vt_content_59
  have hB_30 : ∀ (y_2 : Int32) (z_0 : Int32) (Y : CT) (G : CG) (S : CS) (H : Heap) (locs : List Loc) (ls : Array Slot), f_Vt_content_30 K y_2 z_0 G S = some (.ok r, G', S') → CG.le G0 G → va_P (dC, dI) classes (wV M Y G S) H → va_D A (wV M Y G S) → va_S A s.heap H locs → lv_has ls 4 [(0, .ref M.o_Vt), (2, .int y_2)] → W p l e ({ frames := 8, cells := G'.gc - G0.gc, slots := G'.gs - G0.gs, locals := 224 }) s m ([.ref M.o_Vt, .int p0, .int p1] : List Value).toArray below meth c H locs (G.gc - G0.gc) (G.gs - G0.gs) Q (F0 m 30 ls [.int z_0]) := by
    intro y_2 z_0 Y G S H locs ls h m0 hP hD hS hl
    have mF := mo_Vt_content_30 h
    rw [f_Vt_content_30] at h
    refine lv_istore_n (lv' := [(3, .int z_0), (0, .ref M.o_Vt), (2, .int y_2)]) hx hb d_Vt_content_30 rfl hl (by decide) rfl (fun ls hl => ?_)
    refine lv_aload_n hx hb d_Vt_content_31 rfl (lv_at hl 1 rfl) ?_
    refine va_get (D := (dC, dI)) (ci := 11) (v := .ref M.o_Tr) (C := R_Vt) (T := F_Vt) (N := 16) hx hb hts (fun w h => u_Vq_Vt w (i_Vt w h)) hown hK hP 0 rfl rfl 3 (by decide) (hts _ (u_Vq_Vt _ k_Vt_32)) (fun _ h9 => h9) rfl d_Vt_content_32 ?_
    refine lv_iload_n hx hb d_Vt_content_35 rfl (lv_at hl 0 rfl) ?_
    obtain ⟨r_6, S_6, hc_6, h⟩ := lf_cE h
    have hFc := lx_free hD hS hA
    refine va_calli (va_runV (As := [.int z_0]) (rest := []) ⟨hx, hb, hml, hown, hts⟩ (l_Tr_isDirectory l dC dI X _ hc_6) (cwV 1 hts (gwV good_Vq (u_Vq_Vt _ k_Vt_142) (u_Vq_Tr _ k_Tr_42) (u_Vq_Tr _ k_Tr_43) (u_Vq_Tr _ k_Tr_0) (wcs (u_Vq_Tr _ k_Tr_44) (fun _ h => h))) rfl rfl rfl (by decide +kernel) ⟨Nat.le_of_ble_eq_true rfl, Nat.le_of_ble_eq_true rfl⟩) (pv_ofE (X.same _) (fun U z1 z2 => X.mono _ _ U hFc (hEw _ _ hS U z1 z2)) hP hK hD (va_recv hK hP (ci := 5) (q0 := 4) rfl rfl)) rfl rfl hl.1 rfl (lv_room (Nat.le_of_ble_eq_true rfl)) d_Vt_content_36 ⟨ly_c0 mF.1, ly_c0 mF.2⟩) hS (fun q _ h => hFc q h) hFc (fun r_ u t H locs ht hvm hw hB hz1 hk1 hS => ?_)
    rw [hw]
    obtain ⟨hP, -, hD⟩ := hB
    rw [ht] at hP
    have hD := lx_dj hD hFc
    refine lv_if_ne (tgt := 58) hx hb d_Vt_content_39 (by decide) (fun c_7 => ?_) (fun c_7 => ?_)
    · have h := lf_f h c_7
      exact hB_58 Y G S_6 _ _ _ h m0 hP hD hS (lv_sub hl [] rfl)
    · have h := lf_t h c_7
      refine lv_iload_n hx hb d_Vt_content_42 rfl (lv_at hl 2 rfl) ?_
      refine lv_if_lt (tgt := 58) hx hb d_Vt_content_43 (by decide) (fun c_8 => ?_) (fun c_8 => ?_)
      · have h := lf_t h c_8
        exact hB_58 Y G S_6 _ _ _ h m0 hP hD hS (lv_sub hl [] rfl)
      · have h := lf_f h c_8
        refine lv_iload_n hx hb d_Vt_content_46 rfl (lv_at hl 2 rfl) ?_
        refine lv_aload_n hx hb d_Vt_content_47 rfl (lv_at hl 1 rfl) ?_
        refine va_get (D := (dC, dI)) (ci := 11) (v := .ref M.o_Tr) (C := R_Vt) (T := F_Vt) (N := 16) hx hb hts (fun w h => u_Vq_Vt w (i_Vt w h)) hown hK hP 0 rfl rfl 3 (by decide) (hts _ (u_Vq_Vt _ k_Vt_32)) (fun _ h9 => h9) rfl d_Vt_content_48 ?_
        refine lv_iload_n hx hb d_Vt_content_51 rfl (lv_at hl 0 rfl) ?_
        obtain ⟨r_9, S_9, hc_9, h⟩ := lf_cE h
        have hFc := lx_free hD hS hA
        refine va_calli (va_runV (As := [.int z_0]) (rest := [.int y_2]) ⟨hx, hb, hml, hown, hts⟩ (l_Tr_sizeOf l dC dI X _ hc_9) (cwV 1 hts (gwV good_Vq (u_Vq_Vt _ k_Vt_144) (u_Vq_Tr _ k_Tr_88) (u_Vq_Tr _ k_Tr_89) (u_Vq_Tr _ k_Tr_0) (wcs (u_Vq_Tr _ k_Tr_90) (fun _ h => h))) rfl rfl rfl (by decide +kernel) ⟨Nat.le_of_ble_eq_true rfl, Nat.le_of_ble_eq_true rfl⟩) (pv_ofE (X.same _) (fun U z1 z2 => X.mono _ _ U hFc (hEw _ _ hS U z1 z2)) hP hK hD (va_recv hK hP (ci := 5) (q0 := 4) rfl rfl)) rfl rfl hl.1 rfl (lv_room (Nat.le_of_ble_eq_true rfl)) d_Vt_content_52 ⟨ly_c0 mF.1, ly_c0 mF.2⟩) hS (fun q _ h => hFc q h) hFc (fun r_ u t H locs ht hvm hw hB hz1 hk1 hS => ?_)
        rw [hw]
        obtain ⟨hP, -, hD⟩ := hB
        rw [ht] at hP
        have hD := lx_dj hD hFc
        refine lv_icmp_lt (tgt := 60) hx hb d_Vt_content_55 (by decide) (fun c_10 => ?_) (fun c_10 => ?_)
        · have h := lf_t h c_10
          refine lv_aload_n hx hb d_Vt_content_60 rfl (lv_at hl 1 rfl) ?_
          refine va_get (D := (dC, dI)) (ci := 11) (v := .ref M.o_Dk) (C := R_Vt) (T := F_Vt) (N := 16) hx hb hts (fun w h => u_Vq_Vt w (i_Vt w h)) hown hK hP 0 rfl rfl 0 (by decide) (hts _ (u_Vq_Vt _ k_Vt_29)) (fun _ h9 => h9) rfl d_Vt_content_61 ?_
          refine lv_aload_n hx hb d_Vt_content_64 rfl (lv_at hl 1 rfl) ?_
          refine va_get (D := (dC, dI)) (ci := 11) (v := .ref M.o_Ed) (C := R_Vt) (T := F_Vt) (N := 16) hx hb hts (fun w h => u_Vq_Vt w (i_Vt w h)) hown hK hP 0 rfl rfl 5 (by decide) (hts _ (u_Vq_Vt _ k_Vt_34)) (fun _ h9 => h9) rfl d_Vt_content_65 ?_
          refine lv_iload_n hx hb d_Vt_content_68 rfl (lv_at hl 0 rfl) ?_
          refine lv_iload_n hx hb d_Vt_content_69 rfl (lv_at hl 2 rfl) ?_
          obtain ⟨r_11, S_11, hc_11, h⟩ := lf_cE h
          have hFc := lx_free hD hS hA
          refine va_calli (va_runV (As := [.int z_0, .int y_2]) (rest := [.ref M.o_Dk]) ⟨hx, hb, hml, hown, hts⟩ (l_Ed_placeOf l dC dI X _ hc_11) (cwV 2 hts (gwV good_Vq (u_Vq_Vt _ k_Vt_152) (u_Vq_Ed _ k_Ed_27) (u_Vq_Ed _ k_Ed_28) (u_Vq_Ed _ k_Ed_0) (wcs (u_Vq_Ed _ k_Ed_29) (fun _ h => h))) rfl rfl rfl (by decide +kernel) ⟨Nat.le_of_ble_eq_true rfl, Nat.le_of_ble_eq_true rfl⟩) (pv_ofE (X.same _) (fun U z1 z2 => X.mono _ _ U hFc (hEw _ _ hS U z1 z2)) hP hK hD (va_recv hK hP (ci := 8) (q0 := 6) rfl rfl)) rfl rfl hl.1 rfl (lv_room (Nat.le_of_ble_eq_true rfl)) d_Vt_content_70 ⟨ly_c0 mF.1, ly_c0 mF.2⟩) hS (fun q _ h => hFc q h) hFc (fun r_ u t H locs ht hvm hw hB hz1 hk1 hS => ?_)
          rw [hw]
          obtain ⟨hP, -, hD⟩ := hB
          rw [ht] at hP
          have hD := lx_dj hD hFc
          obtain ⟨r_12, S_12, hc_12, h⟩ := lf_cE h
          have hFc := lx_free hD hS hA
          refine va_calli (va_runV (As := [.int r_11]) (rest := []) ⟨hx, hb, hml, hown, hts⟩ (l_Dk_one l dC dI X _ hc_12) (cwV 1 hts (gwV good_Vq (u_Vq_Vt _ k_Vt_81) (u_Vq_Dk _ k_Dk_20) (u_Vq_Dk _ k_Dk_21) (u_Vq_Dk _ k_Dk_0) (wcs (u_Vq_Dk _ k_Dk_22) (fun _ h => h))) rfl rfl rfl (by decide +kernel) ⟨Nat.le_of_ble_eq_true rfl, Nat.le_of_ble_eq_true rfl⟩) (pv_ofE (X.same _) (fun U z1 z2 => X.mono _ _ U hFc (hEw _ _ hS U z1 z2)) hP hK hD (va_recv hK hP (ci := 0) (q0 := 1) rfl rfl)) rfl rfl hl.1 rfl (lv_room (Nat.le_of_ble_eq_true rfl)) d_Vt_content_73 ⟨ly_c0 mF.1, ly_c0 mF.2⟩) hS (fun q _ h => hFc q h) hFc (fun r_ u t H locs ht hvm hw hB hz1 hk1 hS => ?_)
          rw [hw]
          obtain ⟨hP, -, hD⟩ := hB
          rw [ht] at hP
          have hD := lx_dj hD hFc
          rw [hQ]
          have e1 : r_12 = r := Except.ok.inj (congrArg (fun z => z.1) (Option.some.inj h))
          have e2 : G = G' := congrArg (fun z => z.2.1) (Option.some.inj h)
          have e3 : S_12 = S' := congrArg (fun z => z.2.2) (Option.some.inj h)
          have hP := ly_newP3 e2.symm e3.symm hP
          have hD := ly_newD3 e2.symm e3.symm hD
          refine W.widen (k := G'.gc - G0.gc) (n := G'.gs - G0.gs) (ly_wc e2) (ly_ws e2) ?_
          exact W.iret (v := r_12) hx hb hr (fun t ht hW => ⟨⟨r_12, Y, rfl, e1, by rw [ht]; exact hP, va_K.moved hW.alike hK, hD⟩, hS.F ht⟩) hS.2.2 d_Vt_content_76
        · have h := lf_f h c_10
          exact hB_58 Y G S_9 _ _ _ h m0 hP hD hS (lv_sub hl [] rfl)
  have hB_8 : ∀ (y_1 : Int32) (y_2 : Int32) (z_0 : Int32) (Y : CT) (G : CG) (S : CS) (H : Heap) (locs : List Loc) (ls : Array Slot), f_Vt_content_8 K y_1 y_2 z_0 G S = some (.ok r, G', S') → CG.le G0 G → va_P (dC, dI) classes (wV M Y G S) H → va_D A (wV M Y G S) → va_S A s.heap H locs → lv_has ls 4 [(0, .ref M.o_Vt), (1, .int y_1), (2, .int y_2)] → W p l e ({ frames := 8, cells := G'.gc - G0.gc, slots := G'.gs - G0.gs, locals := 224 }) s m ([.ref M.o_Vt, .int p0, .int p1] : List Value).toArray below meth c H locs (G.gc - G0.gc) (G.gs - G0.gs) Q (F0 m 8 ls [.int z_0]) := by
    intro y_1 y_2 z_0 Y G S H locs ls h m0 hP hD hS hl
    have mF := mo_Vt_content_8 h
    rw [f_Vt_content_8] at h
    refine lv_if_eq (tgt := 25) hx hb d_Vt_content_8 (by decide) (fun c_3 => ?_) (fun c_3 => ?_)
    · have h := lf_t h c_3
      refine lv_aload_n hx hb d_Vt_content_25 rfl (lv_at hl 0 rfl) ?_
      refine lv_iload_n hx hb d_Vt_content_26 rfl (lv_at hl 1 rfl) ?_
      obtain ⟨r_4, G_4, S_4, hc_4, h⟩ := lf_aO h
      have mc := mo_Vt_itemHere hc_4
      have ml_4 := mo_Vt_itemHere hc_4
      have mF1 := mo_Vt_content_30 h
      have hFc := lx_free hD hS hA
      refine va_calli (va_runV (As := [.int y_1]) (rest := []) ⟨hx, hb, hml, hown, hts⟩ (l_Vt_itemHere l dC dI X _ hc_4) (cwV 1 hts (gwV good_Vq (u_Vq_Vt _ k_Vt_130) (u_Vq_Vt _ k_Vt_131) (u_Vq_Vt _ k_Vt_217) (u_Vq_Vt _ k_Vt_0) (wcs (u_Vq_Vt _ k_Vt_132) (fun _ h => h))) rfl rfl rfl (by decide +kernel) ⟨Nat.le_of_ble_eq_true rfl, Nat.le_of_ble_eq_true rfl⟩) (pv_ofE (X.same _) (fun U z1 z2 => X.mono _ _ U hFc (hEw _ _ hS U z1 z2)) hP hK hD (va_recv hK hP (ci := 11) (q0 := 0) rfl rfl)) rfl rfl hl.1 rfl (lv_room (Nat.le_of_ble_eq_true rfl)) d_Vt_content_27 ⟨ly_c1 m0.1 mc.1 mF1.1, ly_c1 m0.2 mc.2 mF1.2⟩) hS (fun q _ h => hFc q h) hFc (fun r_ Y_4 t H locs ht hvm hw hB hz1 hk1 hS => ?_)
      rw [hw]
      obtain ⟨hP, -, hD⟩ := hB
      rw [ht] at hP
      have hD := lx_dj hD hFc
      refine W.widen (k := G_4.gc - G0.gc) (n := G_4.gs - G0.gs) (ly_c2 m0.1 mc.1) (ly_c2 m0.2 mc.2) ?_
      have m0 := CG.le_tr m0 mc
      exact hB_30 y_2 r_4 Y_4 G_4 S_4 _ _ _ h m0 hP hD hS (lv_sub hl [0, 2] rfl)
    · have h := lf_f h c_3
      refine lv_aload_n hx hb d_Vt_content_11 rfl (lv_at hl 0 rfl) ?_
      refine va_get (D := (dC, dI)) (ci := 11) (v := .ref M.o_In) (C := R_Vt) (T := F_Vt) (N := 16) hx hb hts (fun w h => u_Vq_Vt w (i_Vt w h)) hown hK hP 0 rfl rfl 8 (by decide) (hts _ (u_Vq_Vt _ k_Vt_37)) (fun _ h9 => h9) rfl d_Vt_content_12 ?_
      refine lv_aload_n hx hb d_Vt_content_15 rfl (lv_at hl 0 rfl) ?_
      refine lv_iload_n hx hb d_Vt_content_16 rfl (lv_at hl 1 rfl) ?_
      obtain ⟨r_5, G_5, S_5, hc_5, h⟩ := lf_aO h
      have mc := mo_Vt_entryHere hc_5
      have ml_5 := mo_Vt_entryHere hc_5
      have mF1 := mo_Vt_content_20 h
      have hFc := lx_free hD hS hA
      refine va_calli (va_runV (As := [.int y_1]) (rest := [.ref M.o_In]) ⟨hx, hb, hml, hown, hts⟩ (l_Vt_entryHere l dC dI X _ hc_5) (cwV 1 hts (gwV good_Vq (u_Vq_Vt _ k_Vt_122) (u_Vq_Vt _ k_Vt_123) (u_Vq_Vt _ k_Vt_218) (u_Vq_Vt _ k_Vt_0) (wcs (u_Vq_Vt _ k_Vt_124) (fun _ h => h))) rfl rfl rfl (by decide +kernel) ⟨Nat.le_of_ble_eq_true rfl, Nat.le_of_ble_eq_true rfl⟩) (pv_ofE (X.same _) (fun U z1 z2 => X.mono _ _ U hFc (hEw _ _ hS U z1 z2)) hP hK hD (va_recv hK hP (ci := 11) (q0 := 0) rfl rfl)) rfl rfl hl.1 rfl (lv_room (Nat.le_of_ble_eq_true rfl)) d_Vt_content_17 ⟨ly_c1 m0.1 mc.1 mF1.1, ly_c1 m0.2 mc.2 mF1.2⟩) hS (fun q _ h => hFc q h) hFc (fun r_ Y_5 t H locs ht hvm hw hB hz1 hk1 hS => ?_)
      rw [hw]
      obtain ⟨hP, -, hD⟩ := hB
      rw [ht] at hP
      have hD := lx_dj hD hFc
      refine W.widen (k := G_5.gc - G0.gc) (n := G_5.gs - G0.gs) (ly_c2 m0.1 mc.1) (ly_c2 m0.2 mc.2) ?_
      have m0 := CG.le_tr m0 mc
      exact hB_20 y_2 r_5 Y_5 G_5 S_5 _ _ _ h m0 hP hD hS (lv_sub hl [2] rfl)
  have hB_5 : ∀ (y_1 : Int32) (y_2 : Int32) (z_1 : Int32) (Y : CT) (G : CG) (S : CS) (H : Heap) (locs : List Loc) (ls : Array Slot), f_Vt_content_5 K y_1 y_2 z_1 G S = some (.ok r, G', S') → CG.le G0 G → va_P (dC, dI) classes (wV M Y G S) H → va_D A (wV M Y G S) → va_S A s.heap H locs → lv_has ls 4 [(0, .ref M.o_Vt), (1, .int y_1), (2, .int y_2)] → W p l e ({ frames := 8, cells := G'.gc - G0.gc, slots := G'.gs - G0.gs, locals := 224 }) s m ([.ref M.o_Vt, .int p0, .int p1] : List Value).toArray below meth c H locs (G.gc - G0.gc) (G.gs - G0.gs) Q (F0 m 5 ls [.int z_1, .ref M.o_Vt]) := by
    intro y_1 y_2 z_1 Y G S H locs ls h m0 hP hD hS hl
    have mF := mo_Vt_content_5 h
    rw [f_Vt_content_5] at h
    obtain ⟨r_2, G_2, S_2, hc_2, h⟩ := lf_aO h
    have mc := mo_Vt_readsInodes hc_2
    have ml_2 := mo_Vt_readsInodes hc_2
    have mF1 := mo_Vt_content_8 h
    have hFc := lx_free hD hS hA
    refine va_calli (va_runV (As := [.int z_1]) (rest := []) ⟨hx, hb, hml, hown, hts⟩ (l_Vt_readsInodes l dC dI X _ hc_2) (cwV 1 hts (gwV good_Vq (u_Vq_Vt _ k_Vt_111) (u_Vq_Vt _ k_Vt_112) (u_Vq_Vt _ k_Vt_215) (u_Vq_Vt _ k_Vt_0) (wcs (u_Vq_Vt _ k_Vt_113) (fun _ h => h))) rfl rfl rfl (by decide +kernel) ⟨Nat.le_of_ble_eq_true rfl, Nat.le_of_ble_eq_true rfl⟩) (pv_ofE (X.same _) (fun U z1 z2 => X.mono _ _ U hFc (hEw _ _ hS U z1 z2)) hP hK hD (va_recv hK hP (ci := 11) (q0 := 0) rfl rfl)) rfl rfl hl.1 rfl (lv_room (Nat.le_of_ble_eq_true rfl)) d_Vt_content_5 ⟨ly_c1 m0.1 mc.1 mF1.1, ly_c1 m0.2 mc.2 mF1.2⟩) hS (fun q _ h => hFc q h) hFc (fun r_ Y_2 t H locs ht hvm hw hB hz1 hk1 hS => ?_)
    rw [hw]
    obtain ⟨hP, -, hD⟩ := hB
    rw [ht] at hP
    have hD := lx_dj hD hFc
    refine W.widen (k := G_2.gc - G0.gc) (n := G_2.gs - G0.gs) (ly_c2 m0.1 mc.1) (ly_c2 m0.2 mc.2) ?_
    have m0 := CG.le_tr m0 mc
    exact hB_8 y_1 y_2 r_2 Y_2 G_2 S_2 _ _ _ h m0 hP hD hS (lv_sub hl [0, 1, 2] rfl)
  have m0 : CG.le G0 G0 := ⟨Nat.le_refl _, Nat.le_refl _⟩
  have mF := mo_Vt_content h
  refine W.widen (k := G0.gc - G0.gc) (n := G0.gs - G0.gs) (Nat.zero_le _) (Nat.zero_le _) ?_
  rw [f_Vt_content] at h
  refine lv_aload_n hx hb d_Vt_content_0 rfl (lv_at hl 0 rfl) ?_
  refine lv_aload_n hx hb d_Vt_content_1 rfl (lv_at hl 0 rfl) ?_
  obtain ⟨r_1, G_1, S_1, hc_1, h⟩ := lf_nE h
  have mc := mo_Vt_look hc_1
  have ml_1 := mo_Vt_look hc_1
  have mF1 := mo_Vt_content_5 h
  have hFc := lx_free hD hS hA
  refine va_calli (va_runV (As := []) (rest := [.ref M.o_Vt]) ⟨hx, hb, hml, hown, hts⟩ (l_Vt_look l dC dI X _ hc_1) (cwV 0 hts (gwV good_Vq (u_Vq_Vt _ k_Vt_68) (u_Vq_Vt _ k_Vt_69) (u_Vq_Vt _ k_Vt_214) (u_Vq_Vt _ k_Vt_0) (wcs (u_Vq_Vt _ k_Vt_70) (fun _ h => h))) rfl rfl rfl (by decide +kernel) ⟨Nat.le_of_ble_eq_true rfl, Nat.le_of_ble_eq_true rfl⟩) (pv_ofE (X.same _) (fun U z1 z2 => X.mono _ _ U hFc (hEw _ _ hS U z1 z2)) hP hK hD (va_recv hK hP (ci := 11) (q0 := 0) rfl rfl)) rfl rfl hl.1 rfl (lv_room (Nat.le_of_ble_eq_true rfl)) d_Vt_content_2 ⟨ly_c1 m0.1 mc.1 mF1.1, ly_c1 m0.2 mc.2 mF1.2⟩) hS (fun q _ h => hFc q h) hFc (fun r_ Y_1 t H locs ht hvm hw hB hz1 hk1 hS => ?_)
  rw [hw]
  obtain ⟨hP, -, hD⟩ := hB
  rw [ht] at hP
  have hD := lx_dj hD hFc
  refine W.widen (k := G_1.gc - G0.gc) (n := G_1.gs - G0.gs) (ly_c2 m0.1 mc.1) (ly_c2 m0.2 mc.2) ?_
  have m0 := CG.le_tr m0 mc
  exact hB_5 p0 p1 r_1 Y_1 G_1 S_1 _ _ _ h m0 hP hD hS (lv_sub hl [0, 1, 2] rfl)
set_option maxHeartbeats 4000000 in
set_option maxRecDepth 100000 in
theorem lt_Vt_content_1 (l : Launch) (hfl : l.flags = pinnedFlags ++ [noTraceFlag]) (dC : Nat → ClassId) (dI : Nat → Nat → Nat) {K : Nat} {M : CA} {E : (Nat → Prop) → State → Prop} (X : ly_X l dC dI K M E) (sz : Nat) {Y : CT} {G0 G' : CG} {S S' : CS} {p0 : Int32} {p1 : Int32} (h : f_Vt_content K G0 S p0 p1 = some (.error 1, G', S')) : MetX l y_Vt_content (.code y_Vt_content cb_Vt_content 4 (some .int) :: V_Vq) ({ frames := 8, cells := G'.gc - G0.gc, slots := G'.gs - G0.gs, locals := 224 }) (va_Pc [.ref M.o_Vt, .int p0, .int p1] (fun U => U.heap.size = sz ∧ at_ (dC, dI) (fun _ => True) (wV M Y G0 S) (tV M) U ∧ E (va_A (wV M Y G0 S) sz) U)) (fun _ _ _ _ => False) (x_Q "java/lang/IllegalStateException" (va_A (wV M Y G0 S) sz) (fun t => ∃ u : CT, at_ (dC, dI) (va_A (wV M Y G0 S) sz) (wV M u G' S') (tV M) t)) (G'.gc - G0.gc) (G'.gs - G0.gs) (va_A (wV M Y G0 S) sz) := by
  refine MetX.ofW (cc := cb_Vt_content) (maxL := 4) (ret := (some .int)) (by decide) rfl ?_
  intro p e s m args below meth c s₁ B hml hv
  obtain ⟨rfl, hsz, ⟨hP, hK, hD0⟩, hE⟩ := hv
  have hx := B.exec
  have hb := B.bytes
  have hr := B.returns
  have hts0 := atoms_spec (ws := .code y_Vt_content cb_Vt_content 4 (some .int) :: V_Vq) B.pre
  have hts : ∀ w ∈ V_Vq, w.before ([.ref M.o_Vt, .int p0, .int p1] : List Value).toArray s = true := fun w h => hts0 w (List.mem_cons_of_mem _ h)
  have hown : s.vm.findClass R_Vt = some m.cls := findClass_of_methodNamed B.named
  have hlocks := B.notSynchronized
  have hout := x_table B (hts0 _ List.mem_cons_self)
  subst hsz
  have hD := hD0.self (sz := s.heap.size)
  generalize hAe : va_A (wV M Y G0 S) s.heap.size = A at hD hE ⊢
  have hA : ∀ q : Nat, s.heap.size ≤ q → A q := fun q h => by rw [← hAe]; exact Or.inr h
  have hS : va_S A s.heap s.heap [] := va_S.rf
  have hP : va_P (dC, dI) classes (wV M Y G0 S) s.heap := hP
  have hK : va_K (dC, dI) classes (tV M) s := hK
  have hEw : ∀ (H : Heap) (locs : List Loc), va_S A s.heap H locs → ∀ U : State, U.heap = H → s.WarmedH U.vm → E A U := fun H locs hS U hU hW => X.kept A s U H locs hE hS hU hW
  have hl := lv_entry ([.ref M.o_Vt, .int p0, .int p1]) (n := 4) (Nat.le_of_ble_eq_true rfl)
  rw [lg_entry_eq]
  generalize (lg_sl ([.ref M.o_Vt, .int p0, .int p1]) ++ List.replicate (4 - (lg_sl ([.ref M.o_Vt, .int p0, .int p1])).length) Slot.unset).toArray = ls at hl ⊢
  have hl : lv_has ls 4 [(0, .ref M.o_Vt), (1, .int p0), (2, .int p1)] := hl
  refine qabs (fun Q hQ => ?_)
  have hB_20 : ∀ (y_2 : Int32) (z_1 : Int32) (Y : CT) (G : CG) (S : CS) (H : Heap) (locs : List Loc) (ls : Array Slot), f_Vt_content_20 K y_2 z_1 G S = some (.error 1, G', S') → CG.le G0 G → va_P (dC, dI) classes (wV M Y G S) H → va_D A (wV M Y G S) → va_S A s.heap H locs → lv_has ls 4 [(2, .int y_2)] → W p l e ({ frames := 8, cells := G'.gc - G0.gc, slots := G'.gs - G0.gs, locals := 224 }) s m ([.ref M.o_Vt, .int p0, .int p1] : List Value).toArray below meth c H locs (G.gc - G0.gc) (G.gs - G0.gs) Q (F0 m 20 ls [.int z_1, .ref M.o_In]) := by
    intro y_2 z_1 Y G S H locs ls h m0 hP hD hS hl
    have mF := mo_Vt_content_20 h
    rw [f_Vt_content_20] at h
    refine lv_iload_n hx hb d_Vt_content_20 rfl (lv_at hl 0 rfl) ?_
    obtain ⟨r_13, S_13, hc_13, h⟩ := lf_cE h
    have hFc := lx_free hD hS hA
    refine va_calli (va_runV (As := [.int z_1, .int y_2]) (rest := []) ⟨hx, hb, hml, hown, hts⟩ (l_In_fileByte l dC dI X _ hc_13) (cwV 2 hts (gwV good_Vq (u_Vq_Vt _ k_Vt_151) (u_Vq_In _ k_In_58) (u_Vq_In _ k_In_59) (u_Vq_In _ k_In_0) (wcs (u_Vq_In _ k_In_60) (fun _ h => h))) rfl rfl rfl (by decide +kernel) ⟨Nat.le_of_ble_eq_true rfl, Nat.le_of_ble_eq_true rfl⟩) (pv_ofE (X.same _) (fun U z1 z2 => X.mono _ _ U hFc (hEw _ _ hS U z1 z2)) hP hK hD (va_recv hK hP (ci := 6) (q0 := 9) rfl rfl)) rfl rfl hl.1 rfl (lv_room (Nat.le_of_ble_eq_true rfl)) d_Vt_content_21 ⟨ly_c0 mF.1, ly_c0 mF.2⟩) hS (fun q _ h => hFc q h) hFc (fun r_ u t H locs ht hvm hw hB hz1 hk1 hS => ?_)
    rw [hw]
    obtain ⟨hP, -, hD⟩ := hB
    rw [ht] at hP
    have hD := lx_dj hD hFc
    exact lf_xo h
  have hB_58 : ∀ (Y : CT) (G : CG) (S : CS) (H : Heap) (locs : List Loc) (ls : Array Slot), f_Vt_content_58 K G S = some (.error 1, G', S') → CG.le G0 G → va_P (dC, dI) classes (wV M Y G S) H → va_D A (wV M Y G S) → va_S A s.heap H locs → lv_has ls 4 [] → W p l e ({ frames := 8, cells := G'.gc - G0.gc, slots := G'.gs - G0.gs, locals := 224 }) s m ([.ref M.o_Vt, .int p0, .int p1] : List Value).toArray below meth c H locs (G.gc - G0.gc) (G.gs - G0.gs) Q (F0 m 58 ls []) := by
    intro Y G S H locs ls h m0 hP hD hS hl
    have mF := mo_Vt_content_58 h
    rw [f_Vt_content_58] at h
    refine lv_iconst (v := (-1)) hx hb d_Vt_content_58 (by decide) ?_
    exact lf_xo h
  have hB_30 : ∀ (y_2 : Int32) (z_0 : Int32) (Y : CT) (G : CG) (S : CS) (H : Heap) (locs : List Loc) (ls : Array Slot), f_Vt_content_30 K y_2 z_0 G S = some (.error 1, G', S') → CG.le G0 G → va_P (dC, dI) classes (wV M Y G S) H → va_D A (wV M Y G S) → va_S A s.heap H locs → lv_has ls 4 [(0, .ref M.o_Vt), (2, .int y_2)] → W p l e ({ frames := 8, cells := G'.gc - G0.gc, slots := G'.gs - G0.gs, locals := 224 }) s m ([.ref M.o_Vt, .int p0, .int p1] : List Value).toArray below meth c H locs (G.gc - G0.gc) (G.gs - G0.gs) Q (F0 m 30 ls [.int z_0]) := by
    intro y_2 z_0 Y G S H locs ls h m0 hP hD hS hl
    have mF := mo_Vt_content_30 h
    rw [f_Vt_content_30] at h
    refine lv_istore_n (lv' := [(3, .int z_0), (0, .ref M.o_Vt), (2, .int y_2)]) hx hb d_Vt_content_30 rfl hl (by decide) rfl (fun ls hl => ?_)
    refine lv_aload_n hx hb d_Vt_content_31 rfl (lv_at hl 1 rfl) ?_
    refine va_get (D := (dC, dI)) (ci := 11) (v := .ref M.o_Tr) (C := R_Vt) (T := F_Vt) (N := 16) hx hb hts (fun w h => u_Vq_Vt w (i_Vt w h)) hown hK hP 0 rfl rfl 3 (by decide) (hts _ (u_Vq_Vt _ k_Vt_32)) (fun _ h9 => h9) rfl d_Vt_content_32 ?_
    refine lv_iload_n hx hb d_Vt_content_35 rfl (lv_at hl 0 rfl) ?_
    obtain ⟨r_6, S_6, hc_6, h⟩ := lf_cE h
    have hFc := lx_free hD hS hA
    refine va_calli (va_runV (As := [.int z_0]) (rest := []) ⟨hx, hb, hml, hown, hts⟩ (l_Tr_isDirectory l dC dI X _ hc_6) (cwV 1 hts (gwV good_Vq (u_Vq_Vt _ k_Vt_142) (u_Vq_Tr _ k_Tr_42) (u_Vq_Tr _ k_Tr_43) (u_Vq_Tr _ k_Tr_0) (wcs (u_Vq_Tr _ k_Tr_44) (fun _ h => h))) rfl rfl rfl (by decide +kernel) ⟨Nat.le_of_ble_eq_true rfl, Nat.le_of_ble_eq_true rfl⟩) (pv_ofE (X.same _) (fun U z1 z2 => X.mono _ _ U hFc (hEw _ _ hS U z1 z2)) hP hK hD (va_recv hK hP (ci := 5) (q0 := 4) rfl rfl)) rfl rfl hl.1 rfl (lv_room (Nat.le_of_ble_eq_true rfl)) d_Vt_content_36 ⟨ly_c0 mF.1, ly_c0 mF.2⟩) hS (fun q _ h => hFc q h) hFc (fun r_ u t H locs ht hvm hw hB hz1 hk1 hS => ?_)
    rw [hw]
    obtain ⟨hP, -, hD⟩ := hB
    rw [ht] at hP
    have hD := lx_dj hD hFc
    refine lv_if_ne (tgt := 58) hx hb d_Vt_content_39 (by decide) (fun c_7 => ?_) (fun c_7 => ?_)
    · have h := lf_f h c_7
      exact hB_58 Y G S_6 _ _ _ h m0 hP hD hS (lv_sub hl [] rfl)
    · have h := lf_t h c_7
      refine lv_iload_n hx hb d_Vt_content_42 rfl (lv_at hl 2 rfl) ?_
      refine lv_if_lt (tgt := 58) hx hb d_Vt_content_43 (by decide) (fun c_8 => ?_) (fun c_8 => ?_)
      · have h := lf_t h c_8
        exact hB_58 Y G S_6 _ _ _ h m0 hP hD hS (lv_sub hl [] rfl)
      · have h := lf_f h c_8
        refine lv_iload_n hx hb d_Vt_content_46 rfl (lv_at hl 2 rfl) ?_
        refine lv_aload_n hx hb d_Vt_content_47 rfl (lv_at hl 1 rfl) ?_
        refine va_get (D := (dC, dI)) (ci := 11) (v := .ref M.o_Tr) (C := R_Vt) (T := F_Vt) (N := 16) hx hb hts (fun w h => u_Vq_Vt w (i_Vt w h)) hown hK hP 0 rfl rfl 3 (by decide) (hts _ (u_Vq_Vt _ k_Vt_32)) (fun _ h9 => h9) rfl d_Vt_content_48 ?_
        refine lv_iload_n hx hb d_Vt_content_51 rfl (lv_at hl 0 rfl) ?_
        obtain ⟨r_9, S_9, hc_9, h⟩ := lf_cE h
        have hFc := lx_free hD hS hA
        refine va_calli (va_runV (As := [.int z_0]) (rest := [.int y_2]) ⟨hx, hb, hml, hown, hts⟩ (l_Tr_sizeOf l dC dI X _ hc_9) (cwV 1 hts (gwV good_Vq (u_Vq_Vt _ k_Vt_144) (u_Vq_Tr _ k_Tr_88) (u_Vq_Tr _ k_Tr_89) (u_Vq_Tr _ k_Tr_0) (wcs (u_Vq_Tr _ k_Tr_90) (fun _ h => h))) rfl rfl rfl (by decide +kernel) ⟨Nat.le_of_ble_eq_true rfl, Nat.le_of_ble_eq_true rfl⟩) (pv_ofE (X.same _) (fun U z1 z2 => X.mono _ _ U hFc (hEw _ _ hS U z1 z2)) hP hK hD (va_recv hK hP (ci := 5) (q0 := 4) rfl rfl)) rfl rfl hl.1 rfl (lv_room (Nat.le_of_ble_eq_true rfl)) d_Vt_content_52 ⟨ly_c0 mF.1, ly_c0 mF.2⟩) hS (fun q _ h => hFc q h) hFc (fun r_ u t H locs ht hvm hw hB hz1 hk1 hS => ?_)
        rw [hw]
        obtain ⟨hP, -, hD⟩ := hB
        rw [ht] at hP
        have hD := lx_dj hD hFc
        refine lv_icmp_lt (tgt := 60) hx hb d_Vt_content_55 (by decide) (fun c_10 => ?_) (fun c_10 => ?_)
        · have h := lf_t h c_10
          refine lv_aload_n hx hb d_Vt_content_60 rfl (lv_at hl 1 rfl) ?_
          refine va_get (D := (dC, dI)) (ci := 11) (v := .ref M.o_Dk) (C := R_Vt) (T := F_Vt) (N := 16) hx hb hts (fun w h => u_Vq_Vt w (i_Vt w h)) hown hK hP 0 rfl rfl 0 (by decide) (hts _ (u_Vq_Vt _ k_Vt_29)) (fun _ h9 => h9) rfl d_Vt_content_61 ?_
          refine lv_aload_n hx hb d_Vt_content_64 rfl (lv_at hl 1 rfl) ?_
          refine va_get (D := (dC, dI)) (ci := 11) (v := .ref M.o_Ed) (C := R_Vt) (T := F_Vt) (N := 16) hx hb hts (fun w h => u_Vq_Vt w (i_Vt w h)) hown hK hP 0 rfl rfl 5 (by decide) (hts _ (u_Vq_Vt _ k_Vt_34)) (fun _ h9 => h9) rfl d_Vt_content_65 ?_
          refine lv_iload_n hx hb d_Vt_content_68 rfl (lv_at hl 0 rfl) ?_
          refine lv_iload_n hx hb d_Vt_content_69 rfl (lv_at hl 2 rfl) ?_
          obtain ⟨r_11, S_11, hc_11, h⟩ := lf_cE h
          have hFc := lx_free hD hS hA
          refine va_calli (va_runV (As := [.int z_0, .int y_2]) (rest := [.ref M.o_Dk]) ⟨hx, hb, hml, hown, hts⟩ (l_Ed_placeOf l dC dI X _ hc_11) (cwV 2 hts (gwV good_Vq (u_Vq_Vt _ k_Vt_152) (u_Vq_Ed _ k_Ed_27) (u_Vq_Ed _ k_Ed_28) (u_Vq_Ed _ k_Ed_0) (wcs (u_Vq_Ed _ k_Ed_29) (fun _ h => h))) rfl rfl rfl (by decide +kernel) ⟨Nat.le_of_ble_eq_true rfl, Nat.le_of_ble_eq_true rfl⟩) (pv_ofE (X.same _) (fun U z1 z2 => X.mono _ _ U hFc (hEw _ _ hS U z1 z2)) hP hK hD (va_recv hK hP (ci := 8) (q0 := 6) rfl rfl)) rfl rfl hl.1 rfl (lv_room (Nat.le_of_ble_eq_true rfl)) d_Vt_content_70 ⟨ly_c0 mF.1, ly_c0 mF.2⟩) hS (fun q _ h => hFc q h) hFc (fun r_ u t H locs ht hvm hw hB hz1 hk1 hS => ?_)
          rw [hw]
          obtain ⟨hP, -, hD⟩ := hB
          rw [ht] at hP
          have hD := lx_dj hD hFc
          obtain ⟨r_12, S_12, hc_12, h⟩ := lf_cE h
          have hFc := lx_free hD hS hA
          refine va_calli (va_runV (As := [.int r_11]) (rest := []) ⟨hx, hb, hml, hown, hts⟩ (l_Dk_one l dC dI X _ hc_12) (cwV 1 hts (gwV good_Vq (u_Vq_Vt _ k_Vt_81) (u_Vq_Dk _ k_Dk_20) (u_Vq_Dk _ k_Dk_21) (u_Vq_Dk _ k_Dk_0) (wcs (u_Vq_Dk _ k_Dk_22) (fun _ h => h))) rfl rfl rfl (by decide +kernel) ⟨Nat.le_of_ble_eq_true rfl, Nat.le_of_ble_eq_true rfl⟩) (pv_ofE (X.same _) (fun U z1 z2 => X.mono _ _ U hFc (hEw _ _ hS U z1 z2)) hP hK hD (va_recv hK hP (ci := 0) (q0 := 1) rfl rfl)) rfl rfl hl.1 rfl (lv_room (Nat.le_of_ble_eq_true rfl)) d_Vt_content_73 ⟨ly_c0 mF.1, ly_c0 mF.2⟩) hS (fun q _ h => hFc q h) hFc (fun r_ u t H locs ht hvm hw hB hz1 hk1 hS => ?_)
          rw [hw]
          obtain ⟨hP, -, hD⟩ := hB
          rw [ht] at hP
          have hD := lx_dj hD hFc
          exact lf_xo h
        · have h := lf_f h c_10
          exact hB_58 Y G S_9 _ _ _ h m0 hP hD hS (lv_sub hl [] rfl)
  have hB_8 : ∀ (y_1 : Int32) (y_2 : Int32) (z_0 : Int32) (Y : CT) (G : CG) (S : CS) (H : Heap) (locs : List Loc) (ls : Array Slot), f_Vt_content_8 K y_1 y_2 z_0 G S = some (.error 1, G', S') → CG.le G0 G → va_P (dC, dI) classes (wV M Y G S) H → va_D A (wV M Y G S) → va_S A s.heap H locs → lv_has ls 4 [(0, .ref M.o_Vt), (1, .int y_1), (2, .int y_2)] → W p l e ({ frames := 8, cells := G'.gc - G0.gc, slots := G'.gs - G0.gs, locals := 224 }) s m ([.ref M.o_Vt, .int p0, .int p1] : List Value).toArray below meth c H locs (G.gc - G0.gc) (G.gs - G0.gs) Q (F0 m 8 ls [.int z_0]) := by
    intro y_1 y_2 z_0 Y G S H locs ls h m0 hP hD hS hl
    have mF := mo_Vt_content_8 h
    rw [f_Vt_content_8] at h
    refine lv_if_eq (tgt := 25) hx hb d_Vt_content_8 (by decide) (fun c_3 => ?_) (fun c_3 => ?_)
    · have h := lf_t h c_3
      refine lv_aload_n hx hb d_Vt_content_25 rfl (lv_at hl 0 rfl) ?_
      refine lv_iload_n hx hb d_Vt_content_26 rfl (lv_at hl 1 rfl) ?_
      rcases lf_aT h with ⟨r_4, G_4, S_4, hc_4, h⟩ | h9
      · have mc := mo_Vt_itemHere hc_4
        have ml_4 := mo_Vt_itemHere hc_4
        have mF1 := mo_Vt_content_30 h
        have hFc := lx_free hD hS hA
        refine va_calli (va_runV (As := [.int y_1]) (rest := []) ⟨hx, hb, hml, hown, hts⟩ (l_Vt_itemHere l dC dI X _ hc_4) (cwV 1 hts (gwV good_Vq (u_Vq_Vt _ k_Vt_130) (u_Vq_Vt _ k_Vt_131) (u_Vq_Vt _ k_Vt_217) (u_Vq_Vt _ k_Vt_0) (wcs (u_Vq_Vt _ k_Vt_132) (fun _ h => h))) rfl rfl rfl (by decide +kernel) ⟨Nat.le_of_ble_eq_true rfl, Nat.le_of_ble_eq_true rfl⟩) (pv_ofE (X.same _) (fun U z1 z2 => X.mono _ _ U hFc (hEw _ _ hS U z1 z2)) hP hK hD (va_recv hK hP (ci := 11) (q0 := 0) rfl rfl)) rfl rfl hl.1 rfl (lv_room (Nat.le_of_ble_eq_true rfl)) d_Vt_content_27 ⟨ly_c1 m0.1 mc.1 mF1.1, ly_c1 m0.2 mc.2 mF1.2⟩) hS (fun q _ h => hFc q h) hFc (fun r_ Y_4 t H locs ht hvm hw hB hz1 hk1 hS => ?_)
        rw [hw]
        obtain ⟨hP, -, hD⟩ := hB
        rw [ht] at hP
        have hD := lx_dj hD hFc
        refine W.widen (k := G_4.gc - G0.gc) (n := G_4.gs - G0.gs) (ly_c2 m0.1 mc.1) (ly_c2 m0.2 mc.2) ?_
        have m0 := CG.le_tr m0 mc
        exact hB_30 y_2 r_4 Y_4 G_4 S_4 _ _ _ h m0 hP hD hS (lv_sub hl [0, 2] rfl)
      · exact absurd (th_Vt_itemHere h9) (by decide)
    · have h := lf_f h c_3
      refine lv_aload_n hx hb d_Vt_content_11 rfl (lv_at hl 0 rfl) ?_
      refine va_get (D := (dC, dI)) (ci := 11) (v := .ref M.o_In) (C := R_Vt) (T := F_Vt) (N := 16) hx hb hts (fun w h => u_Vq_Vt w (i_Vt w h)) hown hK hP 0 rfl rfl 8 (by decide) (hts _ (u_Vq_Vt _ k_Vt_37)) (fun _ h9 => h9) rfl d_Vt_content_12 ?_
      refine lv_aload_n hx hb d_Vt_content_15 rfl (lv_at hl 0 rfl) ?_
      refine lv_iload_n hx hb d_Vt_content_16 rfl (lv_at hl 1 rfl) ?_
      rcases lf_aT h with ⟨r_5, G_5, S_5, hc_5, h⟩ | h9
      · have mc := mo_Vt_entryHere hc_5
        have ml_5 := mo_Vt_entryHere hc_5
        have mF1 := mo_Vt_content_20 h
        have hFc := lx_free hD hS hA
        refine va_calli (va_runV (As := [.int y_1]) (rest := [.ref M.o_In]) ⟨hx, hb, hml, hown, hts⟩ (l_Vt_entryHere l dC dI X _ hc_5) (cwV 1 hts (gwV good_Vq (u_Vq_Vt _ k_Vt_122) (u_Vq_Vt _ k_Vt_123) (u_Vq_Vt _ k_Vt_218) (u_Vq_Vt _ k_Vt_0) (wcs (u_Vq_Vt _ k_Vt_124) (fun _ h => h))) rfl rfl rfl (by decide +kernel) ⟨Nat.le_of_ble_eq_true rfl, Nat.le_of_ble_eq_true rfl⟩) (pv_ofE (X.same _) (fun U z1 z2 => X.mono _ _ U hFc (hEw _ _ hS U z1 z2)) hP hK hD (va_recv hK hP (ci := 11) (q0 := 0) rfl rfl)) rfl rfl hl.1 rfl (lv_room (Nat.le_of_ble_eq_true rfl)) d_Vt_content_17 ⟨ly_c1 m0.1 mc.1 mF1.1, ly_c1 m0.2 mc.2 mF1.2⟩) hS (fun q _ h => hFc q h) hFc (fun r_ Y_5 t H locs ht hvm hw hB hz1 hk1 hS => ?_)
        rw [hw]
        obtain ⟨hP, -, hD⟩ := hB
        rw [ht] at hP
        have hD := lx_dj hD hFc
        refine W.widen (k := G_5.gc - G0.gc) (n := G_5.gs - G0.gs) (ly_c2 m0.1 mc.1) (ly_c2 m0.2 mc.2) ?_
        have m0 := CG.le_tr m0 mc
        exact hB_20 y_2 r_5 Y_5 G_5 S_5 _ _ _ h m0 hP hD hS (lv_sub hl [2] rfl)
      · exact absurd (th_Vt_entryHere h9) (by decide)
  have hB_5 : ∀ (y_1 : Int32) (y_2 : Int32) (z_1 : Int32) (Y : CT) (G : CG) (S : CS) (H : Heap) (locs : List Loc) (ls : Array Slot), f_Vt_content_5 K y_1 y_2 z_1 G S = some (.error 1, G', S') → CG.le G0 G → va_P (dC, dI) classes (wV M Y G S) H → va_D A (wV M Y G S) → va_S A s.heap H locs → lv_has ls 4 [(0, .ref M.o_Vt), (1, .int y_1), (2, .int y_2)] → W p l e ({ frames := 8, cells := G'.gc - G0.gc, slots := G'.gs - G0.gs, locals := 224 }) s m ([.ref M.o_Vt, .int p0, .int p1] : List Value).toArray below meth c H locs (G.gc - G0.gc) (G.gs - G0.gs) Q (F0 m 5 ls [.int z_1, .ref M.o_Vt]) := by
    intro y_1 y_2 z_1 Y G S H locs ls h m0 hP hD hS hl
    have mF := mo_Vt_content_5 h
    rw [f_Vt_content_5] at h
    rcases lf_aT h with ⟨r_2, G_2, S_2, hc_2, h⟩ | h9
    · have mc := mo_Vt_readsInodes hc_2
      have ml_2 := mo_Vt_readsInodes hc_2
      have mF1 := mo_Vt_content_8 h
      have hFc := lx_free hD hS hA
      refine va_calli (va_runV (As := [.int z_1]) (rest := []) ⟨hx, hb, hml, hown, hts⟩ (l_Vt_readsInodes l dC dI X _ hc_2) (cwV 1 hts (gwV good_Vq (u_Vq_Vt _ k_Vt_111) (u_Vq_Vt _ k_Vt_112) (u_Vq_Vt _ k_Vt_215) (u_Vq_Vt _ k_Vt_0) (wcs (u_Vq_Vt _ k_Vt_113) (fun _ h => h))) rfl rfl rfl (by decide +kernel) ⟨Nat.le_of_ble_eq_true rfl, Nat.le_of_ble_eq_true rfl⟩) (pv_ofE (X.same _) (fun U z1 z2 => X.mono _ _ U hFc (hEw _ _ hS U z1 z2)) hP hK hD (va_recv hK hP (ci := 11) (q0 := 0) rfl rfl)) rfl rfl hl.1 rfl (lv_room (Nat.le_of_ble_eq_true rfl)) d_Vt_content_5 ⟨ly_c1 m0.1 mc.1 mF1.1, ly_c1 m0.2 mc.2 mF1.2⟩) hS (fun q _ h => hFc q h) hFc (fun r_ Y_2 t H locs ht hvm hw hB hz1 hk1 hS => ?_)
      rw [hw]
      obtain ⟨hP, -, hD⟩ := hB
      rw [ht] at hP
      have hD := lx_dj hD hFc
      refine W.widen (k := G_2.gc - G0.gc) (n := G_2.gs - G0.gs) (ly_c2 m0.1 mc.1) (ly_c2 m0.2 mc.2) ?_
      have m0 := CG.le_tr m0 mc
      exact hB_8 y_1 y_2 r_2 Y_2 G_2 S_2 _ _ _ h m0 hP hD hS (lv_sub hl [0, 1, 2] rfl)
    · have mc := mo_Vt_readsInodes h9
      have hFc := lx_free hD hS hA
      rw [hQ]
      exact x_outV (n := 1) (As := [.int z_1]) (rest := []) (b := M.o_Vt) (st0 := [.int z_1, .ref M.o_Vt]) ⟨hx, hb, hml, hown, hts⟩ (lt_Vt_readsInodes_1 l hfl dC dI X _ h9) (cwV 1 hts (gwV good_Vq (u_Vq_Vt _ k_Vt_111) (u_Vq_Vt _ k_Vt_112) (u_Vq_Vt _ k_Vt_215) (u_Vq_Vt _ k_Vt_0) (wcs (u_Vq_Vt _ k_Vt_113) (fun _ h => h))) rfl rfl rfl (by decide +kernel) ⟨Nat.le_of_ble_eq_true rfl, Nat.le_of_ble_eq_true rfl⟩) (pv_ofE (X.same _) (fun U z1 z2 => X.mono _ _ U hFc (hEw _ _ hS U z1 z2)) hP hK hD (va_recv hK hP (ci := 11) (q0 := 0) rfl rfl)) rfl hl.1 rfl (Nat.le_of_ble_eq_true rfl) d_Vt_content_5 ⟨ly_c2 m0.1 mc.1, ly_c2 m0.2 mc.2⟩ hlocks hout ⟨ly_c2 m0.1 mc.1, ly_c2 m0.2 mc.2⟩ (fun E st t U z1 z2 z3 z4 z5 => ly_outQ hS hK hFc z1 z3 z4 z5) ⟨hS.2.2, fun z h => hFc z h⟩
  have m0 : CG.le G0 G0 := ⟨Nat.le_refl _, Nat.le_refl _⟩
  have mF := mo_Vt_content h
  refine W.widen (k := G0.gc - G0.gc) (n := G0.gs - G0.gs) (Nat.zero_le _) (Nat.zero_le _) ?_
  rw [f_Vt_content] at h
  refine lv_aload_n hx hb d_Vt_content_0 rfl (lv_at hl 0 rfl) ?_
  refine lv_aload_n hx hb d_Vt_content_1 rfl (lv_at hl 0 rfl) ?_
  obtain ⟨r_1, G_1, S_1, hc_1, h⟩ := lf_nE h
  have mc := mo_Vt_look hc_1
  have ml_1 := mo_Vt_look hc_1
  have mF1 := mo_Vt_content_5 h
  have hFc := lx_free hD hS hA
  refine va_calli (va_runV (As := []) (rest := [.ref M.o_Vt]) ⟨hx, hb, hml, hown, hts⟩ (l_Vt_look l dC dI X _ hc_1) (cwV 0 hts (gwV good_Vq (u_Vq_Vt _ k_Vt_68) (u_Vq_Vt _ k_Vt_69) (u_Vq_Vt _ k_Vt_214) (u_Vq_Vt _ k_Vt_0) (wcs (u_Vq_Vt _ k_Vt_70) (fun _ h => h))) rfl rfl rfl (by decide +kernel) ⟨Nat.le_of_ble_eq_true rfl, Nat.le_of_ble_eq_true rfl⟩) (pv_ofE (X.same _) (fun U z1 z2 => X.mono _ _ U hFc (hEw _ _ hS U z1 z2)) hP hK hD (va_recv hK hP (ci := 11) (q0 := 0) rfl rfl)) rfl rfl hl.1 rfl (lv_room (Nat.le_of_ble_eq_true rfl)) d_Vt_content_2 ⟨ly_c1 m0.1 mc.1 mF1.1, ly_c1 m0.2 mc.2 mF1.2⟩) hS (fun q _ h => hFc q h) hFc (fun r_ Y_1 t H locs ht hvm hw hB hz1 hk1 hS => ?_)
  rw [hw]
  obtain ⟨hP, -, hD⟩ := hB
  rw [ht] at hP
  have hD := lx_dj hD hFc
  refine W.widen (k := G_1.gc - G0.gc) (n := G_1.gs - G0.gs) (ly_c2 m0.1 mc.1) (ly_c2 m0.2 mc.2) ?_
  have m0 := CG.le_tr m0 mc
  exact hB_5 p0 p1 r_1 Y_1 G_1 S_1 _ _ _ h m0 hP hD hS (lv_sub hl [0, 1, 2] rfl)
set_option maxHeartbeats 4000000 in
set_option maxRecDepth 100000 in
theorem lt_Vt_content_2 (l : Launch) (hfl : l.flags = pinnedFlags ++ [noTraceFlag]) (dC : Nat → ClassId) (dI : Nat → Nat → Nat) {K : Nat} {M : CA} {E : (Nat → Prop) → State → Prop} (X : ly_X l dC dI K M E) (sz : Nat) {Y : CT} {G0 G' : CG} {S S' : CS} {p0 : Int32} {p1 : Int32} (h : f_Vt_content K G0 S p0 p1 = some (.error 2, G', S')) : MetX l y_Vt_content (.code y_Vt_content cb_Vt_content 4 (some .int) :: V_Vq) ({ frames := 8, cells := G'.gc - G0.gc, slots := G'.gs - G0.gs, locals := 224 }) (va_Pc [.ref M.o_Vt, .int p0, .int p1] (fun U => U.heap.size = sz ∧ at_ (dC, dI) (fun _ => True) (wV M Y G0 S) (tV M) U ∧ E (va_A (wV M Y G0 S) sz) U)) (fun _ _ _ _ => False) (x_Q "java/lang/IndexOutOfBoundsException" (va_A (wV M Y G0 S) sz) (fun t => ∃ u : CT, at_ (dC, dI) (va_A (wV M Y G0 S) sz) (wV M u G' S') (tV M) t)) (G'.gc - G0.gc) (G'.gs - G0.gs) (va_A (wV M Y G0 S) sz) := by
  refine MetX.ofW (cc := cb_Vt_content) (maxL := 4) (ret := (some .int)) (by decide) rfl ?_
  intro p e s m args below meth c s₁ B hml hv
  obtain ⟨rfl, hsz, ⟨hP, hK, hD0⟩, hE⟩ := hv
  have hx := B.exec
  have hb := B.bytes
  have hr := B.returns
  have hts0 := atoms_spec (ws := .code y_Vt_content cb_Vt_content 4 (some .int) :: V_Vq) B.pre
  have hts : ∀ w ∈ V_Vq, w.before ([.ref M.o_Vt, .int p0, .int p1] : List Value).toArray s = true := fun w h => hts0 w (List.mem_cons_of_mem _ h)
  have hown : s.vm.findClass R_Vt = some m.cls := findClass_of_methodNamed B.named
  have hlocks := B.notSynchronized
  have hout := x_table B (hts0 _ List.mem_cons_self)
  subst hsz
  have hD := hD0.self (sz := s.heap.size)
  generalize hAe : va_A (wV M Y G0 S) s.heap.size = A at hD hE ⊢
  have hA : ∀ q : Nat, s.heap.size ≤ q → A q := fun q h => by rw [← hAe]; exact Or.inr h
  have hS : va_S A s.heap s.heap [] := va_S.rf
  have hP : va_P (dC, dI) classes (wV M Y G0 S) s.heap := hP
  have hK : va_K (dC, dI) classes (tV M) s := hK
  have hEw : ∀ (H : Heap) (locs : List Loc), va_S A s.heap H locs → ∀ U : State, U.heap = H → s.WarmedH U.vm → E A U := fun H locs hS U hU hW => X.kept A s U H locs hE hS hU hW
  have hl := lv_entry ([.ref M.o_Vt, .int p0, .int p1]) (n := 4) (Nat.le_of_ble_eq_true rfl)
  rw [lg_entry_eq]
  generalize (lg_sl ([.ref M.o_Vt, .int p0, .int p1]) ++ List.replicate (4 - (lg_sl ([.ref M.o_Vt, .int p0, .int p1])).length) Slot.unset).toArray = ls at hl ⊢
  have hl : lv_has ls 4 [(0, .ref M.o_Vt), (1, .int p0), (2, .int p1)] := hl
  refine qabs (fun Q hQ => ?_)
  have hB_20 : ∀ (y_2 : Int32) (z_1 : Int32) (Y : CT) (G : CG) (S : CS) (H : Heap) (locs : List Loc) (ls : Array Slot), f_Vt_content_20 K y_2 z_1 G S = some (.error 2, G', S') → CG.le G0 G → va_P (dC, dI) classes (wV M Y G S) H → va_D A (wV M Y G S) → va_S A s.heap H locs → lv_has ls 4 [(2, .int y_2)] → W p l e ({ frames := 8, cells := G'.gc - G0.gc, slots := G'.gs - G0.gs, locals := 224 }) s m ([.ref M.o_Vt, .int p0, .int p1] : List Value).toArray below meth c H locs (G.gc - G0.gc) (G.gs - G0.gs) Q (F0 m 20 ls [.int z_1, .ref M.o_In]) := by
    intro y_2 z_1 Y G S H locs ls h m0 hP hD hS hl
    have mF := mo_Vt_content_20 h
    rw [f_Vt_content_20] at h
    refine lv_iload_n hx hb d_Vt_content_20 rfl (lv_at hl 0 rfl) ?_
    obtain ⟨r_13, S_13, hc_13, h⟩ := lf_cE h
    have hFc := lx_free hD hS hA
    refine va_calli (va_runV (As := [.int z_1, .int y_2]) (rest := []) ⟨hx, hb, hml, hown, hts⟩ (l_In_fileByte l dC dI X _ hc_13) (cwV 2 hts (gwV good_Vq (u_Vq_Vt _ k_Vt_151) (u_Vq_In _ k_In_58) (u_Vq_In _ k_In_59) (u_Vq_In _ k_In_0) (wcs (u_Vq_In _ k_In_60) (fun _ h => h))) rfl rfl rfl (by decide +kernel) ⟨Nat.le_of_ble_eq_true rfl, Nat.le_of_ble_eq_true rfl⟩) (pv_ofE (X.same _) (fun U z1 z2 => X.mono _ _ U hFc (hEw _ _ hS U z1 z2)) hP hK hD (va_recv hK hP (ci := 6) (q0 := 9) rfl rfl)) rfl rfl hl.1 rfl (lv_room (Nat.le_of_ble_eq_true rfl)) d_Vt_content_21 ⟨ly_c0 mF.1, ly_c0 mF.2⟩) hS (fun q _ h => hFc q h) hFc (fun r_ u t H locs ht hvm hw hB hz1 hk1 hS => ?_)
    rw [hw]
    obtain ⟨hP, -, hD⟩ := hB
    rw [ht] at hP
    have hD := lx_dj hD hFc
    exact lf_xo h
  have hB_58 : ∀ (Y : CT) (G : CG) (S : CS) (H : Heap) (locs : List Loc) (ls : Array Slot), f_Vt_content_58 K G S = some (.error 2, G', S') → CG.le G0 G → va_P (dC, dI) classes (wV M Y G S) H → va_D A (wV M Y G S) → va_S A s.heap H locs → lv_has ls 4 [] → W p l e ({ frames := 8, cells := G'.gc - G0.gc, slots := G'.gs - G0.gs, locals := 224 }) s m ([.ref M.o_Vt, .int p0, .int p1] : List Value).toArray below meth c H locs (G.gc - G0.gc) (G.gs - G0.gs) Q (F0 m 58 ls []) := by
    intro Y G S H locs ls h m0 hP hD hS hl
    have mF := mo_Vt_content_58 h
    rw [f_Vt_content_58] at h
    refine lv_iconst (v := (-1)) hx hb d_Vt_content_58 (by decide) ?_
    exact lf_xo h
  have hB_30 : ∀ (y_2 : Int32) (z_0 : Int32) (Y : CT) (G : CG) (S : CS) (H : Heap) (locs : List Loc) (ls : Array Slot), f_Vt_content_30 K y_2 z_0 G S = some (.error 2, G', S') → CG.le G0 G → va_P (dC, dI) classes (wV M Y G S) H → va_D A (wV M Y G S) → va_S A s.heap H locs → lv_has ls 4 [(0, .ref M.o_Vt), (2, .int y_2)] → W p l e ({ frames := 8, cells := G'.gc - G0.gc, slots := G'.gs - G0.gs, locals := 224 }) s m ([.ref M.o_Vt, .int p0, .int p1] : List Value).toArray below meth c H locs (G.gc - G0.gc) (G.gs - G0.gs) Q (F0 m 30 ls [.int z_0]) := by
    intro y_2 z_0 Y G S H locs ls h m0 hP hD hS hl
    have mF := mo_Vt_content_30 h
    rw [f_Vt_content_30] at h
    refine lv_istore_n (lv' := [(3, .int z_0), (0, .ref M.o_Vt), (2, .int y_2)]) hx hb d_Vt_content_30 rfl hl (by decide) rfl (fun ls hl => ?_)
    refine lv_aload_n hx hb d_Vt_content_31 rfl (lv_at hl 1 rfl) ?_
    refine va_get (D := (dC, dI)) (ci := 11) (v := .ref M.o_Tr) (C := R_Vt) (T := F_Vt) (N := 16) hx hb hts (fun w h => u_Vq_Vt w (i_Vt w h)) hown hK hP 0 rfl rfl 3 (by decide) (hts _ (u_Vq_Vt _ k_Vt_32)) (fun _ h9 => h9) rfl d_Vt_content_32 ?_
    refine lv_iload_n hx hb d_Vt_content_35 rfl (lv_at hl 0 rfl) ?_
    obtain ⟨r_6, S_6, hc_6, h⟩ := lf_cE h
    have hFc := lx_free hD hS hA
    refine va_calli (va_runV (As := [.int z_0]) (rest := []) ⟨hx, hb, hml, hown, hts⟩ (l_Tr_isDirectory l dC dI X _ hc_6) (cwV 1 hts (gwV good_Vq (u_Vq_Vt _ k_Vt_142) (u_Vq_Tr _ k_Tr_42) (u_Vq_Tr _ k_Tr_43) (u_Vq_Tr _ k_Tr_0) (wcs (u_Vq_Tr _ k_Tr_44) (fun _ h => h))) rfl rfl rfl (by decide +kernel) ⟨Nat.le_of_ble_eq_true rfl, Nat.le_of_ble_eq_true rfl⟩) (pv_ofE (X.same _) (fun U z1 z2 => X.mono _ _ U hFc (hEw _ _ hS U z1 z2)) hP hK hD (va_recv hK hP (ci := 5) (q0 := 4) rfl rfl)) rfl rfl hl.1 rfl (lv_room (Nat.le_of_ble_eq_true rfl)) d_Vt_content_36 ⟨ly_c0 mF.1, ly_c0 mF.2⟩) hS (fun q _ h => hFc q h) hFc (fun r_ u t H locs ht hvm hw hB hz1 hk1 hS => ?_)
    rw [hw]
    obtain ⟨hP, -, hD⟩ := hB
    rw [ht] at hP
    have hD := lx_dj hD hFc
    refine lv_if_ne (tgt := 58) hx hb d_Vt_content_39 (by decide) (fun c_7 => ?_) (fun c_7 => ?_)
    · have h := lf_f h c_7
      exact hB_58 Y G S_6 _ _ _ h m0 hP hD hS (lv_sub hl [] rfl)
    · have h := lf_t h c_7
      refine lv_iload_n hx hb d_Vt_content_42 rfl (lv_at hl 2 rfl) ?_
      refine lv_if_lt (tgt := 58) hx hb d_Vt_content_43 (by decide) (fun c_8 => ?_) (fun c_8 => ?_)
      · have h := lf_t h c_8
        exact hB_58 Y G S_6 _ _ _ h m0 hP hD hS (lv_sub hl [] rfl)
      · have h := lf_f h c_8
        refine lv_iload_n hx hb d_Vt_content_46 rfl (lv_at hl 2 rfl) ?_
        refine lv_aload_n hx hb d_Vt_content_47 rfl (lv_at hl 1 rfl) ?_
        refine va_get (D := (dC, dI)) (ci := 11) (v := .ref M.o_Tr) (C := R_Vt) (T := F_Vt) (N := 16) hx hb hts (fun w h => u_Vq_Vt w (i_Vt w h)) hown hK hP 0 rfl rfl 3 (by decide) (hts _ (u_Vq_Vt _ k_Vt_32)) (fun _ h9 => h9) rfl d_Vt_content_48 ?_
        refine lv_iload_n hx hb d_Vt_content_51 rfl (lv_at hl 0 rfl) ?_
        obtain ⟨r_9, S_9, hc_9, h⟩ := lf_cE h
        have hFc := lx_free hD hS hA
        refine va_calli (va_runV (As := [.int z_0]) (rest := [.int y_2]) ⟨hx, hb, hml, hown, hts⟩ (l_Tr_sizeOf l dC dI X _ hc_9) (cwV 1 hts (gwV good_Vq (u_Vq_Vt _ k_Vt_144) (u_Vq_Tr _ k_Tr_88) (u_Vq_Tr _ k_Tr_89) (u_Vq_Tr _ k_Tr_0) (wcs (u_Vq_Tr _ k_Tr_90) (fun _ h => h))) rfl rfl rfl (by decide +kernel) ⟨Nat.le_of_ble_eq_true rfl, Nat.le_of_ble_eq_true rfl⟩) (pv_ofE (X.same _) (fun U z1 z2 => X.mono _ _ U hFc (hEw _ _ hS U z1 z2)) hP hK hD (va_recv hK hP (ci := 5) (q0 := 4) rfl rfl)) rfl rfl hl.1 rfl (lv_room (Nat.le_of_ble_eq_true rfl)) d_Vt_content_52 ⟨ly_c0 mF.1, ly_c0 mF.2⟩) hS (fun q _ h => hFc q h) hFc (fun r_ u t H locs ht hvm hw hB hz1 hk1 hS => ?_)
        rw [hw]
        obtain ⟨hP, -, hD⟩ := hB
        rw [ht] at hP
        have hD := lx_dj hD hFc
        refine lv_icmp_lt (tgt := 60) hx hb d_Vt_content_55 (by decide) (fun c_10 => ?_) (fun c_10 => ?_)
        · have h := lf_t h c_10
          refine lv_aload_n hx hb d_Vt_content_60 rfl (lv_at hl 1 rfl) ?_
          refine va_get (D := (dC, dI)) (ci := 11) (v := .ref M.o_Dk) (C := R_Vt) (T := F_Vt) (N := 16) hx hb hts (fun w h => u_Vq_Vt w (i_Vt w h)) hown hK hP 0 rfl rfl 0 (by decide) (hts _ (u_Vq_Vt _ k_Vt_29)) (fun _ h9 => h9) rfl d_Vt_content_61 ?_
          refine lv_aload_n hx hb d_Vt_content_64 rfl (lv_at hl 1 rfl) ?_
          refine va_get (D := (dC, dI)) (ci := 11) (v := .ref M.o_Ed) (C := R_Vt) (T := F_Vt) (N := 16) hx hb hts (fun w h => u_Vq_Vt w (i_Vt w h)) hown hK hP 0 rfl rfl 5 (by decide) (hts _ (u_Vq_Vt _ k_Vt_34)) (fun _ h9 => h9) rfl d_Vt_content_65 ?_
          refine lv_iload_n hx hb d_Vt_content_68 rfl (lv_at hl 0 rfl) ?_
          refine lv_iload_n hx hb d_Vt_content_69 rfl (lv_at hl 2 rfl) ?_
          obtain ⟨r_11, S_11, hc_11, h⟩ := lf_cE h
          have hFc := lx_free hD hS hA
          refine va_calli (va_runV (As := [.int z_0, .int y_2]) (rest := [.ref M.o_Dk]) ⟨hx, hb, hml, hown, hts⟩ (l_Ed_placeOf l dC dI X _ hc_11) (cwV 2 hts (gwV good_Vq (u_Vq_Vt _ k_Vt_152) (u_Vq_Ed _ k_Ed_27) (u_Vq_Ed _ k_Ed_28) (u_Vq_Ed _ k_Ed_0) (wcs (u_Vq_Ed _ k_Ed_29) (fun _ h => h))) rfl rfl rfl (by decide +kernel) ⟨Nat.le_of_ble_eq_true rfl, Nat.le_of_ble_eq_true rfl⟩) (pv_ofE (X.same _) (fun U z1 z2 => X.mono _ _ U hFc (hEw _ _ hS U z1 z2)) hP hK hD (va_recv hK hP (ci := 8) (q0 := 6) rfl rfl)) rfl rfl hl.1 rfl (lv_room (Nat.le_of_ble_eq_true rfl)) d_Vt_content_70 ⟨ly_c0 mF.1, ly_c0 mF.2⟩) hS (fun q _ h => hFc q h) hFc (fun r_ u t H locs ht hvm hw hB hz1 hk1 hS => ?_)
          rw [hw]
          obtain ⟨hP, -, hD⟩ := hB
          rw [ht] at hP
          have hD := lx_dj hD hFc
          obtain ⟨r_12, S_12, hc_12, h⟩ := lf_cE h
          have hFc := lx_free hD hS hA
          refine va_calli (va_runV (As := [.int r_11]) (rest := []) ⟨hx, hb, hml, hown, hts⟩ (l_Dk_one l dC dI X _ hc_12) (cwV 1 hts (gwV good_Vq (u_Vq_Vt _ k_Vt_81) (u_Vq_Dk _ k_Dk_20) (u_Vq_Dk _ k_Dk_21) (u_Vq_Dk _ k_Dk_0) (wcs (u_Vq_Dk _ k_Dk_22) (fun _ h => h))) rfl rfl rfl (by decide +kernel) ⟨Nat.le_of_ble_eq_true rfl, Nat.le_of_ble_eq_true rfl⟩) (pv_ofE (X.same _) (fun U z1 z2 => X.mono _ _ U hFc (hEw _ _ hS U z1 z2)) hP hK hD (va_recv hK hP (ci := 0) (q0 := 1) rfl rfl)) rfl rfl hl.1 rfl (lv_room (Nat.le_of_ble_eq_true rfl)) d_Vt_content_73 ⟨ly_c0 mF.1, ly_c0 mF.2⟩) hS (fun q _ h => hFc q h) hFc (fun r_ u t H locs ht hvm hw hB hz1 hk1 hS => ?_)
          rw [hw]
          obtain ⟨hP, -, hD⟩ := hB
          rw [ht] at hP
          have hD := lx_dj hD hFc
          exact lf_xo h
        · have h := lf_f h c_10
          exact hB_58 Y G S_9 _ _ _ h m0 hP hD hS (lv_sub hl [] rfl)
  have hB_8 : ∀ (y_1 : Int32) (y_2 : Int32) (z_0 : Int32) (Y : CT) (G : CG) (S : CS) (H : Heap) (locs : List Loc) (ls : Array Slot), f_Vt_content_8 K y_1 y_2 z_0 G S = some (.error 2, G', S') → CG.le G0 G → va_P (dC, dI) classes (wV M Y G S) H → va_D A (wV M Y G S) → va_S A s.heap H locs → lv_has ls 4 [(0, .ref M.o_Vt), (1, .int y_1), (2, .int y_2)] → W p l e ({ frames := 8, cells := G'.gc - G0.gc, slots := G'.gs - G0.gs, locals := 224 }) s m ([.ref M.o_Vt, .int p0, .int p1] : List Value).toArray below meth c H locs (G.gc - G0.gc) (G.gs - G0.gs) Q (F0 m 8 ls [.int z_0]) := by
    intro y_1 y_2 z_0 Y G S H locs ls h m0 hP hD hS hl
    have mF := mo_Vt_content_8 h
    rw [f_Vt_content_8] at h
    refine lv_if_eq (tgt := 25) hx hb d_Vt_content_8 (by decide) (fun c_3 => ?_) (fun c_3 => ?_)
    · have h := lf_t h c_3
      refine lv_aload_n hx hb d_Vt_content_25 rfl (lv_at hl 0 rfl) ?_
      refine lv_iload_n hx hb d_Vt_content_26 rfl (lv_at hl 1 rfl) ?_
      rcases lf_aT h with ⟨r_4, G_4, S_4, hc_4, h⟩ | h9
      · have mc := mo_Vt_itemHere hc_4
        have ml_4 := mo_Vt_itemHere hc_4
        have mF1 := mo_Vt_content_30 h
        have hFc := lx_free hD hS hA
        refine va_calli (va_runV (As := [.int y_1]) (rest := []) ⟨hx, hb, hml, hown, hts⟩ (l_Vt_itemHere l dC dI X _ hc_4) (cwV 1 hts (gwV good_Vq (u_Vq_Vt _ k_Vt_130) (u_Vq_Vt _ k_Vt_131) (u_Vq_Vt _ k_Vt_217) (u_Vq_Vt _ k_Vt_0) (wcs (u_Vq_Vt _ k_Vt_132) (fun _ h => h))) rfl rfl rfl (by decide +kernel) ⟨Nat.le_of_ble_eq_true rfl, Nat.le_of_ble_eq_true rfl⟩) (pv_ofE (X.same _) (fun U z1 z2 => X.mono _ _ U hFc (hEw _ _ hS U z1 z2)) hP hK hD (va_recv hK hP (ci := 11) (q0 := 0) rfl rfl)) rfl rfl hl.1 rfl (lv_room (Nat.le_of_ble_eq_true rfl)) d_Vt_content_27 ⟨ly_c1 m0.1 mc.1 mF1.1, ly_c1 m0.2 mc.2 mF1.2⟩) hS (fun q _ h => hFc q h) hFc (fun r_ Y_4 t H locs ht hvm hw hB hz1 hk1 hS => ?_)
        rw [hw]
        obtain ⟨hP, -, hD⟩ := hB
        rw [ht] at hP
        have hD := lx_dj hD hFc
        refine W.widen (k := G_4.gc - G0.gc) (n := G_4.gs - G0.gs) (ly_c2 m0.1 mc.1) (ly_c2 m0.2 mc.2) ?_
        have m0 := CG.le_tr m0 mc
        exact hB_30 y_2 r_4 Y_4 G_4 S_4 _ _ _ h m0 hP hD hS (lv_sub hl [0, 2] rfl)
      · have mc := mo_Vt_itemHere h9
        have hFc := lx_free hD hS hA
        rw [hQ]
        exact x_outV (n := 1) (As := [.int y_1]) (rest := []) (b := M.o_Vt) (st0 := [.int y_1, .ref M.o_Vt]) ⟨hx, hb, hml, hown, hts⟩ (lt_Vt_itemHere_2 l hfl dC dI X _ h9) (cwV 1 hts (gwV good_Vq (u_Vq_Vt _ k_Vt_130) (u_Vq_Vt _ k_Vt_131) (u_Vq_Vt _ k_Vt_217) (u_Vq_Vt _ k_Vt_0) (wcs (u_Vq_Vt _ k_Vt_132) (fun _ h => h))) rfl rfl rfl (by decide +kernel) ⟨Nat.le_of_ble_eq_true rfl, Nat.le_of_ble_eq_true rfl⟩) (pv_ofE (X.same _) (fun U z1 z2 => X.mono _ _ U hFc (hEw _ _ hS U z1 z2)) hP hK hD (va_recv hK hP (ci := 11) (q0 := 0) rfl rfl)) rfl hl.1 rfl (Nat.le_of_ble_eq_true rfl) d_Vt_content_27 ⟨ly_c2 m0.1 mc.1, ly_c2 m0.2 mc.2⟩ hlocks hout ⟨ly_c2 m0.1 mc.1, ly_c2 m0.2 mc.2⟩ (fun E st t U z1 z2 z3 z4 z5 => ly_outQ hS hK hFc z1 z3 z4 z5) ⟨hS.2.2, fun z h => hFc z h⟩
    · have h := lf_f h c_3
      refine lv_aload_n hx hb d_Vt_content_11 rfl (lv_at hl 0 rfl) ?_
      refine va_get (D := (dC, dI)) (ci := 11) (v := .ref M.o_In) (C := R_Vt) (T := F_Vt) (N := 16) hx hb hts (fun w h => u_Vq_Vt w (i_Vt w h)) hown hK hP 0 rfl rfl 8 (by decide) (hts _ (u_Vq_Vt _ k_Vt_37)) (fun _ h9 => h9) rfl d_Vt_content_12 ?_
      refine lv_aload_n hx hb d_Vt_content_15 rfl (lv_at hl 0 rfl) ?_
      refine lv_iload_n hx hb d_Vt_content_16 rfl (lv_at hl 1 rfl) ?_
      rcases lf_aT h with ⟨r_5, G_5, S_5, hc_5, h⟩ | h9
      · have mc := mo_Vt_entryHere hc_5
        have ml_5 := mo_Vt_entryHere hc_5
        have mF1 := mo_Vt_content_20 h
        have hFc := lx_free hD hS hA
        refine va_calli (va_runV (As := [.int y_1]) (rest := [.ref M.o_In]) ⟨hx, hb, hml, hown, hts⟩ (l_Vt_entryHere l dC dI X _ hc_5) (cwV 1 hts (gwV good_Vq (u_Vq_Vt _ k_Vt_122) (u_Vq_Vt _ k_Vt_123) (u_Vq_Vt _ k_Vt_218) (u_Vq_Vt _ k_Vt_0) (wcs (u_Vq_Vt _ k_Vt_124) (fun _ h => h))) rfl rfl rfl (by decide +kernel) ⟨Nat.le_of_ble_eq_true rfl, Nat.le_of_ble_eq_true rfl⟩) (pv_ofE (X.same _) (fun U z1 z2 => X.mono _ _ U hFc (hEw _ _ hS U z1 z2)) hP hK hD (va_recv hK hP (ci := 11) (q0 := 0) rfl rfl)) rfl rfl hl.1 rfl (lv_room (Nat.le_of_ble_eq_true rfl)) d_Vt_content_17 ⟨ly_c1 m0.1 mc.1 mF1.1, ly_c1 m0.2 mc.2 mF1.2⟩) hS (fun q _ h => hFc q h) hFc (fun r_ Y_5 t H locs ht hvm hw hB hz1 hk1 hS => ?_)
        rw [hw]
        obtain ⟨hP, -, hD⟩ := hB
        rw [ht] at hP
        have hD := lx_dj hD hFc
        refine W.widen (k := G_5.gc - G0.gc) (n := G_5.gs - G0.gs) (ly_c2 m0.1 mc.1) (ly_c2 m0.2 mc.2) ?_
        have m0 := CG.le_tr m0 mc
        exact hB_20 y_2 r_5 Y_5 G_5 S_5 _ _ _ h m0 hP hD hS (lv_sub hl [2] rfl)
      · have mc := mo_Vt_entryHere h9
        have hFc := lx_free hD hS hA
        rw [hQ]
        exact x_outV (n := 1) (As := [.int y_1]) (rest := [.ref M.o_In]) (b := M.o_Vt) (st0 := [.int y_1, .ref M.o_Vt, .ref M.o_In]) ⟨hx, hb, hml, hown, hts⟩ (lt_Vt_entryHere_2 l hfl dC dI X _ h9) (cwV 1 hts (gwV good_Vq (u_Vq_Vt _ k_Vt_122) (u_Vq_Vt _ k_Vt_123) (u_Vq_Vt _ k_Vt_218) (u_Vq_Vt _ k_Vt_0) (wcs (u_Vq_Vt _ k_Vt_124) (fun _ h => h))) rfl rfl rfl (by decide +kernel) ⟨Nat.le_of_ble_eq_true rfl, Nat.le_of_ble_eq_true rfl⟩) (pv_ofE (X.same _) (fun U z1 z2 => X.mono _ _ U hFc (hEw _ _ hS U z1 z2)) hP hK hD (va_recv hK hP (ci := 11) (q0 := 0) rfl rfl)) rfl hl.1 rfl (Nat.le_of_ble_eq_true rfl) d_Vt_content_17 ⟨ly_c2 m0.1 mc.1, ly_c2 m0.2 mc.2⟩ hlocks hout ⟨ly_c2 m0.1 mc.1, ly_c2 m0.2 mc.2⟩ (fun E st t U z1 z2 z3 z4 z5 => ly_outQ hS hK hFc z1 z3 z4 z5) ⟨hS.2.2, fun z h => hFc z h⟩
  have hB_5 : ∀ (y_1 : Int32) (y_2 : Int32) (z_1 : Int32) (Y : CT) (G : CG) (S : CS) (H : Heap) (locs : List Loc) (ls : Array Slot), f_Vt_content_5 K y_1 y_2 z_1 G S = some (.error 2, G', S') → CG.le G0 G → va_P (dC, dI) classes (wV M Y G S) H → va_D A (wV M Y G S) → va_S A s.heap H locs → lv_has ls 4 [(0, .ref M.o_Vt), (1, .int y_1), (2, .int y_2)] → W p l e ({ frames := 8, cells := G'.gc - G0.gc, slots := G'.gs - G0.gs, locals := 224 }) s m ([.ref M.o_Vt, .int p0, .int p1] : List Value).toArray below meth c H locs (G.gc - G0.gc) (G.gs - G0.gs) Q (F0 m 5 ls [.int z_1, .ref M.o_Vt]) := by
    intro y_1 y_2 z_1 Y G S H locs ls h m0 hP hD hS hl
    have mF := mo_Vt_content_5 h
    rw [f_Vt_content_5] at h
    rcases lf_aT h with ⟨r_2, G_2, S_2, hc_2, h⟩ | h9
    · have mc := mo_Vt_readsInodes hc_2
      have ml_2 := mo_Vt_readsInodes hc_2
      have mF1 := mo_Vt_content_8 h
      have hFc := lx_free hD hS hA
      refine va_calli (va_runV (As := [.int z_1]) (rest := []) ⟨hx, hb, hml, hown, hts⟩ (l_Vt_readsInodes l dC dI X _ hc_2) (cwV 1 hts (gwV good_Vq (u_Vq_Vt _ k_Vt_111) (u_Vq_Vt _ k_Vt_112) (u_Vq_Vt _ k_Vt_215) (u_Vq_Vt _ k_Vt_0) (wcs (u_Vq_Vt _ k_Vt_113) (fun _ h => h))) rfl rfl rfl (by decide +kernel) ⟨Nat.le_of_ble_eq_true rfl, Nat.le_of_ble_eq_true rfl⟩) (pv_ofE (X.same _) (fun U z1 z2 => X.mono _ _ U hFc (hEw _ _ hS U z1 z2)) hP hK hD (va_recv hK hP (ci := 11) (q0 := 0) rfl rfl)) rfl rfl hl.1 rfl (lv_room (Nat.le_of_ble_eq_true rfl)) d_Vt_content_5 ⟨ly_c1 m0.1 mc.1 mF1.1, ly_c1 m0.2 mc.2 mF1.2⟩) hS (fun q _ h => hFc q h) hFc (fun r_ Y_2 t H locs ht hvm hw hB hz1 hk1 hS => ?_)
      rw [hw]
      obtain ⟨hP, -, hD⟩ := hB
      rw [ht] at hP
      have hD := lx_dj hD hFc
      refine W.widen (k := G_2.gc - G0.gc) (n := G_2.gs - G0.gs) (ly_c2 m0.1 mc.1) (ly_c2 m0.2 mc.2) ?_
      have m0 := CG.le_tr m0 mc
      exact hB_8 y_1 y_2 r_2 Y_2 G_2 S_2 _ _ _ h m0 hP hD hS (lv_sub hl [0, 1, 2] rfl)
    · exact absurd (th_Vt_readsInodes h9) (by decide)
  have m0 : CG.le G0 G0 := ⟨Nat.le_refl _, Nat.le_refl _⟩
  have mF := mo_Vt_content h
  refine W.widen (k := G0.gc - G0.gc) (n := G0.gs - G0.gs) (Nat.zero_le _) (Nat.zero_le _) ?_
  rw [f_Vt_content] at h
  refine lv_aload_n hx hb d_Vt_content_0 rfl (lv_at hl 0 rfl) ?_
  refine lv_aload_n hx hb d_Vt_content_1 rfl (lv_at hl 0 rfl) ?_
  obtain ⟨r_1, G_1, S_1, hc_1, h⟩ := lf_nE h
  have mc := mo_Vt_look hc_1
  have ml_1 := mo_Vt_look hc_1
  have mF1 := mo_Vt_content_5 h
  have hFc := lx_free hD hS hA
  refine va_calli (va_runV (As := []) (rest := [.ref M.o_Vt]) ⟨hx, hb, hml, hown, hts⟩ (l_Vt_look l dC dI X _ hc_1) (cwV 0 hts (gwV good_Vq (u_Vq_Vt _ k_Vt_68) (u_Vq_Vt _ k_Vt_69) (u_Vq_Vt _ k_Vt_214) (u_Vq_Vt _ k_Vt_0) (wcs (u_Vq_Vt _ k_Vt_70) (fun _ h => h))) rfl rfl rfl (by decide +kernel) ⟨Nat.le_of_ble_eq_true rfl, Nat.le_of_ble_eq_true rfl⟩) (pv_ofE (X.same _) (fun U z1 z2 => X.mono _ _ U hFc (hEw _ _ hS U z1 z2)) hP hK hD (va_recv hK hP (ci := 11) (q0 := 0) rfl rfl)) rfl rfl hl.1 rfl (lv_room (Nat.le_of_ble_eq_true rfl)) d_Vt_content_2 ⟨ly_c1 m0.1 mc.1 mF1.1, ly_c1 m0.2 mc.2 mF1.2⟩) hS (fun q _ h => hFc q h) hFc (fun r_ Y_1 t H locs ht hvm hw hB hz1 hk1 hS => ?_)
  rw [hw]
  obtain ⟨hP, -, hD⟩ := hB
  rw [ht] at hP
  have hD := lx_dj hD hFc
  refine W.widen (k := G_1.gc - G0.gc) (n := G_1.gs - G0.gs) (ly_c2 m0.1 mc.1) (ly_c2 m0.2 mc.2) ?_
  have m0 := CG.le_tr m0 mc
  exact hB_5 p0 p1 r_1 Y_1 G_1 S_1 _ _ _ h m0 hP hD hS (lv_sub hl [0, 1, 2] rfl)
set_option maxHeartbeats 4000000 in
set_option maxRecDepth 100000 in
theorem l_Vt_wantSoundTable (l : Launch) (dC : Nat → ClassId) (dI : Nat → Nat → Nat) {K : Nat} {M : CA} {E : (Nat → Prop) → State → Prop} (X : ly_X l dC dI K M E) (sz : Nat) {Y : CT} {G0 G' : CG} {S S' : CS} {p0 : Int32} (h : f_Vt_wantSoundTable K G0 S p0 = some (.ok (), G', S')) : Met l y_Vt_wantSoundTable (.code y_Vt_wantSoundTable cb_Vt_wantSoundTable 2 none :: V_Vq) ({ frames := 6, cells := G'.gc - G0.gc, slots := G'.gs - G0.gs, locals := 90 }) (va_Pc [.ref M.o_Vt, .int p0] (fun U => U.heap.size = sz ∧ at_ (dC, dI) (fun _ => True) (wV M Y G0 S) (tV M) U ∧ E (va_A (wV M Y G0 S) sz) U)) (va_Qv (fun (u : CT) => True) (fun (u : CT) t => at_ (dC, dI) (va_A (wV M Y G0 S) sz) (wV M u G' S') (tV M) t) (va_A (wV M Y G0 S) sz)) (G'.gc - G0.gc) (G'.gs - G0.gs) (va_A (wV M Y G0 S) sz) := by
  refine Met.ofW (cc := cb_Vt_wantSoundTable) (maxL := 2) (ret := none) (by decide) rfl ?_
  intro p e s m args below meth c s₁ B hml hv
  obtain ⟨rfl, hsz, ⟨hP, hK, hD0⟩, hE⟩ := hv
  have hx := B.exec
  have hb := B.bytes
  have hr := B.returns
  have hts0 := atoms_spec (ws := .code y_Vt_wantSoundTable cb_Vt_wantSoundTable 2 none :: V_Vq) B.pre
  have hts : ∀ w ∈ V_Vq, w.before ([.ref M.o_Vt, .int p0] : List Value).toArray s = true := fun w h => hts0 w (List.mem_cons_of_mem _ h)
  have hown : s.vm.findClass R_Vt = some m.cls := findClass_of_methodNamed B.named
  subst hsz
  have hD := hD0.self (sz := s.heap.size)
  generalize hAe : va_A (wV M Y G0 S) s.heap.size = A at hD hE ⊢
  have hA : ∀ q : Nat, s.heap.size ≤ q → A q := fun q h => by rw [← hAe]; exact Or.inr h
  have hS : va_S A s.heap s.heap [] := va_S.rf
  have hP : va_P (dC, dI) classes (wV M Y G0 S) s.heap := hP
  have hK : va_K (dC, dI) classes (tV M) s := hK
  have hEw : ∀ (H : Heap) (locs : List Loc), va_S A s.heap H locs → ∀ U : State, U.heap = H → s.WarmedH U.vm → E A U := fun H locs hS U hU hW => X.kept A s U H locs hE hS hU hW
  have hl := lv_entry ([.ref M.o_Vt, .int p0]) (n := 2) (Nat.le_of_ble_eq_true rfl)
  rw [lg_entry_eq]
  generalize (lg_sl ([.ref M.o_Vt, .int p0]) ++ List.replicate (2 - (lg_sl ([.ref M.o_Vt, .int p0])).length) Slot.unset).toArray = ls at hl ⊢
  have hl : lv_has ls 2 [(0, .ref M.o_Vt), (1, .int p0)] := hl
  refine qabs (fun Q hQ => ?_)
  have hB_12 : ∀ (Y : CT) (G : CG) (S : CS) (H : Heap) (locs : List Loc) (ls : Array Slot), f_Vt_wantSoundTable_12 K G S = some (.ok (), G', S') → CG.le G0 G → va_P (dC, dI) classes (wV M Y G S) H → va_D A (wV M Y G S) → va_S A s.heap H locs → lv_has ls 2 [] → W p l e ({ frames := 6, cells := G'.gc - G0.gc, slots := G'.gs - G0.gs, locals := 90 }) s m ([.ref M.o_Vt, .int p0] : List Value).toArray below meth c H locs (G.gc - G0.gc) (G.gs - G0.gs) Q (F0 m 12 ls []) := by
    intro Y G S H locs ls h m0 hP hD hS hl
    have mF := mo_Vt_wantSoundTable_12 h
    rw [f_Vt_wantSoundTable_12] at h
    exact lf_xe h
  have m0 : CG.le G0 G0 := ⟨Nat.le_refl _, Nat.le_refl _⟩
  have mF := mo_Vt_wantSoundTable h
  refine W.widen (k := G0.gc - G0.gc) (n := G0.gs - G0.gs) (Nat.zero_le _) (Nat.zero_le _) ?_
  rw [f_Vt_wantSoundTable] at h
  refine lv_iload_n hx hb d_Vt_wantSoundTable_0 rfl (lv_at hl 1 rfl) ?_
  refine lv_iconst (v := 1) hx hb d_Vt_wantSoundTable_1 (by decide) ?_
  refine lv_icmp_ne (tgt := 12) hx hb d_Vt_wantSoundTable_2 (by decide) (fun c_1 => ?_) (fun c_1 => ?_)
  · have h := lf_f h c_1
    exact hB_12 Y G0 S _ _ _ h m0 hP hD hS (lv_sub hl [] rfl)
  · have h := lf_t h c_1
    refine lv_aload_n hx hb d_Vt_wantSoundTable_5 rfl (lv_at hl 0 rfl) ?_
    refine va_get (D := (dC, dI)) (ci := 11) (v := .int S.v_Vt_lastFault) (C := R_Vt) (T := F_Vt) (N := 16) hx hb hts (fun w h => u_Vq_Vt w (i_Vt w h)) hown hK hP 0 rfl rfl 14 (by decide) (hts _ (u_Vq_Vt _ k_Vt_43)) (fun _ h9 => h9) rfl d_Vt_wantSoundTable_6 ?_
    refine lv_if_eq (tgt := 23) hx hb d_Vt_wantSoundTable_9 (by decide) (fun c_2 => ?_) (fun c_2 => ?_)
    · have h := lf_t h c_2
      rw [hQ]
      have e2 : G0 = G' := congrArg (fun z => z.2.1) (Option.some.inj h)
      have e3 : S = S' := congrArg (fun z => z.2.2) (Option.some.inj h)
      have hP := ly_newP3 e2.symm e3.symm hP
      have hD := ly_newD3 e2.symm e3.symm hD
      refine W.widen (k := G'.gc - G0.gc) (n := G'.gs - G0.gs) (ly_wc e2) (ly_ws e2) ?_
      exact W.vret hx hb hr (fun t ht hW => ⟨⟨Y, rfl, trivial, by rw [ht]; exact hP, va_K.moved hW.alike hK, hD⟩, hS.F ht⟩) hS.2.2 d_Vt_wantSoundTable_23
    · have h := lf_f h c_2
      exact hB_12 Y G0 S _ _ _ h m0 hP hD hS (lv_sub hl [] rfl)
set_option maxHeartbeats 4000000 in
set_option maxRecDepth 100000 in
theorem lt_Vt_wantSoundTable_1 (l : Launch) (hfl : l.flags = pinnedFlags ++ [noTraceFlag]) (dC : Nat → ClassId) (dI : Nat → Nat → Nat) {K : Nat} {M : CA} {E : (Nat → Prop) → State → Prop} (X : ly_X l dC dI K M E) (sz : Nat) {Y : CT} {G0 G' : CG} {S S' : CS} {p0 : Int32} (h : f_Vt_wantSoundTable K G0 S p0 = some (.error 1, G', S')) : MetX l y_Vt_wantSoundTable (.code y_Vt_wantSoundTable cb_Vt_wantSoundTable 2 none :: V_Vq) ({ frames := 6, cells := G'.gc - G0.gc, slots := G'.gs - G0.gs, locals := 90 }) (va_Pc [.ref M.o_Vt, .int p0] (fun U => U.heap.size = sz ∧ at_ (dC, dI) (fun _ => True) (wV M Y G0 S) (tV M) U ∧ E (va_A (wV M Y G0 S) sz) U)) (fun _ _ _ _ => False) (x_Q "java/lang/IllegalStateException" (va_A (wV M Y G0 S) sz) (fun t => ∃ u : CT, at_ (dC, dI) (va_A (wV M Y G0 S) sz) (wV M u G' S') (tV M) t)) (G'.gc - G0.gc) (G'.gs - G0.gs) (va_A (wV M Y G0 S) sz) := by
  refine MetX.ofW (cc := cb_Vt_wantSoundTable) (maxL := 2) (ret := none) (by decide) rfl ?_
  intro p e s m args below meth c s₁ B hml hv
  obtain ⟨rfl, hsz, ⟨hP, hK, hD0⟩, hE⟩ := hv
  have hx := B.exec
  have hb := B.bytes
  have hr := B.returns
  have hts0 := atoms_spec (ws := .code y_Vt_wantSoundTable cb_Vt_wantSoundTable 2 none :: V_Vq) B.pre
  have hts : ∀ w ∈ V_Vq, w.before ([.ref M.o_Vt, .int p0] : List Value).toArray s = true := fun w h => hts0 w (List.mem_cons_of_mem _ h)
  have hown : s.vm.findClass R_Vt = some m.cls := findClass_of_methodNamed B.named
  have hlocks := B.notSynchronized
  have hout := x_table B (hts0 _ List.mem_cons_self)
  subst hsz
  have hD := hD0.self (sz := s.heap.size)
  generalize hAe : va_A (wV M Y G0 S) s.heap.size = A at hD hE ⊢
  have hA : ∀ q : Nat, s.heap.size ≤ q → A q := fun q h => by rw [← hAe]; exact Or.inr h
  have hS : va_S A s.heap s.heap [] := va_S.rf
  have hP : va_P (dC, dI) classes (wV M Y G0 S) s.heap := hP
  have hK : va_K (dC, dI) classes (tV M) s := hK
  have hEw : ∀ (H : Heap) (locs : List Loc), va_S A s.heap H locs → ∀ U : State, U.heap = H → s.WarmedH U.vm → E A U := fun H locs hS U hU hW => X.kept A s U H locs hE hS hU hW
  have hl := lv_entry ([.ref M.o_Vt, .int p0]) (n := 2) (Nat.le_of_ble_eq_true rfl)
  rw [lg_entry_eq]
  generalize (lg_sl ([.ref M.o_Vt, .int p0]) ++ List.replicate (2 - (lg_sl ([.ref M.o_Vt, .int p0])).length) Slot.unset).toArray = ls at hl ⊢
  have hl : lv_has ls 2 [(0, .ref M.o_Vt), (1, .int p0)] := hl
  refine qabs (fun Q hQ => ?_)
  have hB_12 : ∀ (Y : CT) (G : CG) (S : CS) (H : Heap) (locs : List Loc) (ls : Array Slot), f_Vt_wantSoundTable_12 K G S = some (.error 1, G', S') → CG.le G0 G → va_P (dC, dI) classes (wV M Y G S) H → va_D A (wV M Y G S) → va_S A s.heap H locs → lv_has ls 2 [] → W p l e ({ frames := 6, cells := G'.gc - G0.gc, slots := G'.gs - G0.gs, locals := 90 }) s m ([.ref M.o_Vt, .int p0] : List Value).toArray below meth c H locs (G.gc - G0.gc) (G.gs - G0.gs) Q (F0 m 12 ls []) := by
    intro Y G S H locs ls h m0 hP hD hS hl
    have mF := mo_Vt_wantSoundTable_12 h
    rw [f_Vt_wantSoundTable_12] at h
    rw [hQ]
    have e2 : G.made 1 6 = G' := congrArg (fun z => z.2.1) (Option.some.inj h)
    have e3 : S = S' := congrArg (fun z => z.2.2) (Option.some.inj h)
    have hP := ly_newP3 e2.symm e3.symm (ly_madeP (c := 1) (n := 6) hP)
    have hD := ly_newD3 e2.symm e3.symm (ly_madeD (c := 1) (n := 6) hD)
    refine W.mono (ly_mqx (fun t z => ⟨Y, z⟩)) ?_
    exact x_thrG (own := R_Vt) (cls := "java/lang/IllegalStateException") (ik := 310) (is := 335) (ic := 314) (k := 3) hx hb (Launch.traces_off hfl (Stand.of_body B).admits) hlocks hown (by decide) (fun T hT => (X.xt_335 _ _ (hEw _ _ hS (xs s T) hT (State.WarmedH.refl s))).1) (hts _ (u_Vq_Vt _ k_Vt_114)) (hts _ (u_Vq_Vt _ k_Vt_115)) (hts _ (u_Vq_Vt _ k_Vt_3)) (X.xt_335 _ _ hE).2 (hl.1.trans hml.symm) d_Vt_wantSoundTable_12 d_Vt_wantSoundTable_15 (Or.inr ⟨d_Vt_wantSoundTable_16, rfl⟩) d_Vt_wantSoundTable_19 d_Vt_wantSoundTable_22 hout (Nat.le_of_ble_eq_true rfl) (Nat.le_of_ble_eq_true rfl) (ly_t1 e2 m0) (Nat.le_refl _) (ly_t2 e2 m0) (Nat.le_refl _) hP hK hD hS
  have m0 : CG.le G0 G0 := ⟨Nat.le_refl _, Nat.le_refl _⟩
  have mF := mo_Vt_wantSoundTable h
  refine W.widen (k := G0.gc - G0.gc) (n := G0.gs - G0.gs) (Nat.zero_le _) (Nat.zero_le _) ?_
  rw [f_Vt_wantSoundTable] at h
  refine lv_iload_n hx hb d_Vt_wantSoundTable_0 rfl (lv_at hl 1 rfl) ?_
  refine lv_iconst (v := 1) hx hb d_Vt_wantSoundTable_1 (by decide) ?_
  refine lv_icmp_ne (tgt := 12) hx hb d_Vt_wantSoundTable_2 (by decide) (fun c_1 => ?_) (fun c_1 => ?_)
  · have h := lf_f h c_1
    exact hB_12 Y G0 S _ _ _ h m0 hP hD hS (lv_sub hl [] rfl)
  · have h := lf_t h c_1
    refine lv_aload_n hx hb d_Vt_wantSoundTable_5 rfl (lv_at hl 0 rfl) ?_
    refine va_get (D := (dC, dI)) (ci := 11) (v := .int S.v_Vt_lastFault) (C := R_Vt) (T := F_Vt) (N := 16) hx hb hts (fun w h => u_Vq_Vt w (i_Vt w h)) hown hK hP 0 rfl rfl 14 (by decide) (hts _ (u_Vq_Vt _ k_Vt_43)) (fun _ h9 => h9) rfl d_Vt_wantSoundTable_6 ?_
    refine lv_if_eq (tgt := 23) hx hb d_Vt_wantSoundTable_9 (by decide) (fun c_2 => ?_) (fun c_2 => ?_)
    · have h := lf_t h c_2
      exact lf_xo h
    · have h := lf_f h c_2
      exact hB_12 Y G0 S _ _ _ h m0 hP hD hS (lv_sub hl [] rfl)
set_option maxHeartbeats 4000000 in
set_option maxRecDepth 100000 in
theorem l_Vt_fileHere (l : Launch) (dC : Nat → ClassId) (dI : Nat → Nat → Nat) {K : Nat} {M : CA} {E : (Nat → Prop) → State → Prop} (X : ly_X l dC dI K M E) (sz : Nat) {Y : CT} {G0 G' : CG} {S S' : CS} {p0 : Int32} {r : Int32} (h : f_Vt_fileHere K G0 S p0 = some (.ok r, G', S')) : Met l y_Vt_fileHere (.code y_Vt_fileHere cb_Vt_fileHere 3 (some .int) :: V_Vq) ({ frames := 7, cells := G'.gc - G0.gc, slots := G'.gs - G0.gs, locals := 111 }) (va_Pc [.ref M.o_Vt, .int p0] (fun U => U.heap.size = sz ∧ at_ (dC, dI) (fun _ => True) (wV M Y G0 S) (tV M) U ∧ E (va_A (wV M Y G0 S) sz) U)) (va_Qi (fun (r_ : Int32) (u : CT) => r_ = r) (fun (u : CT) t => at_ (dC, dI) (va_A (wV M Y G0 S) sz) (wV M u G' S') (tV M) t) (va_A (wV M Y G0 S) sz)) (G'.gc - G0.gc) (G'.gs - G0.gs) (va_A (wV M Y G0 S) sz) := by
  refine Met.ofW (cc := cb_Vt_fileHere) (maxL := 3) (ret := (some .int)) (by decide) rfl ?_
  intro p e s m args below meth c s₁ B hml hv
  obtain ⟨rfl, hsz, ⟨hP, hK, hD0⟩, hE⟩ := hv
  have hx := B.exec
  have hb := B.bytes
  have hr := B.returns
  have hts0 := atoms_spec (ws := .code y_Vt_fileHere cb_Vt_fileHere 3 (some .int) :: V_Vq) B.pre
  have hts : ∀ w ∈ V_Vq, w.before ([.ref M.o_Vt, .int p0] : List Value).toArray s = true := fun w h => hts0 w (List.mem_cons_of_mem _ h)
  have hown : s.vm.findClass R_Vt = some m.cls := findClass_of_methodNamed B.named
  subst hsz
  have hD := hD0.self (sz := s.heap.size)
  generalize hAe : va_A (wV M Y G0 S) s.heap.size = A at hD hE ⊢
  have hA : ∀ q : Nat, s.heap.size ≤ q → A q := fun q h => by rw [← hAe]; exact Or.inr h
  have hS : va_S A s.heap s.heap [] := va_S.rf
  have hP : va_P (dC, dI) classes (wV M Y G0 S) s.heap := hP
  have hK : va_K (dC, dI) classes (tV M) s := hK
  have hEw : ∀ (H : Heap) (locs : List Loc), va_S A s.heap H locs → ∀ U : State, U.heap = H → s.WarmedH U.vm → E A U := fun H locs hS U hU hW => X.kept A s U H locs hE hS hU hW
  have hl := lv_entry ([.ref M.o_Vt, .int p0]) (n := 3) (Nat.le_of_ble_eq_true rfl)
  rw [lg_entry_eq]
  generalize (lg_sl ([.ref M.o_Vt, .int p0]) ++ List.replicate (3 - (lg_sl ([.ref M.o_Vt, .int p0])).length) Slot.unset).toArray = ls at hl ⊢
  have hl : lv_has ls 3 [(0, .ref M.o_Vt), (1, .int p0)] := hl
  refine qabs (fun Q hQ => ?_)
  have hB_5 : ∀ (z_0 : Int32) (Y : CT) (G : CG) (S : CS) (H : Heap) (locs : List Loc) (ls : Array Slot), f_Vt_fileHere_5 K z_0 G S = some (.ok r, G', S') → CG.le G0 G → va_P (dC, dI) classes (wV M Y G S) H → va_D A (wV M Y G S) → va_S A s.heap H locs → lv_has ls 3 [(0, .ref M.o_Vt)] → W p l e ({ frames := 7, cells := G'.gc - G0.gc, slots := G'.gs - G0.gs, locals := 111 }) s m ([.ref M.o_Vt, .int p0] : List Value).toArray below meth c H locs (G.gc - G0.gc) (G.gs - G0.gs) Q (F0 m 5 ls [.int z_0]) := by
    intro z_0 Y G S H locs ls h m0 hP hD hS hl
    have mF := mo_Vt_fileHere_5 h
    rw [f_Vt_fileHere_5] at h
    refine lv_istore_n (lv' := [(2, .int z_0), (0, .ref M.o_Vt)]) hx hb d_Vt_fileHere_5 rfl hl (by decide) rfl (fun ls hl => ?_)
    refine lv_aload_n hx hb d_Vt_fileHere_6 rfl (lv_at hl 1 rfl) ?_
    refine va_get (D := (dC, dI)) (ci := 11) (v := .ref M.o_Tr) (C := R_Vt) (T := F_Vt) (N := 16) hx hb hts (fun w h => u_Vq_Vt w (i_Vt w h)) hown hK hP 0 rfl rfl 3 (by decide) (hts _ (u_Vq_Vt _ k_Vt_32)) (fun _ h9 => h9) rfl d_Vt_fileHere_7 ?_
    refine lv_iload_n hx hb d_Vt_fileHere_10 rfl (lv_at hl 0 rfl) ?_
    obtain ⟨r_2, S_2, hc_2, h⟩ := lf_cE h
    have hFc := lx_free hD hS hA
    refine va_calli (va_runV (As := [.int z_0]) (rest := []) ⟨hx, hb, hml, hown, hts⟩ (l_Tr_isDirectory l dC dI X _ hc_2) (cwV 1 hts (gwV good_Vq (u_Vq_Vt _ k_Vt_142) (u_Vq_Tr _ k_Tr_42) (u_Vq_Tr _ k_Tr_43) (u_Vq_Tr _ k_Tr_0) (wcs (u_Vq_Tr _ k_Tr_44) (fun _ h => h))) rfl rfl rfl (by decide +kernel) ⟨Nat.le_of_ble_eq_true rfl, Nat.le_of_ble_eq_true rfl⟩) (pv_ofE (X.same _) (fun U z1 z2 => X.mono _ _ U hFc (hEw _ _ hS U z1 z2)) hP hK hD (va_recv hK hP (ci := 5) (q0 := 4) rfl rfl)) rfl rfl hl.1 rfl (lv_room (Nat.le_of_ble_eq_true rfl)) d_Vt_fileHere_11 ⟨ly_c0 mF.1, ly_c0 mF.2⟩) hS (fun q _ h => hFc q h) hFc (fun r_ u t H locs ht hvm hw hB hz1 hk1 hS => ?_)
    rw [hw]
    obtain ⟨hP, -, hD⟩ := hB
    rw [ht] at hP
    have hD := lx_dj hD hFc
    refine lv_if_eq (tgt := 28) hx hb d_Vt_fileHere_14 (by decide) (fun c_3 => ?_) (fun c_3 => ?_)
    · have h := lf_t h c_3
      refine lv_iload_n hx hb d_Vt_fileHere_28 rfl (lv_at hl 0 rfl) ?_
      rw [hQ]
      have e1 : z_0 = r := Except.ok.inj (congrArg (fun z => z.1) (Option.some.inj h))
      have e2 : G = G' := congrArg (fun z => z.2.1) (Option.some.inj h)
      have e3 : S_2 = S' := congrArg (fun z => z.2.2) (Option.some.inj h)
      have hP := ly_newP3 e2.symm e3.symm hP
      have hD := ly_newD3 e2.symm e3.symm hD
      refine W.widen (k := G'.gc - G0.gc) (n := G'.gs - G0.gs) (ly_wc e2) (ly_ws e2) ?_
      exact W.iret (v := z_0) hx hb hr (fun t ht hW => ⟨⟨z_0, Y, rfl, e1, by rw [ht]; exact hP, va_K.moved hW.alike hK, hD⟩, hS.F ht⟩) hS.2.2 d_Vt_fileHere_29
    · have h := lf_f h c_3
      exact lf_xe h
  have m0 : CG.le G0 G0 := ⟨Nat.le_refl _, Nat.le_refl _⟩
  have mF := mo_Vt_fileHere h
  refine W.widen (k := G0.gc - G0.gc) (n := G0.gs - G0.gs) (Nat.zero_le _) (Nat.zero_le _) ?_
  rw [f_Vt_fileHere] at h
  refine lv_aload_n hx hb d_Vt_fileHere_0 rfl (lv_at hl 0 rfl) ?_
  refine lv_iload_n hx hb d_Vt_fileHere_1 rfl (lv_at hl 1 rfl) ?_
  obtain ⟨r_1, G_1, S_1, hc_1, h⟩ := lf_aO h
  have mc := mo_Vt_itemHere hc_1
  have ml_1 := mo_Vt_itemHere hc_1
  have mF1 := mo_Vt_fileHere_5 h
  have hFc := lx_free hD hS hA
  refine va_calli (va_runV (As := [.int p0]) (rest := []) ⟨hx, hb, hml, hown, hts⟩ (l_Vt_itemHere l dC dI X _ hc_1) (cwV 1 hts (gwV good_Vq (u_Vq_Vt _ k_Vt_130) (u_Vq_Vt _ k_Vt_131) (u_Vq_Vt _ k_Vt_217) (u_Vq_Vt _ k_Vt_0) (wcs (u_Vq_Vt _ k_Vt_132) (fun _ h => h))) rfl rfl rfl (by decide +kernel) ⟨Nat.le_of_ble_eq_true rfl, Nat.le_of_ble_eq_true rfl⟩) (pv_ofE (X.same _) (fun U z1 z2 => X.mono _ _ U hFc (hEw _ _ hS U z1 z2)) hP hK hD (va_recv hK hP (ci := 11) (q0 := 0) rfl rfl)) rfl rfl hl.1 rfl (lv_room (Nat.le_of_ble_eq_true rfl)) d_Vt_fileHere_2 ⟨ly_c1 m0.1 mc.1 mF1.1, ly_c1 m0.2 mc.2 mF1.2⟩) hS (fun q _ h => hFc q h) hFc (fun r_ Y_1 t H locs ht hvm hw hB hz1 hk1 hS => ?_)
  rw [hw]
  obtain ⟨hP, -, hD⟩ := hB
  rw [ht] at hP
  have hD := lx_dj hD hFc
  refine W.widen (k := G_1.gc - G0.gc) (n := G_1.gs - G0.gs) (ly_c2 m0.1 mc.1) (ly_c2 m0.2 mc.2) ?_
  have m0 := CG.le_tr m0 mc
  exact hB_5 r_1 Y_1 G_1 S_1 _ _ _ h m0 hP hD hS (lv_sub hl [0] rfl)
set_option maxHeartbeats 4000000 in
set_option maxRecDepth 100000 in
theorem lt_Vt_fileHere_0 (l : Launch) (hfl : l.flags = pinnedFlags ++ [noTraceFlag]) (dC : Nat → ClassId) (dI : Nat → Nat → Nat) {K : Nat} {M : CA} {E : (Nat → Prop) → State → Prop} (X : ly_X l dC dI K M E) (sz : Nat) {Y : CT} {G0 G' : CG} {S S' : CS} {p0 : Int32} (h : f_Vt_fileHere K G0 S p0 = some (.error 0, G', S')) : MetX l y_Vt_fileHere (.code y_Vt_fileHere cb_Vt_fileHere 3 (some .int) :: V_Vq) ({ frames := 7, cells := G'.gc - G0.gc, slots := G'.gs - G0.gs, locals := 111 }) (va_Pc [.ref M.o_Vt, .int p0] (fun U => U.heap.size = sz ∧ at_ (dC, dI) (fun _ => True) (wV M Y G0 S) (tV M) U ∧ E (va_A (wV M Y G0 S) sz) U)) (fun _ _ _ _ => False) (x_Q "java/lang/IllegalArgumentException" (va_A (wV M Y G0 S) sz) (fun t => ∃ u : CT, at_ (dC, dI) (va_A (wV M Y G0 S) sz) (wV M u G' S') (tV M) t)) (G'.gc - G0.gc) (G'.gs - G0.gs) (va_A (wV M Y G0 S) sz) := by
  refine MetX.ofW (cc := cb_Vt_fileHere) (maxL := 3) (ret := (some .int)) (by decide) rfl ?_
  intro p e s m args below meth c s₁ B hml hv
  obtain ⟨rfl, hsz, ⟨hP, hK, hD0⟩, hE⟩ := hv
  have hx := B.exec
  have hb := B.bytes
  have hr := B.returns
  have hts0 := atoms_spec (ws := .code y_Vt_fileHere cb_Vt_fileHere 3 (some .int) :: V_Vq) B.pre
  have hts : ∀ w ∈ V_Vq, w.before ([.ref M.o_Vt, .int p0] : List Value).toArray s = true := fun w h => hts0 w (List.mem_cons_of_mem _ h)
  have hown : s.vm.findClass R_Vt = some m.cls := findClass_of_methodNamed B.named
  have hlocks := B.notSynchronized
  have hout := x_table B (hts0 _ List.mem_cons_self)
  subst hsz
  have hD := hD0.self (sz := s.heap.size)
  generalize hAe : va_A (wV M Y G0 S) s.heap.size = A at hD hE ⊢
  have hA : ∀ q : Nat, s.heap.size ≤ q → A q := fun q h => by rw [← hAe]; exact Or.inr h
  have hS : va_S A s.heap s.heap [] := va_S.rf
  have hP : va_P (dC, dI) classes (wV M Y G0 S) s.heap := hP
  have hK : va_K (dC, dI) classes (tV M) s := hK
  have hEw : ∀ (H : Heap) (locs : List Loc), va_S A s.heap H locs → ∀ U : State, U.heap = H → s.WarmedH U.vm → E A U := fun H locs hS U hU hW => X.kept A s U H locs hE hS hU hW
  have hl := lv_entry ([.ref M.o_Vt, .int p0]) (n := 3) (Nat.le_of_ble_eq_true rfl)
  rw [lg_entry_eq]
  generalize (lg_sl ([.ref M.o_Vt, .int p0]) ++ List.replicate (3 - (lg_sl ([.ref M.o_Vt, .int p0])).length) Slot.unset).toArray = ls at hl ⊢
  have hl : lv_has ls 3 [(0, .ref M.o_Vt), (1, .int p0)] := hl
  refine qabs (fun Q hQ => ?_)
  have hB_5 : ∀ (z_0 : Int32) (Y : CT) (G : CG) (S : CS) (H : Heap) (locs : List Loc) (ls : Array Slot), f_Vt_fileHere_5 K z_0 G S = some (.error 0, G', S') → CG.le G0 G → va_P (dC, dI) classes (wV M Y G S) H → va_D A (wV M Y G S) → va_S A s.heap H locs → lv_has ls 3 [(0, .ref M.o_Vt)] → W p l e ({ frames := 7, cells := G'.gc - G0.gc, slots := G'.gs - G0.gs, locals := 111 }) s m ([.ref M.o_Vt, .int p0] : List Value).toArray below meth c H locs (G.gc - G0.gc) (G.gs - G0.gs) Q (F0 m 5 ls [.int z_0]) := by
    intro z_0 Y G S H locs ls h m0 hP hD hS hl
    have mF := mo_Vt_fileHere_5 h
    rw [f_Vt_fileHere_5] at h
    refine lv_istore_n (lv' := [(2, .int z_0), (0, .ref M.o_Vt)]) hx hb d_Vt_fileHere_5 rfl hl (by decide) rfl (fun ls hl => ?_)
    refine lv_aload_n hx hb d_Vt_fileHere_6 rfl (lv_at hl 1 rfl) ?_
    refine va_get (D := (dC, dI)) (ci := 11) (v := .ref M.o_Tr) (C := R_Vt) (T := F_Vt) (N := 16) hx hb hts (fun w h => u_Vq_Vt w (i_Vt w h)) hown hK hP 0 rfl rfl 3 (by decide) (hts _ (u_Vq_Vt _ k_Vt_32)) (fun _ h9 => h9) rfl d_Vt_fileHere_7 ?_
    refine lv_iload_n hx hb d_Vt_fileHere_10 rfl (lv_at hl 0 rfl) ?_
    obtain ⟨r_2, S_2, hc_2, h⟩ := lf_cE h
    have hFc := lx_free hD hS hA
    refine va_calli (va_runV (As := [.int z_0]) (rest := []) ⟨hx, hb, hml, hown, hts⟩ (l_Tr_isDirectory l dC dI X _ hc_2) (cwV 1 hts (gwV good_Vq (u_Vq_Vt _ k_Vt_142) (u_Vq_Tr _ k_Tr_42) (u_Vq_Tr _ k_Tr_43) (u_Vq_Tr _ k_Tr_0) (wcs (u_Vq_Tr _ k_Tr_44) (fun _ h => h))) rfl rfl rfl (by decide +kernel) ⟨Nat.le_of_ble_eq_true rfl, Nat.le_of_ble_eq_true rfl⟩) (pv_ofE (X.same _) (fun U z1 z2 => X.mono _ _ U hFc (hEw _ _ hS U z1 z2)) hP hK hD (va_recv hK hP (ci := 5) (q0 := 4) rfl rfl)) rfl rfl hl.1 rfl (lv_room (Nat.le_of_ble_eq_true rfl)) d_Vt_fileHere_11 ⟨ly_c0 mF.1, ly_c0 mF.2⟩) hS (fun q _ h => hFc q h) hFc (fun r_ u t H locs ht hvm hw hB hz1 hk1 hS => ?_)
    rw [hw]
    obtain ⟨hP, -, hD⟩ := hB
    rw [ht] at hP
    have hD := lx_dj hD hFc
    refine lv_if_eq (tgt := 28) hx hb d_Vt_fileHere_14 (by decide) (fun c_3 => ?_) (fun c_3 => ?_)
    · have h := lf_t h c_3
      refine lv_iload_n hx hb d_Vt_fileHere_28 rfl (lv_at hl 0 rfl) ?_
      exact lf_xo h
    · have h := lf_f h c_3
      rw [hQ]
      have e2 : G.made 1 6 = G' := congrArg (fun z => z.2.1) (Option.some.inj h)
      have e3 : S_2 = S' := congrArg (fun z => z.2.2) (Option.some.inj h)
      have hP := ly_newP3 e2.symm e3.symm (ly_madeP (c := 1) (n := 6) hP)
      have hD := ly_newD3 e2.symm e3.symm (ly_madeD (c := 1) (n := 6) hD)
      refine W.mono (ly_mqx (fun t z => ⟨Y, z⟩)) ?_
      exact x_thrG (own := R_Vt) (cls := "java/lang/IllegalArgumentException") (ik := 133) (is := 348) (ic := 137) (k := 3) hx hb (Launch.traces_off hfl (Stand.of_body B).admits) hlocks hown (by decide) (fun T hT => (X.xt_348 _ _ (hEw _ _ hS (xs s T) hT (State.WarmedH.refl s))).1) (hts _ (u_Vq_Vt _ k_Vt_100)) (hts _ (u_Vq_Vt _ k_Vt_101)) (hts _ (u_Vq_Vt _ k_Vt_1)) (X.xt_348 _ _ hE).2 (hl.1.trans hml.symm) d_Vt_fileHere_17 d_Vt_fileHere_20 (Or.inr ⟨d_Vt_fileHere_21, rfl⟩) d_Vt_fileHere_24 d_Vt_fileHere_27 hout (Nat.le_of_ble_eq_true rfl) (Nat.le_of_ble_eq_true rfl) (ly_t1 e2 m0) (Nat.le_refl _) (ly_t2 e2 m0) (Nat.le_refl _) hP hK hD hS
  have m0 : CG.le G0 G0 := ⟨Nat.le_refl _, Nat.le_refl _⟩
  have mF := mo_Vt_fileHere h
  refine W.widen (k := G0.gc - G0.gc) (n := G0.gs - G0.gs) (Nat.zero_le _) (Nat.zero_le _) ?_
  rw [f_Vt_fileHere] at h
  refine lv_aload_n hx hb d_Vt_fileHere_0 rfl (lv_at hl 0 rfl) ?_
  refine lv_iload_n hx hb d_Vt_fileHere_1 rfl (lv_at hl 1 rfl) ?_
  rcases lf_aT h with ⟨r_1, G_1, S_1, hc_1, h⟩ | h9
  · have mc := mo_Vt_itemHere hc_1
    have ml_1 := mo_Vt_itemHere hc_1
    have mF1 := mo_Vt_fileHere_5 h
    have hFc := lx_free hD hS hA
    refine va_calli (va_runV (As := [.int p0]) (rest := []) ⟨hx, hb, hml, hown, hts⟩ (l_Vt_itemHere l dC dI X _ hc_1) (cwV 1 hts (gwV good_Vq (u_Vq_Vt _ k_Vt_130) (u_Vq_Vt _ k_Vt_131) (u_Vq_Vt _ k_Vt_217) (u_Vq_Vt _ k_Vt_0) (wcs (u_Vq_Vt _ k_Vt_132) (fun _ h => h))) rfl rfl rfl (by decide +kernel) ⟨Nat.le_of_ble_eq_true rfl, Nat.le_of_ble_eq_true rfl⟩) (pv_ofE (X.same _) (fun U z1 z2 => X.mono _ _ U hFc (hEw _ _ hS U z1 z2)) hP hK hD (va_recv hK hP (ci := 11) (q0 := 0) rfl rfl)) rfl rfl hl.1 rfl (lv_room (Nat.le_of_ble_eq_true rfl)) d_Vt_fileHere_2 ⟨ly_c1 m0.1 mc.1 mF1.1, ly_c1 m0.2 mc.2 mF1.2⟩) hS (fun q _ h => hFc q h) hFc (fun r_ Y_1 t H locs ht hvm hw hB hz1 hk1 hS => ?_)
    rw [hw]
    obtain ⟨hP, -, hD⟩ := hB
    rw [ht] at hP
    have hD := lx_dj hD hFc
    refine W.widen (k := G_1.gc - G0.gc) (n := G_1.gs - G0.gs) (ly_c2 m0.1 mc.1) (ly_c2 m0.2 mc.2) ?_
    have m0 := CG.le_tr m0 mc
    exact hB_5 r_1 Y_1 G_1 S_1 _ _ _ h m0 hP hD hS (lv_sub hl [0] rfl)
  · exact absurd (th_Vt_itemHere h9) (by decide)
set_option maxHeartbeats 4000000 in
set_option maxRecDepth 100000 in
theorem lt_Vt_fileHere_2 (l : Launch) (hfl : l.flags = pinnedFlags ++ [noTraceFlag]) (dC : Nat → ClassId) (dI : Nat → Nat → Nat) {K : Nat} {M : CA} {E : (Nat → Prop) → State → Prop} (X : ly_X l dC dI K M E) (sz : Nat) {Y : CT} {G0 G' : CG} {S S' : CS} {p0 : Int32} (h : f_Vt_fileHere K G0 S p0 = some (.error 2, G', S')) : MetX l y_Vt_fileHere (.code y_Vt_fileHere cb_Vt_fileHere 3 (some .int) :: V_Vq) ({ frames := 7, cells := G'.gc - G0.gc, slots := G'.gs - G0.gs, locals := 111 }) (va_Pc [.ref M.o_Vt, .int p0] (fun U => U.heap.size = sz ∧ at_ (dC, dI) (fun _ => True) (wV M Y G0 S) (tV M) U ∧ E (va_A (wV M Y G0 S) sz) U)) (fun _ _ _ _ => False) (x_Q "java/lang/IndexOutOfBoundsException" (va_A (wV M Y G0 S) sz) (fun t => ∃ u : CT, at_ (dC, dI) (va_A (wV M Y G0 S) sz) (wV M u G' S') (tV M) t)) (G'.gc - G0.gc) (G'.gs - G0.gs) (va_A (wV M Y G0 S) sz) := by
  refine MetX.ofW (cc := cb_Vt_fileHere) (maxL := 3) (ret := (some .int)) (by decide) rfl ?_
  intro p e s m args below meth c s₁ B hml hv
  obtain ⟨rfl, hsz, ⟨hP, hK, hD0⟩, hE⟩ := hv
  have hx := B.exec
  have hb := B.bytes
  have hr := B.returns
  have hts0 := atoms_spec (ws := .code y_Vt_fileHere cb_Vt_fileHere 3 (some .int) :: V_Vq) B.pre
  have hts : ∀ w ∈ V_Vq, w.before ([.ref M.o_Vt, .int p0] : List Value).toArray s = true := fun w h => hts0 w (List.mem_cons_of_mem _ h)
  have hown : s.vm.findClass R_Vt = some m.cls := findClass_of_methodNamed B.named
  have hlocks := B.notSynchronized
  have hout := x_table B (hts0 _ List.mem_cons_self)
  subst hsz
  have hD := hD0.self (sz := s.heap.size)
  generalize hAe : va_A (wV M Y G0 S) s.heap.size = A at hD hE ⊢
  have hA : ∀ q : Nat, s.heap.size ≤ q → A q := fun q h => by rw [← hAe]; exact Or.inr h
  have hS : va_S A s.heap s.heap [] := va_S.rf
  have hP : va_P (dC, dI) classes (wV M Y G0 S) s.heap := hP
  have hK : va_K (dC, dI) classes (tV M) s := hK
  have hEw : ∀ (H : Heap) (locs : List Loc), va_S A s.heap H locs → ∀ U : State, U.heap = H → s.WarmedH U.vm → E A U := fun H locs hS U hU hW => X.kept A s U H locs hE hS hU hW
  have hl := lv_entry ([.ref M.o_Vt, .int p0]) (n := 3) (Nat.le_of_ble_eq_true rfl)
  rw [lg_entry_eq]
  generalize (lg_sl ([.ref M.o_Vt, .int p0]) ++ List.replicate (3 - (lg_sl ([.ref M.o_Vt, .int p0])).length) Slot.unset).toArray = ls at hl ⊢
  have hl : lv_has ls 3 [(0, .ref M.o_Vt), (1, .int p0)] := hl
  refine qabs (fun Q hQ => ?_)
  have hB_5 : ∀ (z_0 : Int32) (Y : CT) (G : CG) (S : CS) (H : Heap) (locs : List Loc) (ls : Array Slot), f_Vt_fileHere_5 K z_0 G S = some (.error 2, G', S') → CG.le G0 G → va_P (dC, dI) classes (wV M Y G S) H → va_D A (wV M Y G S) → va_S A s.heap H locs → lv_has ls 3 [(0, .ref M.o_Vt)] → W p l e ({ frames := 7, cells := G'.gc - G0.gc, slots := G'.gs - G0.gs, locals := 111 }) s m ([.ref M.o_Vt, .int p0] : List Value).toArray below meth c H locs (G.gc - G0.gc) (G.gs - G0.gs) Q (F0 m 5 ls [.int z_0]) := by
    intro z_0 Y G S H locs ls h m0 hP hD hS hl
    have mF := mo_Vt_fileHere_5 h
    rw [f_Vt_fileHere_5] at h
    refine lv_istore_n (lv' := [(2, .int z_0), (0, .ref M.o_Vt)]) hx hb d_Vt_fileHere_5 rfl hl (by decide) rfl (fun ls hl => ?_)
    refine lv_aload_n hx hb d_Vt_fileHere_6 rfl (lv_at hl 1 rfl) ?_
    refine va_get (D := (dC, dI)) (ci := 11) (v := .ref M.o_Tr) (C := R_Vt) (T := F_Vt) (N := 16) hx hb hts (fun w h => u_Vq_Vt w (i_Vt w h)) hown hK hP 0 rfl rfl 3 (by decide) (hts _ (u_Vq_Vt _ k_Vt_32)) (fun _ h9 => h9) rfl d_Vt_fileHere_7 ?_
    refine lv_iload_n hx hb d_Vt_fileHere_10 rfl (lv_at hl 0 rfl) ?_
    obtain ⟨r_2, S_2, hc_2, h⟩ := lf_cE h
    have hFc := lx_free hD hS hA
    refine va_calli (va_runV (As := [.int z_0]) (rest := []) ⟨hx, hb, hml, hown, hts⟩ (l_Tr_isDirectory l dC dI X _ hc_2) (cwV 1 hts (gwV good_Vq (u_Vq_Vt _ k_Vt_142) (u_Vq_Tr _ k_Tr_42) (u_Vq_Tr _ k_Tr_43) (u_Vq_Tr _ k_Tr_0) (wcs (u_Vq_Tr _ k_Tr_44) (fun _ h => h))) rfl rfl rfl (by decide +kernel) ⟨Nat.le_of_ble_eq_true rfl, Nat.le_of_ble_eq_true rfl⟩) (pv_ofE (X.same _) (fun U z1 z2 => X.mono _ _ U hFc (hEw _ _ hS U z1 z2)) hP hK hD (va_recv hK hP (ci := 5) (q0 := 4) rfl rfl)) rfl rfl hl.1 rfl (lv_room (Nat.le_of_ble_eq_true rfl)) d_Vt_fileHere_11 ⟨ly_c0 mF.1, ly_c0 mF.2⟩) hS (fun q _ h => hFc q h) hFc (fun r_ u t H locs ht hvm hw hB hz1 hk1 hS => ?_)
    rw [hw]
    obtain ⟨hP, -, hD⟩ := hB
    rw [ht] at hP
    have hD := lx_dj hD hFc
    refine lv_if_eq (tgt := 28) hx hb d_Vt_fileHere_14 (by decide) (fun c_3 => ?_) (fun c_3 => ?_)
    · have h := lf_t h c_3
      refine lv_iload_n hx hb d_Vt_fileHere_28 rfl (lv_at hl 0 rfl) ?_
      exact lf_xo h
    · have h := lf_f h c_3
      exact lf_xk h (by decide)
  have m0 : CG.le G0 G0 := ⟨Nat.le_refl _, Nat.le_refl _⟩
  have mF := mo_Vt_fileHere h
  refine W.widen (k := G0.gc - G0.gc) (n := G0.gs - G0.gs) (Nat.zero_le _) (Nat.zero_le _) ?_
  rw [f_Vt_fileHere] at h
  refine lv_aload_n hx hb d_Vt_fileHere_0 rfl (lv_at hl 0 rfl) ?_
  refine lv_iload_n hx hb d_Vt_fileHere_1 rfl (lv_at hl 1 rfl) ?_
  rcases lf_aT h with ⟨r_1, G_1, S_1, hc_1, h⟩ | h9
  · have mc := mo_Vt_itemHere hc_1
    have ml_1 := mo_Vt_itemHere hc_1
    have mF1 := mo_Vt_fileHere_5 h
    have hFc := lx_free hD hS hA
    refine va_calli (va_runV (As := [.int p0]) (rest := []) ⟨hx, hb, hml, hown, hts⟩ (l_Vt_itemHere l dC dI X _ hc_1) (cwV 1 hts (gwV good_Vq (u_Vq_Vt _ k_Vt_130) (u_Vq_Vt _ k_Vt_131) (u_Vq_Vt _ k_Vt_217) (u_Vq_Vt _ k_Vt_0) (wcs (u_Vq_Vt _ k_Vt_132) (fun _ h => h))) rfl rfl rfl (by decide +kernel) ⟨Nat.le_of_ble_eq_true rfl, Nat.le_of_ble_eq_true rfl⟩) (pv_ofE (X.same _) (fun U z1 z2 => X.mono _ _ U hFc (hEw _ _ hS U z1 z2)) hP hK hD (va_recv hK hP (ci := 11) (q0 := 0) rfl rfl)) rfl rfl hl.1 rfl (lv_room (Nat.le_of_ble_eq_true rfl)) d_Vt_fileHere_2 ⟨ly_c1 m0.1 mc.1 mF1.1, ly_c1 m0.2 mc.2 mF1.2⟩) hS (fun q _ h => hFc q h) hFc (fun r_ Y_1 t H locs ht hvm hw hB hz1 hk1 hS => ?_)
    rw [hw]
    obtain ⟨hP, -, hD⟩ := hB
    rw [ht] at hP
    have hD := lx_dj hD hFc
    refine W.widen (k := G_1.gc - G0.gc) (n := G_1.gs - G0.gs) (ly_c2 m0.1 mc.1) (ly_c2 m0.2 mc.2) ?_
    have m0 := CG.le_tr m0 mc
    exact hB_5 r_1 Y_1 G_1 S_1 _ _ _ h m0 hP hD hS (lv_sub hl [0] rfl)
  · have mc := mo_Vt_itemHere h9
    have hFc := lx_free hD hS hA
    rw [hQ]
    exact x_outV (n := 1) (As := [.int p0]) (rest := []) (b := M.o_Vt) (st0 := [.int p0, .ref M.o_Vt]) ⟨hx, hb, hml, hown, hts⟩ (lt_Vt_itemHere_2 l hfl dC dI X _ h9) (cwV 1 hts (gwV good_Vq (u_Vq_Vt _ k_Vt_130) (u_Vq_Vt _ k_Vt_131) (u_Vq_Vt _ k_Vt_217) (u_Vq_Vt _ k_Vt_0) (wcs (u_Vq_Vt _ k_Vt_132) (fun _ h => h))) rfl rfl rfl (by decide +kernel) ⟨Nat.le_of_ble_eq_true rfl, Nat.le_of_ble_eq_true rfl⟩) (pv_ofE (X.same _) (fun U z1 z2 => X.mono _ _ U hFc (hEw _ _ hS U z1 z2)) hP hK hD (va_recv hK hP (ci := 11) (q0 := 0) rfl rfl)) rfl hl.1 rfl (Nat.le_of_ble_eq_true rfl) d_Vt_fileHere_2 ⟨ly_c2 m0.1 mc.1, ly_c2 m0.2 mc.2⟩ hlocks hout ⟨ly_c2 m0.1 mc.1, ly_c2 m0.2 mc.2⟩ (fun E st t U z1 z2 z3 z4 z5 => ly_outQ hS hK hFc z1 z3 z4 z5) ⟨hS.2.2, fun z h => hFc z h⟩
set_option maxHeartbeats 4000000 in
set_option maxRecDepth 100000 in
theorem l_Vt_cut (l : Launch) (dC : Nat → ClassId) (dI : Nat → Nat → Nat) {K : Nat} {M : CA} {E : (Nat → Prop) → State → Prop} (X : ly_X l dC dI K M E) (sz : Nat) {Y : CT} {G0 G' : CG} {S S' : CS} {p0 : Int32} {p1 : Int32} {r : Int32} (h : f_Vt_cut K G0 S p0 p1 = some (.ok r, G', S')) : Met l y_Vt_cut (.code y_Vt_cut cb_Vt_cut 4 (some .int) :: V_Vq) ({ frames := 8, cells := G'.gc - G0.gc, slots := G'.gs - G0.gs, locals := 224 }) (va_Pc [.ref M.o_Vt, .int p0, .int p1] (fun U => U.heap.size = sz ∧ at_ (dC, dI) (fun _ => True) (wV M Y G0 S) (tV M) U ∧ E (va_A (wV M Y G0 S) sz) U)) (va_Qi (fun (r_ : Int32) (u : CT) => r_ = r) (fun (u : CT) t => at_ (dC, dI) (va_A (wV M Y G0 S) sz) (wV M u G' S') (tV M) t) (va_A (wV M Y G0 S) sz)) (G'.gc - G0.gc) (G'.gs - G0.gs) (va_A (wV M Y G0 S) sz) := by
  refine Met.ofW (cc := cb_Vt_cut) (maxL := 4) (ret := (some .int)) (by decide) rfl ?_
  intro p e s m args below meth c s₁ B hml hv
  obtain ⟨rfl, hsz, ⟨hP, hK, hD0⟩, hE⟩ := hv
  have hx := B.exec
  have hb := B.bytes
  have hr := B.returns
  have hts0 := atoms_spec (ws := .code y_Vt_cut cb_Vt_cut 4 (some .int) :: V_Vq) B.pre
  have hts : ∀ w ∈ V_Vq, w.before ([.ref M.o_Vt, .int p0, .int p1] : List Value).toArray s = true := fun w h => hts0 w (List.mem_cons_of_mem _ h)
  have hown : s.vm.findClass R_Vt = some m.cls := findClass_of_methodNamed B.named
  subst hsz
  have hD := hD0.self (sz := s.heap.size)
  generalize hAe : va_A (wV M Y G0 S) s.heap.size = A at hD hE ⊢
  have hA : ∀ q : Nat, s.heap.size ≤ q → A q := fun q h => by rw [← hAe]; exact Or.inr h
  have hS : va_S A s.heap s.heap [] := va_S.rf
  have hP : va_P (dC, dI) classes (wV M Y G0 S) s.heap := hP
  have hK : va_K (dC, dI) classes (tV M) s := hK
  have hEw : ∀ (H : Heap) (locs : List Loc), va_S A s.heap H locs → ∀ U : State, U.heap = H → s.WarmedH U.vm → E A U := fun H locs hS U hU hW => X.kept A s U H locs hE hS hU hW
  have hl := lv_entry ([.ref M.o_Vt, .int p0, .int p1]) (n := 4) (Nat.le_of_ble_eq_true rfl)
  rw [lg_entry_eq]
  generalize (lg_sl ([.ref M.o_Vt, .int p0, .int p1]) ++ List.replicate (4 - (lg_sl ([.ref M.o_Vt, .int p0, .int p1])).length) Slot.unset).toArray = ls at hl ⊢
  have hl : lv_has ls 4 [(0, .ref M.o_Vt), (1, .int p0), (2, .int p1)] := hl
  refine qabs (fun Q hQ => ?_)
  have hB_30 : ∀ (Y : CT) (G : CG) (S : CS) (H : Heap) (locs : List Loc) (ls : Array Slot), f_Vt_cut_30 K G S = some (.ok r, G', S') → CG.le G0 G → va_P (dC, dI) classes (wV M Y G S) H → va_D A (wV M Y G S) → va_S A s.heap H locs → lv_has ls 4 [] → W p l e ({ frames := 8, cells := G'.gc - G0.gc, slots := G'.gs - G0.gs, locals := 224 }) s m ([.ref M.o_Vt, .int p0, .int p1] : List Value).toArray below meth c H locs (G.gc - G0.gc) (G.gs - G0.gs) Q (F0 m 30 ls []) := by
    intro Y G S H locs ls h m0 hP hD hS hl
    have mF := mo_Vt_cut_30 h
    rw [f_Vt_cut_30] at h
    exact lf_xe h
  have hB_13 : ∀ (y_2 : Int32) (z_0 : Int32) (Y : CT) (G : CG) (S : CS) (H : Heap) (locs : List Loc) (ls : Array Slot), f_Vt_cut_13 K y_2 z_0 G S = some (.ok r, G', S') → CG.le G0 G → va_P (dC, dI) classes (wV M Y G S) H → va_D A (wV M Y G S) → va_S A s.heap H locs → lv_has ls 4 [(0, .ref M.o_Vt), (2, .int y_2)] → W p l e ({ frames := 8, cells := G'.gc - G0.gc, slots := G'.gs - G0.gs, locals := 224 }) s m ([.ref M.o_Vt, .int p0, .int p1] : List Value).toArray below meth c H locs (G.gc - G0.gc) (G.gs - G0.gs) Q (F0 m 13 ls [.int z_0]) := by
    intro y_2 z_0 Y G S H locs ls h m0 hP hD hS hl
    have mF := mo_Vt_cut_13 h
    rw [f_Vt_cut_13] at h
    refine lv_istore_n (lv' := [(3, .int z_0), (0, .ref M.o_Vt), (2, .int y_2)]) hx hb d_Vt_cut_13 rfl hl (by decide) rfl (fun ls hl => ?_)
    refine lv_iload_n hx hb d_Vt_cut_14 rfl (lv_at hl 2 rfl) ?_
    refine lv_if_lt (tgt := 30) hx hb d_Vt_cut_15 (by decide) (fun c_4 => ?_) (fun c_4 => ?_)
    · have h := lf_t h c_4
      exact hB_30 Y G S _ _ _ h m0 hP hD hS (lv_sub hl [] rfl)
    · have h := lf_f h c_4
      refine lv_iload_n hx hb d_Vt_cut_18 rfl (lv_at hl 2 rfl) ?_
      refine lv_aload_n hx hb d_Vt_cut_19 rfl (lv_at hl 1 rfl) ?_
      refine va_get (D := (dC, dI)) (ci := 11) (v := .ref M.o_Tr) (C := R_Vt) (T := F_Vt) (N := 16) hx hb hts (fun w h => u_Vq_Vt w (i_Vt w h)) hown hK hP 0 rfl rfl 3 (by decide) (hts _ (u_Vq_Vt _ k_Vt_32)) (fun _ h9 => h9) rfl d_Vt_cut_20 ?_
      refine lv_iload_n hx hb d_Vt_cut_23 rfl (lv_at hl 0 rfl) ?_
      obtain ⟨r_5, S_5, hc_5, h⟩ := lf_cE h
      have hFc := lx_free hD hS hA
      refine va_calli (va_runV (As := [.int z_0]) (rest := [.int y_2]) ⟨hx, hb, hml, hown, hts⟩ (l_Tr_sizeOf l dC dI X _ hc_5) (cwV 1 hts (gwV good_Vq (u_Vq_Vt _ k_Vt_144) (u_Vq_Tr _ k_Tr_88) (u_Vq_Tr _ k_Tr_89) (u_Vq_Tr _ k_Tr_0) (wcs (u_Vq_Tr _ k_Tr_90) (fun _ h => h))) rfl rfl rfl (by decide +kernel) ⟨Nat.le_of_ble_eq_true rfl, Nat.le_of_ble_eq_true rfl⟩) (pv_ofE (X.same _) (fun U z1 z2 => X.mono _ _ U hFc (hEw _ _ hS U z1 z2)) hP hK hD (va_recv hK hP (ci := 5) (q0 := 4) rfl rfl)) rfl rfl hl.1 rfl (lv_room (Nat.le_of_ble_eq_true rfl)) d_Vt_cut_24 ⟨ly_c0 mF.1, ly_c0 mF.2⟩) hS (fun q _ h => hFc q h) hFc (fun r_ u t H locs ht hvm hw hB hz1 hk1 hS => ?_)
      rw [hw]
      obtain ⟨hP, -, hD⟩ := hB
      rw [ht] at hP
      have hD := lx_dj hD hFc
      refine lv_icmp_le (tgt := 41) hx hb d_Vt_cut_27 (by decide) (fun c_6 => ?_) (fun c_6 => ?_)
      · have h := lf_t h c_6
        refine lv_aload_n hx hb d_Vt_cut_41 rfl (lv_at hl 1 rfl) ?_
        obtain ⟨S_7, hc_7, h⟩ := lf_bE h
        have hFc := lx_free hD hS hA
        refine va_callv (va_runV (As := []) (rest := []) ⟨hx, hb, hml, hown, hts⟩ (l_Vt_changed l dC dI X _ hc_7) (cwV 0 hts (gwV good_Vq (u_Vq_Vt _ k_Vt_62) (u_Vq_Vt _ k_Vt_63) (u_Vq_Vt _ k_Vt_213) (u_Vq_Vt _ k_Vt_0) (wcs (u_Vq_Vt _ k_Vt_64) (fun _ h => h))) rfl rfl rfl (by decide +kernel) ⟨Nat.le_of_ble_eq_true rfl, Nat.le_of_ble_eq_true rfl⟩) (pv_ofE (X.same _) (fun U z1 z2 => X.mono _ _ U hFc (hEw _ _ hS U z1 z2)) hP hK hD (va_recv hK hP (ci := 11) (q0 := 0) rfl rfl)) rfl rfl hl.1 rfl (lv_room (Nat.le_of_ble_eq_true rfl)) d_Vt_cut_42 ⟨ly_c0 mF.1, ly_c0 mF.2⟩) hS (fun q _ h => hFc q h) hFc (fun u t H locs ht hvm hw hB hz1 hk1 hS => ?_)
        obtain ⟨hP, -, hD⟩ := hB
        rw [ht] at hP
        have hD := lx_dj hD hFc
        refine lv_aload_n hx hb d_Vt_cut_45 rfl (lv_at hl 1 rfl) ?_
        refine va_get (D := (dC, dI)) (ci := 11) (v := .ref M.o_Ed) (C := R_Vt) (T := F_Vt) (N := 16) hx hb hts (fun w h => u_Vq_Vt w (i_Vt w h)) hown hK hP 0 rfl rfl 5 (by decide) (hts _ (u_Vq_Vt _ k_Vt_34)) (fun _ h9 => h9) rfl d_Vt_cut_46 ?_
        refine lv_iload_n hx hb d_Vt_cut_49 rfl (lv_at hl 0 rfl) ?_
        refine lv_iload_n hx hb d_Vt_cut_50 rfl (lv_at hl 2 rfl) ?_
        obtain ⟨r_8, S_8, hc_8, h⟩ := lf_cE h
        have hFc := lx_free hD hS hA
        refine va_calli (va_runV (As := [.int z_0, .int y_2]) (rest := []) ⟨hx, hb, hml, hown, hts⟩ (l_Ed_shorten l dC dI X _ hc_8) (cwV 2 hts (gwV good_Vq (u_Vq_Vt _ k_Vt_197) (u_Vq_Ed _ k_Ed_119) (u_Vq_Ed _ k_Ed_120) (u_Vq_Ed _ k_Ed_0) (wcs (u_Vq_Ed _ k_Ed_121) (fun _ h => h))) rfl rfl rfl (by decide +kernel) ⟨Nat.le_of_ble_eq_true rfl, Nat.le_of_ble_eq_true rfl⟩) (pv_ofE (X.same _) (fun U z1 z2 => X.mono _ _ U hFc (hEw _ _ hS U z1 z2)) hP hK hD (va_recv hK hP (ci := 8) (q0 := 6) rfl rfl)) rfl rfl hl.1 rfl (lv_room (Nat.le_of_ble_eq_true rfl)) d_Vt_cut_51 ⟨ly_c0 mF.1, ly_c0 mF.2⟩) hS (fun q _ h => hFc q h) hFc (fun r_ u t H locs ht hvm hw hB hz1 hk1 hS => ?_)
        rw [hw]
        obtain ⟨hP, -, hD⟩ := hB
        rw [ht] at hP
        have hD := lx_dj hD hFc
        rw [hQ]
        have e1 : r_8 = r := Except.ok.inj (congrArg (fun z => z.1) (Option.some.inj h))
        have e2 : G = G' := congrArg (fun z => z.2.1) (Option.some.inj h)
        have e3 : S_8 = S' := congrArg (fun z => z.2.2) (Option.some.inj h)
        have hP := ly_newP3 e2.symm e3.symm hP
        have hD := ly_newD3 e2.symm e3.symm hD
        refine W.widen (k := G'.gc - G0.gc) (n := G'.gs - G0.gs) (ly_wc e2) (ly_ws e2) ?_
        exact W.iret (v := r_8) hx hb hr (fun t ht hW => ⟨⟨r_8, Y, rfl, e1, by rw [ht]; exact hP, va_K.moved hW.alike hK, hD⟩, hS.F ht⟩) hS.2.2 d_Vt_cut_54
      · have h := lf_f h c_6
        exact hB_30 Y G S_5 _ _ _ h m0 hP hD hS (lv_sub hl [] rfl)
  have hB_8 : ∀ (y_1 : Int32) (y_2 : Int32) (Y : CT) (G : CG) (S : CS) (H : Heap) (locs : List Loc) (ls : Array Slot), f_Vt_cut_8 K y_1 y_2 G S = some (.ok r, G', S') → CG.le G0 G → va_P (dC, dI) classes (wV M Y G S) H → va_D A (wV M Y G S) → va_S A s.heap H locs → lv_has ls 4 [(0, .ref M.o_Vt), (1, .int y_1), (2, .int y_2)] → W p l e ({ frames := 8, cells := G'.gc - G0.gc, slots := G'.gs - G0.gs, locals := 224 }) s m ([.ref M.o_Vt, .int p0, .int p1] : List Value).toArray below meth c H locs (G.gc - G0.gc) (G.gs - G0.gs) Q (F0 m 8 ls []) := by
    intro y_1 y_2 Y G S H locs ls h m0 hP hD hS hl
    have mF := mo_Vt_cut_8 h
    rw [f_Vt_cut_8] at h
    refine lv_aload_n hx hb d_Vt_cut_8 rfl (lv_at hl 0 rfl) ?_
    refine lv_iload_n hx hb d_Vt_cut_9 rfl (lv_at hl 1 rfl) ?_
    obtain ⟨r_3, G_3, S_3, hc_3, h⟩ := lf_aO h
    have mc := mo_Vt_fileHere hc_3
    have ml_3 := mo_Vt_fileHere hc_3
    have mF1 := mo_Vt_cut_13 h
    have hFc := lx_free hD hS hA
    refine va_calli (va_runV (As := [.int y_1]) (rest := []) ⟨hx, hb, hml, hown, hts⟩ (l_Vt_fileHere l dC dI X _ hc_3) (cwV 1 hts (gwV good_Vq (u_Vq_Vt _ k_Vt_179) (u_Vq_Vt _ k_Vt_180) (u_Vq_Vt _ k_Vt_219) (u_Vq_Vt _ k_Vt_0) (wcs (u_Vq_Vt _ k_Vt_181) (fun _ h => h))) rfl rfl rfl (by decide +kernel) ⟨Nat.le_of_ble_eq_true rfl, Nat.le_of_ble_eq_true rfl⟩) (pv_ofE (X.same _) (fun U z1 z2 => X.mono _ _ U hFc (hEw _ _ hS U z1 z2)) hP hK hD (va_recv hK hP (ci := 11) (q0 := 0) rfl rfl)) rfl rfl hl.1 rfl (lv_room (Nat.le_of_ble_eq_true rfl)) d_Vt_cut_10 ⟨ly_c1 m0.1 mc.1 mF1.1, ly_c1 m0.2 mc.2 mF1.2⟩) hS (fun q _ h => hFc q h) hFc (fun r_ Y_3 t H locs ht hvm hw hB hz1 hk1 hS => ?_)
    rw [hw]
    obtain ⟨hP, -, hD⟩ := hB
    rw [ht] at hP
    have hD := lx_dj hD hFc
    refine W.widen (k := G_3.gc - G0.gc) (n := G_3.gs - G0.gs) (ly_c2 m0.1 mc.1) (ly_c2 m0.2 mc.2) ?_
    have m0 := CG.le_tr m0 mc
    exact hB_13 y_2 r_3 Y_3 G_3 S_3 _ _ _ h m0 hP hD hS (lv_sub hl [0, 2] rfl)
  have hB_5 : ∀ (y_1 : Int32) (y_2 : Int32) (z_1 : Int32) (Y : CT) (G : CG) (S : CS) (H : Heap) (locs : List Loc) (ls : Array Slot), f_Vt_cut_5 K y_1 y_2 z_1 G S = some (.ok r, G', S') → CG.le G0 G → va_P (dC, dI) classes (wV M Y G S) H → va_D A (wV M Y G S) → va_S A s.heap H locs → lv_has ls 4 [(0, .ref M.o_Vt), (1, .int y_1), (2, .int y_2)] → W p l e ({ frames := 8, cells := G'.gc - G0.gc, slots := G'.gs - G0.gs, locals := 224 }) s m ([.ref M.o_Vt, .int p0, .int p1] : List Value).toArray below meth c H locs (G.gc - G0.gc) (G.gs - G0.gs) Q (F0 m 5 ls [.int z_1, .ref M.o_Vt]) := by
    intro y_1 y_2 z_1 Y G S H locs ls h m0 hP hD hS hl
    have mF := mo_Vt_cut_5 h
    rw [f_Vt_cut_5] at h
    obtain ⟨r_2, G_2, S_2, hc_2, h⟩ := lf_aO h
    have mc := mo_Vt_wantSoundTable hc_2
    have ml_2 := mo_Vt_wantSoundTable hc_2
    have mF1 := mo_Vt_cut_8 h
    have hFc := lx_free hD hS hA
    refine va_callv (va_runV (As := [.int z_1]) (rest := []) ⟨hx, hb, hml, hown, hts⟩ (l_Vt_wantSoundTable l dC dI X _ hc_2) (cwV 1 hts (gwV good_Vq (u_Vq_Vt _ k_Vt_166) (u_Vq_Vt _ k_Vt_167) (u_Vq_Vt _ k_Vt_216) (u_Vq_Vt _ k_Vt_0) (wcs (u_Vq_Vt _ k_Vt_168) (fun _ h => h))) rfl rfl rfl (by decide +kernel) ⟨Nat.le_of_ble_eq_true rfl, Nat.le_of_ble_eq_true rfl⟩) (pv_ofE (X.same _) (fun U z1 z2 => X.mono _ _ U hFc (hEw _ _ hS U z1 z2)) hP hK hD (va_recv hK hP (ci := 11) (q0 := 0) rfl rfl)) rfl rfl hl.1 rfl (lv_room (Nat.le_of_ble_eq_true rfl)) d_Vt_cut_5 ⟨ly_c1 m0.1 mc.1 mF1.1, ly_c1 m0.2 mc.2 mF1.2⟩) hS (fun q _ h => hFc q h) hFc (fun Y_2 t H locs ht hvm hw hB hz1 hk1 hS => ?_)
    obtain ⟨hP, -, hD⟩ := hB
    rw [ht] at hP
    have hD := lx_dj hD hFc
    refine W.widen (k := G_2.gc - G0.gc) (n := G_2.gs - G0.gs) (ly_c2 m0.1 mc.1) (ly_c2 m0.2 mc.2) ?_
    have m0 := CG.le_tr m0 mc
    exact hB_8 y_1 y_2 Y_2 G_2 S_2 _ _ _ h m0 hP hD hS (lv_sub hl [0, 1, 2] rfl)
  have m0 : CG.le G0 G0 := ⟨Nat.le_refl _, Nat.le_refl _⟩
  have mF := mo_Vt_cut h
  refine W.widen (k := G0.gc - G0.gc) (n := G0.gs - G0.gs) (Nat.zero_le _) (Nat.zero_le _) ?_
  rw [f_Vt_cut] at h
  refine lv_aload_n hx hb d_Vt_cut_0 rfl (lv_at hl 0 rfl) ?_
  refine lv_aload_n hx hb d_Vt_cut_1 rfl (lv_at hl 0 rfl) ?_
  obtain ⟨r_1, G_1, S_1, hc_1, h⟩ := lf_nE h
  have mc := mo_Vt_look hc_1
  have ml_1 := mo_Vt_look hc_1
  have mF1 := mo_Vt_cut_5 h
  have hFc := lx_free hD hS hA
  refine va_calli (va_runV (As := []) (rest := [.ref M.o_Vt]) ⟨hx, hb, hml, hown, hts⟩ (l_Vt_look l dC dI X _ hc_1) (cwV 0 hts (gwV good_Vq (u_Vq_Vt _ k_Vt_68) (u_Vq_Vt _ k_Vt_69) (u_Vq_Vt _ k_Vt_214) (u_Vq_Vt _ k_Vt_0) (wcs (u_Vq_Vt _ k_Vt_70) (fun _ h => h))) rfl rfl rfl (by decide +kernel) ⟨Nat.le_of_ble_eq_true rfl, Nat.le_of_ble_eq_true rfl⟩) (pv_ofE (X.same _) (fun U z1 z2 => X.mono _ _ U hFc (hEw _ _ hS U z1 z2)) hP hK hD (va_recv hK hP (ci := 11) (q0 := 0) rfl rfl)) rfl rfl hl.1 rfl (lv_room (Nat.le_of_ble_eq_true rfl)) d_Vt_cut_2 ⟨ly_c1 m0.1 mc.1 mF1.1, ly_c1 m0.2 mc.2 mF1.2⟩) hS (fun q _ h => hFc q h) hFc (fun r_ Y_1 t H locs ht hvm hw hB hz1 hk1 hS => ?_)
  rw [hw]
  obtain ⟨hP, -, hD⟩ := hB
  rw [ht] at hP
  have hD := lx_dj hD hFc
  refine W.widen (k := G_1.gc - G0.gc) (n := G_1.gs - G0.gs) (ly_c2 m0.1 mc.1) (ly_c2 m0.2 mc.2) ?_
  have m0 := CG.le_tr m0 mc
  exact hB_5 p0 p1 r_1 Y_1 G_1 S_1 _ _ _ h m0 hP hD hS (lv_sub hl [0, 1, 2] rfl)
set_option maxHeartbeats 4000000 in
set_option maxRecDepth 100000 in
theorem lt_Vt_cut_0 (l : Launch) (hfl : l.flags = pinnedFlags ++ [noTraceFlag]) (dC : Nat → ClassId) (dI : Nat → Nat → Nat) {K : Nat} {M : CA} {E : (Nat → Prop) → State → Prop} (X : ly_X l dC dI K M E) (sz : Nat) {Y : CT} {G0 G' : CG} {S S' : CS} {p0 : Int32} {p1 : Int32} (h : f_Vt_cut K G0 S p0 p1 = some (.error 0, G', S')) : MetX l y_Vt_cut (.code y_Vt_cut cb_Vt_cut 4 (some .int) :: V_Vq) ({ frames := 8, cells := G'.gc - G0.gc, slots := G'.gs - G0.gs, locals := 224 }) (va_Pc [.ref M.o_Vt, .int p0, .int p1] (fun U => U.heap.size = sz ∧ at_ (dC, dI) (fun _ => True) (wV M Y G0 S) (tV M) U ∧ E (va_A (wV M Y G0 S) sz) U)) (fun _ _ _ _ => False) (x_Q "java/lang/IllegalArgumentException" (va_A (wV M Y G0 S) sz) (fun t => ∃ u : CT, at_ (dC, dI) (va_A (wV M Y G0 S) sz) (wV M u G' S') (tV M) t)) (G'.gc - G0.gc) (G'.gs - G0.gs) (va_A (wV M Y G0 S) sz) := by
  refine MetX.ofW (cc := cb_Vt_cut) (maxL := 4) (ret := (some .int)) (by decide) rfl ?_
  intro p e s m args below meth c s₁ B hml hv
  obtain ⟨rfl, hsz, ⟨hP, hK, hD0⟩, hE⟩ := hv
  have hx := B.exec
  have hb := B.bytes
  have hr := B.returns
  have hts0 := atoms_spec (ws := .code y_Vt_cut cb_Vt_cut 4 (some .int) :: V_Vq) B.pre
  have hts : ∀ w ∈ V_Vq, w.before ([.ref M.o_Vt, .int p0, .int p1] : List Value).toArray s = true := fun w h => hts0 w (List.mem_cons_of_mem _ h)
  have hown : s.vm.findClass R_Vt = some m.cls := findClass_of_methodNamed B.named
  have hlocks := B.notSynchronized
  have hout := x_table B (hts0 _ List.mem_cons_self)
  subst hsz
  have hD := hD0.self (sz := s.heap.size)
  generalize hAe : va_A (wV M Y G0 S) s.heap.size = A at hD hE ⊢
  have hA : ∀ q : Nat, s.heap.size ≤ q → A q := fun q h => by rw [← hAe]; exact Or.inr h
  have hS : va_S A s.heap s.heap [] := va_S.rf
  have hP : va_P (dC, dI) classes (wV M Y G0 S) s.heap := hP
  have hK : va_K (dC, dI) classes (tV M) s := hK
  have hEw : ∀ (H : Heap) (locs : List Loc), va_S A s.heap H locs → ∀ U : State, U.heap = H → s.WarmedH U.vm → E A U := fun H locs hS U hU hW => X.kept A s U H locs hE hS hU hW
  have hl := lv_entry ([.ref M.o_Vt, .int p0, .int p1]) (n := 4) (Nat.le_of_ble_eq_true rfl)
  rw [lg_entry_eq]
  generalize (lg_sl ([.ref M.o_Vt, .int p0, .int p1]) ++ List.replicate (4 - (lg_sl ([.ref M.o_Vt, .int p0, .int p1])).length) Slot.unset).toArray = ls at hl ⊢
  have hl : lv_has ls 4 [(0, .ref M.o_Vt), (1, .int p0), (2, .int p1)] := hl
  refine qabs (fun Q hQ => ?_)
  have hB_30 : ∀ (Y : CT) (G : CG) (S : CS) (H : Heap) (locs : List Loc) (ls : Array Slot), f_Vt_cut_30 K G S = some (.error 0, G', S') → CG.le G0 G → va_P (dC, dI) classes (wV M Y G S) H → va_D A (wV M Y G S) → va_S A s.heap H locs → lv_has ls 4 [] → W p l e ({ frames := 8, cells := G'.gc - G0.gc, slots := G'.gs - G0.gs, locals := 224 }) s m ([.ref M.o_Vt, .int p0, .int p1] : List Value).toArray below meth c H locs (G.gc - G0.gc) (G.gs - G0.gs) Q (F0 m 30 ls []) := by
    intro Y G S H locs ls h m0 hP hD hS hl
    have mF := mo_Vt_cut_30 h
    rw [f_Vt_cut_30] at h
    rw [hQ]
    have e2 : G.made 1 6 = G' := congrArg (fun z => z.2.1) (Option.some.inj h)
    have e3 : S = S' := congrArg (fun z => z.2.2) (Option.some.inj h)
    have hP := ly_newP3 e2.symm e3.symm (ly_madeP (c := 1) (n := 6) hP)
    have hD := ly_newD3 e2.symm e3.symm (ly_madeD (c := 1) (n := 6) hD)
    refine W.mono (ly_mqx (fun t z => ⟨Y, z⟩)) ?_
    exact x_thrG (own := R_Vt) (cls := "java/lang/IllegalArgumentException") (ik := 133) (is := 273) (ic := 137) (k := 3) hx hb (Launch.traces_off hfl (Stand.of_body B).admits) hlocks hown (by decide) (fun T hT => (X.xt_273 _ _ (hEw _ _ hS (xs s T) hT (State.WarmedH.refl s))).1) (hts _ (u_Vq_Vt _ k_Vt_100)) (hts _ (u_Vq_Vt _ k_Vt_101)) (hts _ (u_Vq_Vt _ k_Vt_1)) (X.xt_273 _ _ hE).2 (hl.1.trans hml.symm) d_Vt_cut_30 d_Vt_cut_33 (Or.inr ⟨d_Vt_cut_34, rfl⟩) d_Vt_cut_37 d_Vt_cut_40 hout (Nat.le_of_ble_eq_true rfl) (Nat.le_of_ble_eq_true rfl) (ly_t1 e2 m0) (Nat.le_refl _) (ly_t2 e2 m0) (Nat.le_refl _) hP hK hD hS
  have hB_13 : ∀ (y_2 : Int32) (z_0 : Int32) (Y : CT) (G : CG) (S : CS) (H : Heap) (locs : List Loc) (ls : Array Slot), f_Vt_cut_13 K y_2 z_0 G S = some (.error 0, G', S') → CG.le G0 G → va_P (dC, dI) classes (wV M Y G S) H → va_D A (wV M Y G S) → va_S A s.heap H locs → lv_has ls 4 [(0, .ref M.o_Vt), (2, .int y_2)] → W p l e ({ frames := 8, cells := G'.gc - G0.gc, slots := G'.gs - G0.gs, locals := 224 }) s m ([.ref M.o_Vt, .int p0, .int p1] : List Value).toArray below meth c H locs (G.gc - G0.gc) (G.gs - G0.gs) Q (F0 m 13 ls [.int z_0]) := by
    intro y_2 z_0 Y G S H locs ls h m0 hP hD hS hl
    have mF := mo_Vt_cut_13 h
    rw [f_Vt_cut_13] at h
    refine lv_istore_n (lv' := [(3, .int z_0), (0, .ref M.o_Vt), (2, .int y_2)]) hx hb d_Vt_cut_13 rfl hl (by decide) rfl (fun ls hl => ?_)
    refine lv_iload_n hx hb d_Vt_cut_14 rfl (lv_at hl 2 rfl) ?_
    refine lv_if_lt (tgt := 30) hx hb d_Vt_cut_15 (by decide) (fun c_4 => ?_) (fun c_4 => ?_)
    · have h := lf_t h c_4
      exact hB_30 Y G S _ _ _ h m0 hP hD hS (lv_sub hl [] rfl)
    · have h := lf_f h c_4
      refine lv_iload_n hx hb d_Vt_cut_18 rfl (lv_at hl 2 rfl) ?_
      refine lv_aload_n hx hb d_Vt_cut_19 rfl (lv_at hl 1 rfl) ?_
      refine va_get (D := (dC, dI)) (ci := 11) (v := .ref M.o_Tr) (C := R_Vt) (T := F_Vt) (N := 16) hx hb hts (fun w h => u_Vq_Vt w (i_Vt w h)) hown hK hP 0 rfl rfl 3 (by decide) (hts _ (u_Vq_Vt _ k_Vt_32)) (fun _ h9 => h9) rfl d_Vt_cut_20 ?_
      refine lv_iload_n hx hb d_Vt_cut_23 rfl (lv_at hl 0 rfl) ?_
      obtain ⟨r_5, S_5, hc_5, h⟩ := lf_cE h
      have hFc := lx_free hD hS hA
      refine va_calli (va_runV (As := [.int z_0]) (rest := [.int y_2]) ⟨hx, hb, hml, hown, hts⟩ (l_Tr_sizeOf l dC dI X _ hc_5) (cwV 1 hts (gwV good_Vq (u_Vq_Vt _ k_Vt_144) (u_Vq_Tr _ k_Tr_88) (u_Vq_Tr _ k_Tr_89) (u_Vq_Tr _ k_Tr_0) (wcs (u_Vq_Tr _ k_Tr_90) (fun _ h => h))) rfl rfl rfl (by decide +kernel) ⟨Nat.le_of_ble_eq_true rfl, Nat.le_of_ble_eq_true rfl⟩) (pv_ofE (X.same _) (fun U z1 z2 => X.mono _ _ U hFc (hEw _ _ hS U z1 z2)) hP hK hD (va_recv hK hP (ci := 5) (q0 := 4) rfl rfl)) rfl rfl hl.1 rfl (lv_room (Nat.le_of_ble_eq_true rfl)) d_Vt_cut_24 ⟨ly_c0 mF.1, ly_c0 mF.2⟩) hS (fun q _ h => hFc q h) hFc (fun r_ u t H locs ht hvm hw hB hz1 hk1 hS => ?_)
      rw [hw]
      obtain ⟨hP, -, hD⟩ := hB
      rw [ht] at hP
      have hD := lx_dj hD hFc
      refine lv_icmp_le (tgt := 41) hx hb d_Vt_cut_27 (by decide) (fun c_6 => ?_) (fun c_6 => ?_)
      · have h := lf_t h c_6
        refine lv_aload_n hx hb d_Vt_cut_41 rfl (lv_at hl 1 rfl) ?_
        obtain ⟨S_7, hc_7, h⟩ := lf_bE h
        have hFc := lx_free hD hS hA
        refine va_callv (va_runV (As := []) (rest := []) ⟨hx, hb, hml, hown, hts⟩ (l_Vt_changed l dC dI X _ hc_7) (cwV 0 hts (gwV good_Vq (u_Vq_Vt _ k_Vt_62) (u_Vq_Vt _ k_Vt_63) (u_Vq_Vt _ k_Vt_213) (u_Vq_Vt _ k_Vt_0) (wcs (u_Vq_Vt _ k_Vt_64) (fun _ h => h))) rfl rfl rfl (by decide +kernel) ⟨Nat.le_of_ble_eq_true rfl, Nat.le_of_ble_eq_true rfl⟩) (pv_ofE (X.same _) (fun U z1 z2 => X.mono _ _ U hFc (hEw _ _ hS U z1 z2)) hP hK hD (va_recv hK hP (ci := 11) (q0 := 0) rfl rfl)) rfl rfl hl.1 rfl (lv_room (Nat.le_of_ble_eq_true rfl)) d_Vt_cut_42 ⟨ly_c0 mF.1, ly_c0 mF.2⟩) hS (fun q _ h => hFc q h) hFc (fun u t H locs ht hvm hw hB hz1 hk1 hS => ?_)
        obtain ⟨hP, -, hD⟩ := hB
        rw [ht] at hP
        have hD := lx_dj hD hFc
        refine lv_aload_n hx hb d_Vt_cut_45 rfl (lv_at hl 1 rfl) ?_
        refine va_get (D := (dC, dI)) (ci := 11) (v := .ref M.o_Ed) (C := R_Vt) (T := F_Vt) (N := 16) hx hb hts (fun w h => u_Vq_Vt w (i_Vt w h)) hown hK hP 0 rfl rfl 5 (by decide) (hts _ (u_Vq_Vt _ k_Vt_34)) (fun _ h9 => h9) rfl d_Vt_cut_46 ?_
        refine lv_iload_n hx hb d_Vt_cut_49 rfl (lv_at hl 0 rfl) ?_
        refine lv_iload_n hx hb d_Vt_cut_50 rfl (lv_at hl 2 rfl) ?_
        obtain ⟨r_8, S_8, hc_8, h⟩ := lf_cE h
        have hFc := lx_free hD hS hA
        refine va_calli (va_runV (As := [.int z_0, .int y_2]) (rest := []) ⟨hx, hb, hml, hown, hts⟩ (l_Ed_shorten l dC dI X _ hc_8) (cwV 2 hts (gwV good_Vq (u_Vq_Vt _ k_Vt_197) (u_Vq_Ed _ k_Ed_119) (u_Vq_Ed _ k_Ed_120) (u_Vq_Ed _ k_Ed_0) (wcs (u_Vq_Ed _ k_Ed_121) (fun _ h => h))) rfl rfl rfl (by decide +kernel) ⟨Nat.le_of_ble_eq_true rfl, Nat.le_of_ble_eq_true rfl⟩) (pv_ofE (X.same _) (fun U z1 z2 => X.mono _ _ U hFc (hEw _ _ hS U z1 z2)) hP hK hD (va_recv hK hP (ci := 8) (q0 := 6) rfl rfl)) rfl rfl hl.1 rfl (lv_room (Nat.le_of_ble_eq_true rfl)) d_Vt_cut_51 ⟨ly_c0 mF.1, ly_c0 mF.2⟩) hS (fun q _ h => hFc q h) hFc (fun r_ u t H locs ht hvm hw hB hz1 hk1 hS => ?_)
        rw [hw]
        obtain ⟨hP, -, hD⟩ := hB
        rw [ht] at hP
        have hD := lx_dj hD hFc
        exact lf_xo h
      · have h := lf_f h c_6
        exact hB_30 Y G S_5 _ _ _ h m0 hP hD hS (lv_sub hl [] rfl)
  have hB_8 : ∀ (y_1 : Int32) (y_2 : Int32) (Y : CT) (G : CG) (S : CS) (H : Heap) (locs : List Loc) (ls : Array Slot), f_Vt_cut_8 K y_1 y_2 G S = some (.error 0, G', S') → CG.le G0 G → va_P (dC, dI) classes (wV M Y G S) H → va_D A (wV M Y G S) → va_S A s.heap H locs → lv_has ls 4 [(0, .ref M.o_Vt), (1, .int y_1), (2, .int y_2)] → W p l e ({ frames := 8, cells := G'.gc - G0.gc, slots := G'.gs - G0.gs, locals := 224 }) s m ([.ref M.o_Vt, .int p0, .int p1] : List Value).toArray below meth c H locs (G.gc - G0.gc) (G.gs - G0.gs) Q (F0 m 8 ls []) := by
    intro y_1 y_2 Y G S H locs ls h m0 hP hD hS hl
    have mF := mo_Vt_cut_8 h
    rw [f_Vt_cut_8] at h
    refine lv_aload_n hx hb d_Vt_cut_8 rfl (lv_at hl 0 rfl) ?_
    refine lv_iload_n hx hb d_Vt_cut_9 rfl (lv_at hl 1 rfl) ?_
    rcases lf_aT h with ⟨r_3, G_3, S_3, hc_3, h⟩ | h9
    · have mc := mo_Vt_fileHere hc_3
      have ml_3 := mo_Vt_fileHere hc_3
      have mF1 := mo_Vt_cut_13 h
      have hFc := lx_free hD hS hA
      refine va_calli (va_runV (As := [.int y_1]) (rest := []) ⟨hx, hb, hml, hown, hts⟩ (l_Vt_fileHere l dC dI X _ hc_3) (cwV 1 hts (gwV good_Vq (u_Vq_Vt _ k_Vt_179) (u_Vq_Vt _ k_Vt_180) (u_Vq_Vt _ k_Vt_219) (u_Vq_Vt _ k_Vt_0) (wcs (u_Vq_Vt _ k_Vt_181) (fun _ h => h))) rfl rfl rfl (by decide +kernel) ⟨Nat.le_of_ble_eq_true rfl, Nat.le_of_ble_eq_true rfl⟩) (pv_ofE (X.same _) (fun U z1 z2 => X.mono _ _ U hFc (hEw _ _ hS U z1 z2)) hP hK hD (va_recv hK hP (ci := 11) (q0 := 0) rfl rfl)) rfl rfl hl.1 rfl (lv_room (Nat.le_of_ble_eq_true rfl)) d_Vt_cut_10 ⟨ly_c1 m0.1 mc.1 mF1.1, ly_c1 m0.2 mc.2 mF1.2⟩) hS (fun q _ h => hFc q h) hFc (fun r_ Y_3 t H locs ht hvm hw hB hz1 hk1 hS => ?_)
      rw [hw]
      obtain ⟨hP, -, hD⟩ := hB
      rw [ht] at hP
      have hD := lx_dj hD hFc
      refine W.widen (k := G_3.gc - G0.gc) (n := G_3.gs - G0.gs) (ly_c2 m0.1 mc.1) (ly_c2 m0.2 mc.2) ?_
      have m0 := CG.le_tr m0 mc
      exact hB_13 y_2 r_3 Y_3 G_3 S_3 _ _ _ h m0 hP hD hS (lv_sub hl [0, 2] rfl)
    · have mc := mo_Vt_fileHere h9
      have hFc := lx_free hD hS hA
      rw [hQ]
      exact x_outV (n := 1) (As := [.int y_1]) (rest := []) (b := M.o_Vt) (st0 := [.int y_1, .ref M.o_Vt]) ⟨hx, hb, hml, hown, hts⟩ (lt_Vt_fileHere_0 l hfl dC dI X _ h9) (cwV 1 hts (gwV good_Vq (u_Vq_Vt _ k_Vt_179) (u_Vq_Vt _ k_Vt_180) (u_Vq_Vt _ k_Vt_219) (u_Vq_Vt _ k_Vt_0) (wcs (u_Vq_Vt _ k_Vt_181) (fun _ h => h))) rfl rfl rfl (by decide +kernel) ⟨Nat.le_of_ble_eq_true rfl, Nat.le_of_ble_eq_true rfl⟩) (pv_ofE (X.same _) (fun U z1 z2 => X.mono _ _ U hFc (hEw _ _ hS U z1 z2)) hP hK hD (va_recv hK hP (ci := 11) (q0 := 0) rfl rfl)) rfl hl.1 rfl (Nat.le_of_ble_eq_true rfl) d_Vt_cut_10 ⟨ly_c2 m0.1 mc.1, ly_c2 m0.2 mc.2⟩ hlocks hout ⟨ly_c2 m0.1 mc.1, ly_c2 m0.2 mc.2⟩ (fun E st t U z1 z2 z3 z4 z5 => ly_outQ hS hK hFc z1 z3 z4 z5) ⟨hS.2.2, fun z h => hFc z h⟩
  have hB_5 : ∀ (y_1 : Int32) (y_2 : Int32) (z_1 : Int32) (Y : CT) (G : CG) (S : CS) (H : Heap) (locs : List Loc) (ls : Array Slot), f_Vt_cut_5 K y_1 y_2 z_1 G S = some (.error 0, G', S') → CG.le G0 G → va_P (dC, dI) classes (wV M Y G S) H → va_D A (wV M Y G S) → va_S A s.heap H locs → lv_has ls 4 [(0, .ref M.o_Vt), (1, .int y_1), (2, .int y_2)] → W p l e ({ frames := 8, cells := G'.gc - G0.gc, slots := G'.gs - G0.gs, locals := 224 }) s m ([.ref M.o_Vt, .int p0, .int p1] : List Value).toArray below meth c H locs (G.gc - G0.gc) (G.gs - G0.gs) Q (F0 m 5 ls [.int z_1, .ref M.o_Vt]) := by
    intro y_1 y_2 z_1 Y G S H locs ls h m0 hP hD hS hl
    have mF := mo_Vt_cut_5 h
    rw [f_Vt_cut_5] at h
    rcases lf_aT h with ⟨r_2, G_2, S_2, hc_2, h⟩ | h9
    · have mc := mo_Vt_wantSoundTable hc_2
      have ml_2 := mo_Vt_wantSoundTable hc_2
      have mF1 := mo_Vt_cut_8 h
      have hFc := lx_free hD hS hA
      refine va_callv (va_runV (As := [.int z_1]) (rest := []) ⟨hx, hb, hml, hown, hts⟩ (l_Vt_wantSoundTable l dC dI X _ hc_2) (cwV 1 hts (gwV good_Vq (u_Vq_Vt _ k_Vt_166) (u_Vq_Vt _ k_Vt_167) (u_Vq_Vt _ k_Vt_216) (u_Vq_Vt _ k_Vt_0) (wcs (u_Vq_Vt _ k_Vt_168) (fun _ h => h))) rfl rfl rfl (by decide +kernel) ⟨Nat.le_of_ble_eq_true rfl, Nat.le_of_ble_eq_true rfl⟩) (pv_ofE (X.same _) (fun U z1 z2 => X.mono _ _ U hFc (hEw _ _ hS U z1 z2)) hP hK hD (va_recv hK hP (ci := 11) (q0 := 0) rfl rfl)) rfl rfl hl.1 rfl (lv_room (Nat.le_of_ble_eq_true rfl)) d_Vt_cut_5 ⟨ly_c1 m0.1 mc.1 mF1.1, ly_c1 m0.2 mc.2 mF1.2⟩) hS (fun q _ h => hFc q h) hFc (fun Y_2 t H locs ht hvm hw hB hz1 hk1 hS => ?_)
      obtain ⟨hP, -, hD⟩ := hB
      rw [ht] at hP
      have hD := lx_dj hD hFc
      refine W.widen (k := G_2.gc - G0.gc) (n := G_2.gs - G0.gs) (ly_c2 m0.1 mc.1) (ly_c2 m0.2 mc.2) ?_
      have m0 := CG.le_tr m0 mc
      exact hB_8 y_1 y_2 Y_2 G_2 S_2 _ _ _ h m0 hP hD hS (lv_sub hl [0, 1, 2] rfl)
    · exact absurd (th_Vt_wantSoundTable h9) (by decide)
  have m0 : CG.le G0 G0 := ⟨Nat.le_refl _, Nat.le_refl _⟩
  have mF := mo_Vt_cut h
  refine W.widen (k := G0.gc - G0.gc) (n := G0.gs - G0.gs) (Nat.zero_le _) (Nat.zero_le _) ?_
  rw [f_Vt_cut] at h
  refine lv_aload_n hx hb d_Vt_cut_0 rfl (lv_at hl 0 rfl) ?_
  refine lv_aload_n hx hb d_Vt_cut_1 rfl (lv_at hl 0 rfl) ?_
  obtain ⟨r_1, G_1, S_1, hc_1, h⟩ := lf_nE h
  have mc := mo_Vt_look hc_1
  have ml_1 := mo_Vt_look hc_1
  have mF1 := mo_Vt_cut_5 h
  have hFc := lx_free hD hS hA
  refine va_calli (va_runV (As := []) (rest := [.ref M.o_Vt]) ⟨hx, hb, hml, hown, hts⟩ (l_Vt_look l dC dI X _ hc_1) (cwV 0 hts (gwV good_Vq (u_Vq_Vt _ k_Vt_68) (u_Vq_Vt _ k_Vt_69) (u_Vq_Vt _ k_Vt_214) (u_Vq_Vt _ k_Vt_0) (wcs (u_Vq_Vt _ k_Vt_70) (fun _ h => h))) rfl rfl rfl (by decide +kernel) ⟨Nat.le_of_ble_eq_true rfl, Nat.le_of_ble_eq_true rfl⟩) (pv_ofE (X.same _) (fun U z1 z2 => X.mono _ _ U hFc (hEw _ _ hS U z1 z2)) hP hK hD (va_recv hK hP (ci := 11) (q0 := 0) rfl rfl)) rfl rfl hl.1 rfl (lv_room (Nat.le_of_ble_eq_true rfl)) d_Vt_cut_2 ⟨ly_c1 m0.1 mc.1 mF1.1, ly_c1 m0.2 mc.2 mF1.2⟩) hS (fun q _ h => hFc q h) hFc (fun r_ Y_1 t H locs ht hvm hw hB hz1 hk1 hS => ?_)
  rw [hw]
  obtain ⟨hP, -, hD⟩ := hB
  rw [ht] at hP
  have hD := lx_dj hD hFc
  refine W.widen (k := G_1.gc - G0.gc) (n := G_1.gs - G0.gs) (ly_c2 m0.1 mc.1) (ly_c2 m0.2 mc.2) ?_
  have m0 := CG.le_tr m0 mc
  exact hB_5 p0 p1 r_1 Y_1 G_1 S_1 _ _ _ h m0 hP hD hS (lv_sub hl [0, 1, 2] rfl)
set_option maxHeartbeats 4000000 in
set_option maxRecDepth 100000 in
theorem lt_Vt_cut_1 (l : Launch) (hfl : l.flags = pinnedFlags ++ [noTraceFlag]) (dC : Nat → ClassId) (dI : Nat → Nat → Nat) {K : Nat} {M : CA} {E : (Nat → Prop) → State → Prop} (X : ly_X l dC dI K M E) (sz : Nat) {Y : CT} {G0 G' : CG} {S S' : CS} {p0 : Int32} {p1 : Int32} (h : f_Vt_cut K G0 S p0 p1 = some (.error 1, G', S')) : MetX l y_Vt_cut (.code y_Vt_cut cb_Vt_cut 4 (some .int) :: V_Vq) ({ frames := 8, cells := G'.gc - G0.gc, slots := G'.gs - G0.gs, locals := 224 }) (va_Pc [.ref M.o_Vt, .int p0, .int p1] (fun U => U.heap.size = sz ∧ at_ (dC, dI) (fun _ => True) (wV M Y G0 S) (tV M) U ∧ E (va_A (wV M Y G0 S) sz) U)) (fun _ _ _ _ => False) (x_Q "java/lang/IllegalStateException" (va_A (wV M Y G0 S) sz) (fun t => ∃ u : CT, at_ (dC, dI) (va_A (wV M Y G0 S) sz) (wV M u G' S') (tV M) t)) (G'.gc - G0.gc) (G'.gs - G0.gs) (va_A (wV M Y G0 S) sz) := by
  refine MetX.ofW (cc := cb_Vt_cut) (maxL := 4) (ret := (some .int)) (by decide) rfl ?_
  intro p e s m args below meth c s₁ B hml hv
  obtain ⟨rfl, hsz, ⟨hP, hK, hD0⟩, hE⟩ := hv
  have hx := B.exec
  have hb := B.bytes
  have hr := B.returns
  have hts0 := atoms_spec (ws := .code y_Vt_cut cb_Vt_cut 4 (some .int) :: V_Vq) B.pre
  have hts : ∀ w ∈ V_Vq, w.before ([.ref M.o_Vt, .int p0, .int p1] : List Value).toArray s = true := fun w h => hts0 w (List.mem_cons_of_mem _ h)
  have hown : s.vm.findClass R_Vt = some m.cls := findClass_of_methodNamed B.named
  have hlocks := B.notSynchronized
  have hout := x_table B (hts0 _ List.mem_cons_self)
  subst hsz
  have hD := hD0.self (sz := s.heap.size)
  generalize hAe : va_A (wV M Y G0 S) s.heap.size = A at hD hE ⊢
  have hA : ∀ q : Nat, s.heap.size ≤ q → A q := fun q h => by rw [← hAe]; exact Or.inr h
  have hS : va_S A s.heap s.heap [] := va_S.rf
  have hP : va_P (dC, dI) classes (wV M Y G0 S) s.heap := hP
  have hK : va_K (dC, dI) classes (tV M) s := hK
  have hEw : ∀ (H : Heap) (locs : List Loc), va_S A s.heap H locs → ∀ U : State, U.heap = H → s.WarmedH U.vm → E A U := fun H locs hS U hU hW => X.kept A s U H locs hE hS hU hW
  have hl := lv_entry ([.ref M.o_Vt, .int p0, .int p1]) (n := 4) (Nat.le_of_ble_eq_true rfl)
  rw [lg_entry_eq]
  generalize (lg_sl ([.ref M.o_Vt, .int p0, .int p1]) ++ List.replicate (4 - (lg_sl ([.ref M.o_Vt, .int p0, .int p1])).length) Slot.unset).toArray = ls at hl ⊢
  have hl : lv_has ls 4 [(0, .ref M.o_Vt), (1, .int p0), (2, .int p1)] := hl
  refine qabs (fun Q hQ => ?_)
  have hB_30 : ∀ (Y : CT) (G : CG) (S : CS) (H : Heap) (locs : List Loc) (ls : Array Slot), f_Vt_cut_30 K G S = some (.error 1, G', S') → CG.le G0 G → va_P (dC, dI) classes (wV M Y G S) H → va_D A (wV M Y G S) → va_S A s.heap H locs → lv_has ls 4 [] → W p l e ({ frames := 8, cells := G'.gc - G0.gc, slots := G'.gs - G0.gs, locals := 224 }) s m ([.ref M.o_Vt, .int p0, .int p1] : List Value).toArray below meth c H locs (G.gc - G0.gc) (G.gs - G0.gs) Q (F0 m 30 ls []) := by
    intro Y G S H locs ls h m0 hP hD hS hl
    have mF := mo_Vt_cut_30 h
    rw [f_Vt_cut_30] at h
    exact lf_xk h (by decide)
  have hB_13 : ∀ (y_2 : Int32) (z_0 : Int32) (Y : CT) (G : CG) (S : CS) (H : Heap) (locs : List Loc) (ls : Array Slot), f_Vt_cut_13 K y_2 z_0 G S = some (.error 1, G', S') → CG.le G0 G → va_P (dC, dI) classes (wV M Y G S) H → va_D A (wV M Y G S) → va_S A s.heap H locs → lv_has ls 4 [(0, .ref M.o_Vt), (2, .int y_2)] → W p l e ({ frames := 8, cells := G'.gc - G0.gc, slots := G'.gs - G0.gs, locals := 224 }) s m ([.ref M.o_Vt, .int p0, .int p1] : List Value).toArray below meth c H locs (G.gc - G0.gc) (G.gs - G0.gs) Q (F0 m 13 ls [.int z_0]) := by
    intro y_2 z_0 Y G S H locs ls h m0 hP hD hS hl
    have mF := mo_Vt_cut_13 h
    rw [f_Vt_cut_13] at h
    refine lv_istore_n (lv' := [(3, .int z_0), (0, .ref M.o_Vt), (2, .int y_2)]) hx hb d_Vt_cut_13 rfl hl (by decide) rfl (fun ls hl => ?_)
    refine lv_iload_n hx hb d_Vt_cut_14 rfl (lv_at hl 2 rfl) ?_
    refine lv_if_lt (tgt := 30) hx hb d_Vt_cut_15 (by decide) (fun c_4 => ?_) (fun c_4 => ?_)
    · have h := lf_t h c_4
      exact hB_30 Y G S _ _ _ h m0 hP hD hS (lv_sub hl [] rfl)
    · have h := lf_f h c_4
      refine lv_iload_n hx hb d_Vt_cut_18 rfl (lv_at hl 2 rfl) ?_
      refine lv_aload_n hx hb d_Vt_cut_19 rfl (lv_at hl 1 rfl) ?_
      refine va_get (D := (dC, dI)) (ci := 11) (v := .ref M.o_Tr) (C := R_Vt) (T := F_Vt) (N := 16) hx hb hts (fun w h => u_Vq_Vt w (i_Vt w h)) hown hK hP 0 rfl rfl 3 (by decide) (hts _ (u_Vq_Vt _ k_Vt_32)) (fun _ h9 => h9) rfl d_Vt_cut_20 ?_
      refine lv_iload_n hx hb d_Vt_cut_23 rfl (lv_at hl 0 rfl) ?_
      obtain ⟨r_5, S_5, hc_5, h⟩ := lf_cE h
      have hFc := lx_free hD hS hA
      refine va_calli (va_runV (As := [.int z_0]) (rest := [.int y_2]) ⟨hx, hb, hml, hown, hts⟩ (l_Tr_sizeOf l dC dI X _ hc_5) (cwV 1 hts (gwV good_Vq (u_Vq_Vt _ k_Vt_144) (u_Vq_Tr _ k_Tr_88) (u_Vq_Tr _ k_Tr_89) (u_Vq_Tr _ k_Tr_0) (wcs (u_Vq_Tr _ k_Tr_90) (fun _ h => h))) rfl rfl rfl (by decide +kernel) ⟨Nat.le_of_ble_eq_true rfl, Nat.le_of_ble_eq_true rfl⟩) (pv_ofE (X.same _) (fun U z1 z2 => X.mono _ _ U hFc (hEw _ _ hS U z1 z2)) hP hK hD (va_recv hK hP (ci := 5) (q0 := 4) rfl rfl)) rfl rfl hl.1 rfl (lv_room (Nat.le_of_ble_eq_true rfl)) d_Vt_cut_24 ⟨ly_c0 mF.1, ly_c0 mF.2⟩) hS (fun q _ h => hFc q h) hFc (fun r_ u t H locs ht hvm hw hB hz1 hk1 hS => ?_)
      rw [hw]
      obtain ⟨hP, -, hD⟩ := hB
      rw [ht] at hP
      have hD := lx_dj hD hFc
      refine lv_icmp_le (tgt := 41) hx hb d_Vt_cut_27 (by decide) (fun c_6 => ?_) (fun c_6 => ?_)
      · have h := lf_t h c_6
        refine lv_aload_n hx hb d_Vt_cut_41 rfl (lv_at hl 1 rfl) ?_
        obtain ⟨S_7, hc_7, h⟩ := lf_bE h
        have hFc := lx_free hD hS hA
        refine va_callv (va_runV (As := []) (rest := []) ⟨hx, hb, hml, hown, hts⟩ (l_Vt_changed l dC dI X _ hc_7) (cwV 0 hts (gwV good_Vq (u_Vq_Vt _ k_Vt_62) (u_Vq_Vt _ k_Vt_63) (u_Vq_Vt _ k_Vt_213) (u_Vq_Vt _ k_Vt_0) (wcs (u_Vq_Vt _ k_Vt_64) (fun _ h => h))) rfl rfl rfl (by decide +kernel) ⟨Nat.le_of_ble_eq_true rfl, Nat.le_of_ble_eq_true rfl⟩) (pv_ofE (X.same _) (fun U z1 z2 => X.mono _ _ U hFc (hEw _ _ hS U z1 z2)) hP hK hD (va_recv hK hP (ci := 11) (q0 := 0) rfl rfl)) rfl rfl hl.1 rfl (lv_room (Nat.le_of_ble_eq_true rfl)) d_Vt_cut_42 ⟨ly_c0 mF.1, ly_c0 mF.2⟩) hS (fun q _ h => hFc q h) hFc (fun u t H locs ht hvm hw hB hz1 hk1 hS => ?_)
        obtain ⟨hP, -, hD⟩ := hB
        rw [ht] at hP
        have hD := lx_dj hD hFc
        refine lv_aload_n hx hb d_Vt_cut_45 rfl (lv_at hl 1 rfl) ?_
        refine va_get (D := (dC, dI)) (ci := 11) (v := .ref M.o_Ed) (C := R_Vt) (T := F_Vt) (N := 16) hx hb hts (fun w h => u_Vq_Vt w (i_Vt w h)) hown hK hP 0 rfl rfl 5 (by decide) (hts _ (u_Vq_Vt _ k_Vt_34)) (fun _ h9 => h9) rfl d_Vt_cut_46 ?_
        refine lv_iload_n hx hb d_Vt_cut_49 rfl (lv_at hl 0 rfl) ?_
        refine lv_iload_n hx hb d_Vt_cut_50 rfl (lv_at hl 2 rfl) ?_
        obtain ⟨r_8, S_8, hc_8, h⟩ := lf_cE h
        have hFc := lx_free hD hS hA
        refine va_calli (va_runV (As := [.int z_0, .int y_2]) (rest := []) ⟨hx, hb, hml, hown, hts⟩ (l_Ed_shorten l dC dI X _ hc_8) (cwV 2 hts (gwV good_Vq (u_Vq_Vt _ k_Vt_197) (u_Vq_Ed _ k_Ed_119) (u_Vq_Ed _ k_Ed_120) (u_Vq_Ed _ k_Ed_0) (wcs (u_Vq_Ed _ k_Ed_121) (fun _ h => h))) rfl rfl rfl (by decide +kernel) ⟨Nat.le_of_ble_eq_true rfl, Nat.le_of_ble_eq_true rfl⟩) (pv_ofE (X.same _) (fun U z1 z2 => X.mono _ _ U hFc (hEw _ _ hS U z1 z2)) hP hK hD (va_recv hK hP (ci := 8) (q0 := 6) rfl rfl)) rfl rfl hl.1 rfl (lv_room (Nat.le_of_ble_eq_true rfl)) d_Vt_cut_51 ⟨ly_c0 mF.1, ly_c0 mF.2⟩) hS (fun q _ h => hFc q h) hFc (fun r_ u t H locs ht hvm hw hB hz1 hk1 hS => ?_)
        rw [hw]
        obtain ⟨hP, -, hD⟩ := hB
        rw [ht] at hP
        have hD := lx_dj hD hFc
        exact lf_xo h
      · have h := lf_f h c_6
        exact hB_30 Y G S_5 _ _ _ h m0 hP hD hS (lv_sub hl [] rfl)
  have hB_8 : ∀ (y_1 : Int32) (y_2 : Int32) (Y : CT) (G : CG) (S : CS) (H : Heap) (locs : List Loc) (ls : Array Slot), f_Vt_cut_8 K y_1 y_2 G S = some (.error 1, G', S') → CG.le G0 G → va_P (dC, dI) classes (wV M Y G S) H → va_D A (wV M Y G S) → va_S A s.heap H locs → lv_has ls 4 [(0, .ref M.o_Vt), (1, .int y_1), (2, .int y_2)] → W p l e ({ frames := 8, cells := G'.gc - G0.gc, slots := G'.gs - G0.gs, locals := 224 }) s m ([.ref M.o_Vt, .int p0, .int p1] : List Value).toArray below meth c H locs (G.gc - G0.gc) (G.gs - G0.gs) Q (F0 m 8 ls []) := by
    intro y_1 y_2 Y G S H locs ls h m0 hP hD hS hl
    have mF := mo_Vt_cut_8 h
    rw [f_Vt_cut_8] at h
    refine lv_aload_n hx hb d_Vt_cut_8 rfl (lv_at hl 0 rfl) ?_
    refine lv_iload_n hx hb d_Vt_cut_9 rfl (lv_at hl 1 rfl) ?_
    rcases lf_aT h with ⟨r_3, G_3, S_3, hc_3, h⟩ | h9
    · have mc := mo_Vt_fileHere hc_3
      have ml_3 := mo_Vt_fileHere hc_3
      have mF1 := mo_Vt_cut_13 h
      have hFc := lx_free hD hS hA
      refine va_calli (va_runV (As := [.int y_1]) (rest := []) ⟨hx, hb, hml, hown, hts⟩ (l_Vt_fileHere l dC dI X _ hc_3) (cwV 1 hts (gwV good_Vq (u_Vq_Vt _ k_Vt_179) (u_Vq_Vt _ k_Vt_180) (u_Vq_Vt _ k_Vt_219) (u_Vq_Vt _ k_Vt_0) (wcs (u_Vq_Vt _ k_Vt_181) (fun _ h => h))) rfl rfl rfl (by decide +kernel) ⟨Nat.le_of_ble_eq_true rfl, Nat.le_of_ble_eq_true rfl⟩) (pv_ofE (X.same _) (fun U z1 z2 => X.mono _ _ U hFc (hEw _ _ hS U z1 z2)) hP hK hD (va_recv hK hP (ci := 11) (q0 := 0) rfl rfl)) rfl rfl hl.1 rfl (lv_room (Nat.le_of_ble_eq_true rfl)) d_Vt_cut_10 ⟨ly_c1 m0.1 mc.1 mF1.1, ly_c1 m0.2 mc.2 mF1.2⟩) hS (fun q _ h => hFc q h) hFc (fun r_ Y_3 t H locs ht hvm hw hB hz1 hk1 hS => ?_)
      rw [hw]
      obtain ⟨hP, -, hD⟩ := hB
      rw [ht] at hP
      have hD := lx_dj hD hFc
      refine W.widen (k := G_3.gc - G0.gc) (n := G_3.gs - G0.gs) (ly_c2 m0.1 mc.1) (ly_c2 m0.2 mc.2) ?_
      have m0 := CG.le_tr m0 mc
      exact hB_13 y_2 r_3 Y_3 G_3 S_3 _ _ _ h m0 hP hD hS (lv_sub hl [0, 2] rfl)
    · exact absurd (th_Vt_fileHere h9) (by decide)
  have hB_5 : ∀ (y_1 : Int32) (y_2 : Int32) (z_1 : Int32) (Y : CT) (G : CG) (S : CS) (H : Heap) (locs : List Loc) (ls : Array Slot), f_Vt_cut_5 K y_1 y_2 z_1 G S = some (.error 1, G', S') → CG.le G0 G → va_P (dC, dI) classes (wV M Y G S) H → va_D A (wV M Y G S) → va_S A s.heap H locs → lv_has ls 4 [(0, .ref M.o_Vt), (1, .int y_1), (2, .int y_2)] → W p l e ({ frames := 8, cells := G'.gc - G0.gc, slots := G'.gs - G0.gs, locals := 224 }) s m ([.ref M.o_Vt, .int p0, .int p1] : List Value).toArray below meth c H locs (G.gc - G0.gc) (G.gs - G0.gs) Q (F0 m 5 ls [.int z_1, .ref M.o_Vt]) := by
    intro y_1 y_2 z_1 Y G S H locs ls h m0 hP hD hS hl
    have mF := mo_Vt_cut_5 h
    rw [f_Vt_cut_5] at h
    rcases lf_aT h with ⟨r_2, G_2, S_2, hc_2, h⟩ | h9
    · have mc := mo_Vt_wantSoundTable hc_2
      have ml_2 := mo_Vt_wantSoundTable hc_2
      have mF1 := mo_Vt_cut_8 h
      have hFc := lx_free hD hS hA
      refine va_callv (va_runV (As := [.int z_1]) (rest := []) ⟨hx, hb, hml, hown, hts⟩ (l_Vt_wantSoundTable l dC dI X _ hc_2) (cwV 1 hts (gwV good_Vq (u_Vq_Vt _ k_Vt_166) (u_Vq_Vt _ k_Vt_167) (u_Vq_Vt _ k_Vt_216) (u_Vq_Vt _ k_Vt_0) (wcs (u_Vq_Vt _ k_Vt_168) (fun _ h => h))) rfl rfl rfl (by decide +kernel) ⟨Nat.le_of_ble_eq_true rfl, Nat.le_of_ble_eq_true rfl⟩) (pv_ofE (X.same _) (fun U z1 z2 => X.mono _ _ U hFc (hEw _ _ hS U z1 z2)) hP hK hD (va_recv hK hP (ci := 11) (q0 := 0) rfl rfl)) rfl rfl hl.1 rfl (lv_room (Nat.le_of_ble_eq_true rfl)) d_Vt_cut_5 ⟨ly_c1 m0.1 mc.1 mF1.1, ly_c1 m0.2 mc.2 mF1.2⟩) hS (fun q _ h => hFc q h) hFc (fun Y_2 t H locs ht hvm hw hB hz1 hk1 hS => ?_)
      obtain ⟨hP, -, hD⟩ := hB
      rw [ht] at hP
      have hD := lx_dj hD hFc
      refine W.widen (k := G_2.gc - G0.gc) (n := G_2.gs - G0.gs) (ly_c2 m0.1 mc.1) (ly_c2 m0.2 mc.2) ?_
      have m0 := CG.le_tr m0 mc
      exact hB_8 y_1 y_2 Y_2 G_2 S_2 _ _ _ h m0 hP hD hS (lv_sub hl [0, 1, 2] rfl)
    · have mc := mo_Vt_wantSoundTable h9
      have hFc := lx_free hD hS hA
      rw [hQ]
      exact x_outV (n := 1) (As := [.int z_1]) (rest := []) (b := M.o_Vt) (st0 := [.int z_1, .ref M.o_Vt]) ⟨hx, hb, hml, hown, hts⟩ (lt_Vt_wantSoundTable_1 l hfl dC dI X _ h9) (cwV 1 hts (gwV good_Vq (u_Vq_Vt _ k_Vt_166) (u_Vq_Vt _ k_Vt_167) (u_Vq_Vt _ k_Vt_216) (u_Vq_Vt _ k_Vt_0) (wcs (u_Vq_Vt _ k_Vt_168) (fun _ h => h))) rfl rfl rfl (by decide +kernel) ⟨Nat.le_of_ble_eq_true rfl, Nat.le_of_ble_eq_true rfl⟩) (pv_ofE (X.same _) (fun U z1 z2 => X.mono _ _ U hFc (hEw _ _ hS U z1 z2)) hP hK hD (va_recv hK hP (ci := 11) (q0 := 0) rfl rfl)) rfl hl.1 rfl (Nat.le_of_ble_eq_true rfl) d_Vt_cut_5 ⟨ly_c2 m0.1 mc.1, ly_c2 m0.2 mc.2⟩ hlocks hout ⟨ly_c2 m0.1 mc.1, ly_c2 m0.2 mc.2⟩ (fun E st t U z1 z2 z3 z4 z5 => ly_outQ hS hK hFc z1 z3 z4 z5) ⟨hS.2.2, fun z h => hFc z h⟩
  have m0 : CG.le G0 G0 := ⟨Nat.le_refl _, Nat.le_refl _⟩
  have mF := mo_Vt_cut h
  refine W.widen (k := G0.gc - G0.gc) (n := G0.gs - G0.gs) (Nat.zero_le _) (Nat.zero_le _) ?_
  rw [f_Vt_cut] at h
  refine lv_aload_n hx hb d_Vt_cut_0 rfl (lv_at hl 0 rfl) ?_
  refine lv_aload_n hx hb d_Vt_cut_1 rfl (lv_at hl 0 rfl) ?_
  obtain ⟨r_1, G_1, S_1, hc_1, h⟩ := lf_nE h
  have mc := mo_Vt_look hc_1
  have ml_1 := mo_Vt_look hc_1
  have mF1 := mo_Vt_cut_5 h
  have hFc := lx_free hD hS hA
  refine va_calli (va_runV (As := []) (rest := [.ref M.o_Vt]) ⟨hx, hb, hml, hown, hts⟩ (l_Vt_look l dC dI X _ hc_1) (cwV 0 hts (gwV good_Vq (u_Vq_Vt _ k_Vt_68) (u_Vq_Vt _ k_Vt_69) (u_Vq_Vt _ k_Vt_214) (u_Vq_Vt _ k_Vt_0) (wcs (u_Vq_Vt _ k_Vt_70) (fun _ h => h))) rfl rfl rfl (by decide +kernel) ⟨Nat.le_of_ble_eq_true rfl, Nat.le_of_ble_eq_true rfl⟩) (pv_ofE (X.same _) (fun U z1 z2 => X.mono _ _ U hFc (hEw _ _ hS U z1 z2)) hP hK hD (va_recv hK hP (ci := 11) (q0 := 0) rfl rfl)) rfl rfl hl.1 rfl (lv_room (Nat.le_of_ble_eq_true rfl)) d_Vt_cut_2 ⟨ly_c1 m0.1 mc.1 mF1.1, ly_c1 m0.2 mc.2 mF1.2⟩) hS (fun q _ h => hFc q h) hFc (fun r_ Y_1 t H locs ht hvm hw hB hz1 hk1 hS => ?_)
  rw [hw]
  obtain ⟨hP, -, hD⟩ := hB
  rw [ht] at hP
  have hD := lx_dj hD hFc
  refine W.widen (k := G_1.gc - G0.gc) (n := G_1.gs - G0.gs) (ly_c2 m0.1 mc.1) (ly_c2 m0.2 mc.2) ?_
  have m0 := CG.le_tr m0 mc
  exact hB_5 p0 p1 r_1 Y_1 G_1 S_1 _ _ _ h m0 hP hD hS (lv_sub hl [0, 1, 2] rfl)
set_option maxHeartbeats 4000000 in
set_option maxRecDepth 100000 in
theorem lt_Vt_cut_2 (l : Launch) (hfl : l.flags = pinnedFlags ++ [noTraceFlag]) (dC : Nat → ClassId) (dI : Nat → Nat → Nat) {K : Nat} {M : CA} {E : (Nat → Prop) → State → Prop} (X : ly_X l dC dI K M E) (sz : Nat) {Y : CT} {G0 G' : CG} {S S' : CS} {p0 : Int32} {p1 : Int32} (h : f_Vt_cut K G0 S p0 p1 = some (.error 2, G', S')) : MetX l y_Vt_cut (.code y_Vt_cut cb_Vt_cut 4 (some .int) :: V_Vq) ({ frames := 8, cells := G'.gc - G0.gc, slots := G'.gs - G0.gs, locals := 224 }) (va_Pc [.ref M.o_Vt, .int p0, .int p1] (fun U => U.heap.size = sz ∧ at_ (dC, dI) (fun _ => True) (wV M Y G0 S) (tV M) U ∧ E (va_A (wV M Y G0 S) sz) U)) (fun _ _ _ _ => False) (x_Q "java/lang/IndexOutOfBoundsException" (va_A (wV M Y G0 S) sz) (fun t => ∃ u : CT, at_ (dC, dI) (va_A (wV M Y G0 S) sz) (wV M u G' S') (tV M) t)) (G'.gc - G0.gc) (G'.gs - G0.gs) (va_A (wV M Y G0 S) sz) := by
  refine MetX.ofW (cc := cb_Vt_cut) (maxL := 4) (ret := (some .int)) (by decide) rfl ?_
  intro p e s m args below meth c s₁ B hml hv
  obtain ⟨rfl, hsz, ⟨hP, hK, hD0⟩, hE⟩ := hv
  have hx := B.exec
  have hb := B.bytes
  have hr := B.returns
  have hts0 := atoms_spec (ws := .code y_Vt_cut cb_Vt_cut 4 (some .int) :: V_Vq) B.pre
  have hts : ∀ w ∈ V_Vq, w.before ([.ref M.o_Vt, .int p0, .int p1] : List Value).toArray s = true := fun w h => hts0 w (List.mem_cons_of_mem _ h)
  have hown : s.vm.findClass R_Vt = some m.cls := findClass_of_methodNamed B.named
  have hlocks := B.notSynchronized
  have hout := x_table B (hts0 _ List.mem_cons_self)
  subst hsz
  have hD := hD0.self (sz := s.heap.size)
  generalize hAe : va_A (wV M Y G0 S) s.heap.size = A at hD hE ⊢
  have hA : ∀ q : Nat, s.heap.size ≤ q → A q := fun q h => by rw [← hAe]; exact Or.inr h
  have hS : va_S A s.heap s.heap [] := va_S.rf
  have hP : va_P (dC, dI) classes (wV M Y G0 S) s.heap := hP
  have hK : va_K (dC, dI) classes (tV M) s := hK
  have hEw : ∀ (H : Heap) (locs : List Loc), va_S A s.heap H locs → ∀ U : State, U.heap = H → s.WarmedH U.vm → E A U := fun H locs hS U hU hW => X.kept A s U H locs hE hS hU hW
  have hl := lv_entry ([.ref M.o_Vt, .int p0, .int p1]) (n := 4) (Nat.le_of_ble_eq_true rfl)
  rw [lg_entry_eq]
  generalize (lg_sl ([.ref M.o_Vt, .int p0, .int p1]) ++ List.replicate (4 - (lg_sl ([.ref M.o_Vt, .int p0, .int p1])).length) Slot.unset).toArray = ls at hl ⊢
  have hl : lv_has ls 4 [(0, .ref M.o_Vt), (1, .int p0), (2, .int p1)] := hl
  refine qabs (fun Q hQ => ?_)
  have hB_30 : ∀ (Y : CT) (G : CG) (S : CS) (H : Heap) (locs : List Loc) (ls : Array Slot), f_Vt_cut_30 K G S = some (.error 2, G', S') → CG.le G0 G → va_P (dC, dI) classes (wV M Y G S) H → va_D A (wV M Y G S) → va_S A s.heap H locs → lv_has ls 4 [] → W p l e ({ frames := 8, cells := G'.gc - G0.gc, slots := G'.gs - G0.gs, locals := 224 }) s m ([.ref M.o_Vt, .int p0, .int p1] : List Value).toArray below meth c H locs (G.gc - G0.gc) (G.gs - G0.gs) Q (F0 m 30 ls []) := by
    intro Y G S H locs ls h m0 hP hD hS hl
    have mF := mo_Vt_cut_30 h
    rw [f_Vt_cut_30] at h
    exact lf_xk h (by decide)
  have hB_13 : ∀ (y_2 : Int32) (z_0 : Int32) (Y : CT) (G : CG) (S : CS) (H : Heap) (locs : List Loc) (ls : Array Slot), f_Vt_cut_13 K y_2 z_0 G S = some (.error 2, G', S') → CG.le G0 G → va_P (dC, dI) classes (wV M Y G S) H → va_D A (wV M Y G S) → va_S A s.heap H locs → lv_has ls 4 [(0, .ref M.o_Vt), (2, .int y_2)] → W p l e ({ frames := 8, cells := G'.gc - G0.gc, slots := G'.gs - G0.gs, locals := 224 }) s m ([.ref M.o_Vt, .int p0, .int p1] : List Value).toArray below meth c H locs (G.gc - G0.gc) (G.gs - G0.gs) Q (F0 m 13 ls [.int z_0]) := by
    intro y_2 z_0 Y G S H locs ls h m0 hP hD hS hl
    have mF := mo_Vt_cut_13 h
    rw [f_Vt_cut_13] at h
    refine lv_istore_n (lv' := [(3, .int z_0), (0, .ref M.o_Vt), (2, .int y_2)]) hx hb d_Vt_cut_13 rfl hl (by decide) rfl (fun ls hl => ?_)
    refine lv_iload_n hx hb d_Vt_cut_14 rfl (lv_at hl 2 rfl) ?_
    refine lv_if_lt (tgt := 30) hx hb d_Vt_cut_15 (by decide) (fun c_4 => ?_) (fun c_4 => ?_)
    · have h := lf_t h c_4
      exact hB_30 Y G S _ _ _ h m0 hP hD hS (lv_sub hl [] rfl)
    · have h := lf_f h c_4
      refine lv_iload_n hx hb d_Vt_cut_18 rfl (lv_at hl 2 rfl) ?_
      refine lv_aload_n hx hb d_Vt_cut_19 rfl (lv_at hl 1 rfl) ?_
      refine va_get (D := (dC, dI)) (ci := 11) (v := .ref M.o_Tr) (C := R_Vt) (T := F_Vt) (N := 16) hx hb hts (fun w h => u_Vq_Vt w (i_Vt w h)) hown hK hP 0 rfl rfl 3 (by decide) (hts _ (u_Vq_Vt _ k_Vt_32)) (fun _ h9 => h9) rfl d_Vt_cut_20 ?_
      refine lv_iload_n hx hb d_Vt_cut_23 rfl (lv_at hl 0 rfl) ?_
      obtain ⟨r_5, S_5, hc_5, h⟩ := lf_cE h
      have hFc := lx_free hD hS hA
      refine va_calli (va_runV (As := [.int z_0]) (rest := [.int y_2]) ⟨hx, hb, hml, hown, hts⟩ (l_Tr_sizeOf l dC dI X _ hc_5) (cwV 1 hts (gwV good_Vq (u_Vq_Vt _ k_Vt_144) (u_Vq_Tr _ k_Tr_88) (u_Vq_Tr _ k_Tr_89) (u_Vq_Tr _ k_Tr_0) (wcs (u_Vq_Tr _ k_Tr_90) (fun _ h => h))) rfl rfl rfl (by decide +kernel) ⟨Nat.le_of_ble_eq_true rfl, Nat.le_of_ble_eq_true rfl⟩) (pv_ofE (X.same _) (fun U z1 z2 => X.mono _ _ U hFc (hEw _ _ hS U z1 z2)) hP hK hD (va_recv hK hP (ci := 5) (q0 := 4) rfl rfl)) rfl rfl hl.1 rfl (lv_room (Nat.le_of_ble_eq_true rfl)) d_Vt_cut_24 ⟨ly_c0 mF.1, ly_c0 mF.2⟩) hS (fun q _ h => hFc q h) hFc (fun r_ u t H locs ht hvm hw hB hz1 hk1 hS => ?_)
      rw [hw]
      obtain ⟨hP, -, hD⟩ := hB
      rw [ht] at hP
      have hD := lx_dj hD hFc
      refine lv_icmp_le (tgt := 41) hx hb d_Vt_cut_27 (by decide) (fun c_6 => ?_) (fun c_6 => ?_)
      · have h := lf_t h c_6
        refine lv_aload_n hx hb d_Vt_cut_41 rfl (lv_at hl 1 rfl) ?_
        obtain ⟨S_7, hc_7, h⟩ := lf_bE h
        have hFc := lx_free hD hS hA
        refine va_callv (va_runV (As := []) (rest := []) ⟨hx, hb, hml, hown, hts⟩ (l_Vt_changed l dC dI X _ hc_7) (cwV 0 hts (gwV good_Vq (u_Vq_Vt _ k_Vt_62) (u_Vq_Vt _ k_Vt_63) (u_Vq_Vt _ k_Vt_213) (u_Vq_Vt _ k_Vt_0) (wcs (u_Vq_Vt _ k_Vt_64) (fun _ h => h))) rfl rfl rfl (by decide +kernel) ⟨Nat.le_of_ble_eq_true rfl, Nat.le_of_ble_eq_true rfl⟩) (pv_ofE (X.same _) (fun U z1 z2 => X.mono _ _ U hFc (hEw _ _ hS U z1 z2)) hP hK hD (va_recv hK hP (ci := 11) (q0 := 0) rfl rfl)) rfl rfl hl.1 rfl (lv_room (Nat.le_of_ble_eq_true rfl)) d_Vt_cut_42 ⟨ly_c0 mF.1, ly_c0 mF.2⟩) hS (fun q _ h => hFc q h) hFc (fun u t H locs ht hvm hw hB hz1 hk1 hS => ?_)
        obtain ⟨hP, -, hD⟩ := hB
        rw [ht] at hP
        have hD := lx_dj hD hFc
        refine lv_aload_n hx hb d_Vt_cut_45 rfl (lv_at hl 1 rfl) ?_
        refine va_get (D := (dC, dI)) (ci := 11) (v := .ref M.o_Ed) (C := R_Vt) (T := F_Vt) (N := 16) hx hb hts (fun w h => u_Vq_Vt w (i_Vt w h)) hown hK hP 0 rfl rfl 5 (by decide) (hts _ (u_Vq_Vt _ k_Vt_34)) (fun _ h9 => h9) rfl d_Vt_cut_46 ?_
        refine lv_iload_n hx hb d_Vt_cut_49 rfl (lv_at hl 0 rfl) ?_
        refine lv_iload_n hx hb d_Vt_cut_50 rfl (lv_at hl 2 rfl) ?_
        obtain ⟨r_8, S_8, hc_8, h⟩ := lf_cE h
        have hFc := lx_free hD hS hA
        refine va_calli (va_runV (As := [.int z_0, .int y_2]) (rest := []) ⟨hx, hb, hml, hown, hts⟩ (l_Ed_shorten l dC dI X _ hc_8) (cwV 2 hts (gwV good_Vq (u_Vq_Vt _ k_Vt_197) (u_Vq_Ed _ k_Ed_119) (u_Vq_Ed _ k_Ed_120) (u_Vq_Ed _ k_Ed_0) (wcs (u_Vq_Ed _ k_Ed_121) (fun _ h => h))) rfl rfl rfl (by decide +kernel) ⟨Nat.le_of_ble_eq_true rfl, Nat.le_of_ble_eq_true rfl⟩) (pv_ofE (X.same _) (fun U z1 z2 => X.mono _ _ U hFc (hEw _ _ hS U z1 z2)) hP hK hD (va_recv hK hP (ci := 8) (q0 := 6) rfl rfl)) rfl rfl hl.1 rfl (lv_room (Nat.le_of_ble_eq_true rfl)) d_Vt_cut_51 ⟨ly_c0 mF.1, ly_c0 mF.2⟩) hS (fun q _ h => hFc q h) hFc (fun r_ u t H locs ht hvm hw hB hz1 hk1 hS => ?_)
        rw [hw]
        obtain ⟨hP, -, hD⟩ := hB
        rw [ht] at hP
        have hD := lx_dj hD hFc
        exact lf_xo h
      · have h := lf_f h c_6
        exact hB_30 Y G S_5 _ _ _ h m0 hP hD hS (lv_sub hl [] rfl)
  have hB_8 : ∀ (y_1 : Int32) (y_2 : Int32) (Y : CT) (G : CG) (S : CS) (H : Heap) (locs : List Loc) (ls : Array Slot), f_Vt_cut_8 K y_1 y_2 G S = some (.error 2, G', S') → CG.le G0 G → va_P (dC, dI) classes (wV M Y G S) H → va_D A (wV M Y G S) → va_S A s.heap H locs → lv_has ls 4 [(0, .ref M.o_Vt), (1, .int y_1), (2, .int y_2)] → W p l e ({ frames := 8, cells := G'.gc - G0.gc, slots := G'.gs - G0.gs, locals := 224 }) s m ([.ref M.o_Vt, .int p0, .int p1] : List Value).toArray below meth c H locs (G.gc - G0.gc) (G.gs - G0.gs) Q (F0 m 8 ls []) := by
    intro y_1 y_2 Y G S H locs ls h m0 hP hD hS hl
    have mF := mo_Vt_cut_8 h
    rw [f_Vt_cut_8] at h
    refine lv_aload_n hx hb d_Vt_cut_8 rfl (lv_at hl 0 rfl) ?_
    refine lv_iload_n hx hb d_Vt_cut_9 rfl (lv_at hl 1 rfl) ?_
    rcases lf_aT h with ⟨r_3, G_3, S_3, hc_3, h⟩ | h9
    · have mc := mo_Vt_fileHere hc_3
      have ml_3 := mo_Vt_fileHere hc_3
      have mF1 := mo_Vt_cut_13 h
      have hFc := lx_free hD hS hA
      refine va_calli (va_runV (As := [.int y_1]) (rest := []) ⟨hx, hb, hml, hown, hts⟩ (l_Vt_fileHere l dC dI X _ hc_3) (cwV 1 hts (gwV good_Vq (u_Vq_Vt _ k_Vt_179) (u_Vq_Vt _ k_Vt_180) (u_Vq_Vt _ k_Vt_219) (u_Vq_Vt _ k_Vt_0) (wcs (u_Vq_Vt _ k_Vt_181) (fun _ h => h))) rfl rfl rfl (by decide +kernel) ⟨Nat.le_of_ble_eq_true rfl, Nat.le_of_ble_eq_true rfl⟩) (pv_ofE (X.same _) (fun U z1 z2 => X.mono _ _ U hFc (hEw _ _ hS U z1 z2)) hP hK hD (va_recv hK hP (ci := 11) (q0 := 0) rfl rfl)) rfl rfl hl.1 rfl (lv_room (Nat.le_of_ble_eq_true rfl)) d_Vt_cut_10 ⟨ly_c1 m0.1 mc.1 mF1.1, ly_c1 m0.2 mc.2 mF1.2⟩) hS (fun q _ h => hFc q h) hFc (fun r_ Y_3 t H locs ht hvm hw hB hz1 hk1 hS => ?_)
      rw [hw]
      obtain ⟨hP, -, hD⟩ := hB
      rw [ht] at hP
      have hD := lx_dj hD hFc
      refine W.widen (k := G_3.gc - G0.gc) (n := G_3.gs - G0.gs) (ly_c2 m0.1 mc.1) (ly_c2 m0.2 mc.2) ?_
      have m0 := CG.le_tr m0 mc
      exact hB_13 y_2 r_3 Y_3 G_3 S_3 _ _ _ h m0 hP hD hS (lv_sub hl [0, 2] rfl)
    · have mc := mo_Vt_fileHere h9
      have hFc := lx_free hD hS hA
      rw [hQ]
      exact x_outV (n := 1) (As := [.int y_1]) (rest := []) (b := M.o_Vt) (st0 := [.int y_1, .ref M.o_Vt]) ⟨hx, hb, hml, hown, hts⟩ (lt_Vt_fileHere_2 l hfl dC dI X _ h9) (cwV 1 hts (gwV good_Vq (u_Vq_Vt _ k_Vt_179) (u_Vq_Vt _ k_Vt_180) (u_Vq_Vt _ k_Vt_219) (u_Vq_Vt _ k_Vt_0) (wcs (u_Vq_Vt _ k_Vt_181) (fun _ h => h))) rfl rfl rfl (by decide +kernel) ⟨Nat.le_of_ble_eq_true rfl, Nat.le_of_ble_eq_true rfl⟩) (pv_ofE (X.same _) (fun U z1 z2 => X.mono _ _ U hFc (hEw _ _ hS U z1 z2)) hP hK hD (va_recv hK hP (ci := 11) (q0 := 0) rfl rfl)) rfl hl.1 rfl (Nat.le_of_ble_eq_true rfl) d_Vt_cut_10 ⟨ly_c2 m0.1 mc.1, ly_c2 m0.2 mc.2⟩ hlocks hout ⟨ly_c2 m0.1 mc.1, ly_c2 m0.2 mc.2⟩ (fun E st t U z1 z2 z3 z4 z5 => ly_outQ hS hK hFc z1 z3 z4 z5) ⟨hS.2.2, fun z h => hFc z h⟩
  have hB_5 : ∀ (y_1 : Int32) (y_2 : Int32) (z_1 : Int32) (Y : CT) (G : CG) (S : CS) (H : Heap) (locs : List Loc) (ls : Array Slot), f_Vt_cut_5 K y_1 y_2 z_1 G S = some (.error 2, G', S') → CG.le G0 G → va_P (dC, dI) classes (wV M Y G S) H → va_D A (wV M Y G S) → va_S A s.heap H locs → lv_has ls 4 [(0, .ref M.o_Vt), (1, .int y_1), (2, .int y_2)] → W p l e ({ frames := 8, cells := G'.gc - G0.gc, slots := G'.gs - G0.gs, locals := 224 }) s m ([.ref M.o_Vt, .int p0, .int p1] : List Value).toArray below meth c H locs (G.gc - G0.gc) (G.gs - G0.gs) Q (F0 m 5 ls [.int z_1, .ref M.o_Vt]) := by
    intro y_1 y_2 z_1 Y G S H locs ls h m0 hP hD hS hl
    have mF := mo_Vt_cut_5 h
    rw [f_Vt_cut_5] at h
    rcases lf_aT h with ⟨r_2, G_2, S_2, hc_2, h⟩ | h9
    · have mc := mo_Vt_wantSoundTable hc_2
      have ml_2 := mo_Vt_wantSoundTable hc_2
      have mF1 := mo_Vt_cut_8 h
      have hFc := lx_free hD hS hA
      refine va_callv (va_runV (As := [.int z_1]) (rest := []) ⟨hx, hb, hml, hown, hts⟩ (l_Vt_wantSoundTable l dC dI X _ hc_2) (cwV 1 hts (gwV good_Vq (u_Vq_Vt _ k_Vt_166) (u_Vq_Vt _ k_Vt_167) (u_Vq_Vt _ k_Vt_216) (u_Vq_Vt _ k_Vt_0) (wcs (u_Vq_Vt _ k_Vt_168) (fun _ h => h))) rfl rfl rfl (by decide +kernel) ⟨Nat.le_of_ble_eq_true rfl, Nat.le_of_ble_eq_true rfl⟩) (pv_ofE (X.same _) (fun U z1 z2 => X.mono _ _ U hFc (hEw _ _ hS U z1 z2)) hP hK hD (va_recv hK hP (ci := 11) (q0 := 0) rfl rfl)) rfl rfl hl.1 rfl (lv_room (Nat.le_of_ble_eq_true rfl)) d_Vt_cut_5 ⟨ly_c1 m0.1 mc.1 mF1.1, ly_c1 m0.2 mc.2 mF1.2⟩) hS (fun q _ h => hFc q h) hFc (fun Y_2 t H locs ht hvm hw hB hz1 hk1 hS => ?_)
      obtain ⟨hP, -, hD⟩ := hB
      rw [ht] at hP
      have hD := lx_dj hD hFc
      refine W.widen (k := G_2.gc - G0.gc) (n := G_2.gs - G0.gs) (ly_c2 m0.1 mc.1) (ly_c2 m0.2 mc.2) ?_
      have m0 := CG.le_tr m0 mc
      exact hB_8 y_1 y_2 Y_2 G_2 S_2 _ _ _ h m0 hP hD hS (lv_sub hl [0, 1, 2] rfl)
    · exact absurd (th_Vt_wantSoundTable h9) (by decide)
  have m0 : CG.le G0 G0 := ⟨Nat.le_refl _, Nat.le_refl _⟩
  have mF := mo_Vt_cut h
  refine W.widen (k := G0.gc - G0.gc) (n := G0.gs - G0.gs) (Nat.zero_le _) (Nat.zero_le _) ?_
  rw [f_Vt_cut] at h
  refine lv_aload_n hx hb d_Vt_cut_0 rfl (lv_at hl 0 rfl) ?_
  refine lv_aload_n hx hb d_Vt_cut_1 rfl (lv_at hl 0 rfl) ?_
  obtain ⟨r_1, G_1, S_1, hc_1, h⟩ := lf_nE h
  have mc := mo_Vt_look hc_1
  have ml_1 := mo_Vt_look hc_1
  have mF1 := mo_Vt_cut_5 h
  have hFc := lx_free hD hS hA
  refine va_calli (va_runV (As := []) (rest := [.ref M.o_Vt]) ⟨hx, hb, hml, hown, hts⟩ (l_Vt_look l dC dI X _ hc_1) (cwV 0 hts (gwV good_Vq (u_Vq_Vt _ k_Vt_68) (u_Vq_Vt _ k_Vt_69) (u_Vq_Vt _ k_Vt_214) (u_Vq_Vt _ k_Vt_0) (wcs (u_Vq_Vt _ k_Vt_70) (fun _ h => h))) rfl rfl rfl (by decide +kernel) ⟨Nat.le_of_ble_eq_true rfl, Nat.le_of_ble_eq_true rfl⟩) (pv_ofE (X.same _) (fun U z1 z2 => X.mono _ _ U hFc (hEw _ _ hS U z1 z2)) hP hK hD (va_recv hK hP (ci := 11) (q0 := 0) rfl rfl)) rfl rfl hl.1 rfl (lv_room (Nat.le_of_ble_eq_true rfl)) d_Vt_cut_2 ⟨ly_c1 m0.1 mc.1 mF1.1, ly_c1 m0.2 mc.2 mF1.2⟩) hS (fun q _ h => hFc q h) hFc (fun r_ Y_1 t H locs ht hvm hw hB hz1 hk1 hS => ?_)
  rw [hw]
  obtain ⟨hP, -, hD⟩ := hB
  rw [ht] at hP
  have hD := lx_dj hD hFc
  refine W.widen (k := G_1.gc - G0.gc) (n := G_1.gs - G0.gs) (ly_c2 m0.1 mc.1) (ly_c2 m0.2 mc.2) ?_
  have m0 := CG.le_tr m0 mc
  exact hB_5 p0 p1 r_1 Y_1 G_1 S_1 _ _ _ h m0 hP hD hS (lv_sub hl [0, 1, 2] rfl)
set_option maxHeartbeats 4000000 in
set_option maxRecDepth 100000 in
theorem l_Vt_enter (l : Launch) (dC : Nat → ClassId) (dI : Nat → Nat → Nat) {K : Nat} {M : CA} {E : (Nat → Prop) → State → Prop} (X : ly_X l dC dI K M E) (sz : Nat) {Y : CT} {G0 G' : CG} {S S' : CS} {p0 : Int32} {r : Int32} (h : f_Vt_enter K G0 S p0 = some (.ok r, G', S')) : Met l y_Vt_enter (.code y_Vt_enter cb_Vt_enter 4 (some .int) :: V_Vq) ({ frames := 8, cells := G'.gc - G0.gc, slots := G'.gs - G0.gs, locals := 224 }) (va_Pc [.ref M.o_Vt, .int p0] (fun U => U.heap.size = sz ∧ at_ (dC, dI) (fun _ => True) (wV M Y G0 S) (tV M) U ∧ E (va_A (wV M Y G0 S) sz) U)) (va_Qi (fun (r_ : Int32) (u : CT) => r_ = r) (fun (u : CT) t => at_ (dC, dI) (va_A (wV M Y G0 S) sz) (wV M u G' S') (tV M) t) (va_A (wV M Y G0 S) sz)) (G'.gc - G0.gc) (G'.gs - G0.gs) (va_A (wV M Y G0 S) sz) := by
  refine Met.ofW (cc := cb_Vt_enter) (maxL := 4) (ret := (some .int)) (by decide) rfl ?_
  intro p e s m args below meth c s₁ B hml hv
  obtain ⟨rfl, hsz, ⟨hP, hK, hD0⟩, hE⟩ := hv
  have hx := B.exec
  have hb := B.bytes
  have hr := B.returns
  have hts0 := atoms_spec (ws := .code y_Vt_enter cb_Vt_enter 4 (some .int) :: V_Vq) B.pre
  have hts : ∀ w ∈ V_Vq, w.before ([.ref M.o_Vt, .int p0] : List Value).toArray s = true := fun w h => hts0 w (List.mem_cons_of_mem _ h)
  have hown : s.vm.findClass R_Vt = some m.cls := findClass_of_methodNamed B.named
  subst hsz
  have hD := hD0.self (sz := s.heap.size)
  generalize hAe : va_A (wV M Y G0 S) s.heap.size = A at hD hE ⊢
  have hA : ∀ q : Nat, s.heap.size ≤ q → A q := fun q h => by rw [← hAe]; exact Or.inr h
  have hS : va_S A s.heap s.heap [] := va_S.rf
  have hP : va_P (dC, dI) classes (wV M Y G0 S) s.heap := hP
  have hK : va_K (dC, dI) classes (tV M) s := hK
  have hEw : ∀ (H : Heap) (locs : List Loc), va_S A s.heap H locs → ∀ U : State, U.heap = H → s.WarmedH U.vm → E A U := fun H locs hS U hU hW => X.kept A s U H locs hE hS hU hW
  have hl := lv_entry ([.ref M.o_Vt, .int p0]) (n := 4) (Nat.le_of_ble_eq_true rfl)
  rw [lg_entry_eq]
  generalize (lg_sl ([.ref M.o_Vt, .int p0]) ++ List.replicate (4 - (lg_sl ([.ref M.o_Vt, .int p0])).length) Slot.unset).toArray = ls at hl ⊢
  have hl : lv_has ls 4 [(0, .ref M.o_Vt), (1, .int p0)] := hl
  refine qabs (fun Q hQ => ?_)
  have hB_56 : ∀ (Y : CT) (G : CG) (S : CS) (H : Heap) (locs : List Loc) (ls : Array Slot), f_Vt_enter_56 K G S = some (.ok r, G', S') → CG.le G0 G → va_P (dC, dI) classes (wV M Y G S) H → va_D A (wV M Y G S) → va_S A s.heap H locs → lv_has ls 4 [] → W p l e ({ frames := 8, cells := G'.gc - G0.gc, slots := G'.gs - G0.gs, locals := 224 }) s m ([.ref M.o_Vt, .int p0] : List Value).toArray below meth c H locs (G.gc - G0.gc) (G.gs - G0.gs) Q (F0 m 56 ls []) := by
    intro Y G S H locs ls h m0 hP hD hS hl
    have mF := mo_Vt_enter_56 h
    rw [f_Vt_enter_56] at h
    exact lf_xe h
  have hB_83 : ∀ (y_2 : Int32) (z_1 : Int32) (Y : CT) (G : CG) (S : CS) (H : Heap) (locs : List Loc) (ls : Array Slot), f_Vt_enter_83 K y_2 z_1 G S = some (.ok r, G', S') → CG.le G0 G → va_P (dC, dI) classes (wV M Y G S) H → va_D A (wV M Y G S) → va_S A s.heap H locs → lv_has ls 4 [(0, .ref M.o_Vt), (2, .int y_2)] → W p l e ({ frames := 8, cells := G'.gc - G0.gc, slots := G'.gs - G0.gs, locals := 224 }) s m ([.ref M.o_Vt, .int p0] : List Value).toArray below meth c H locs (G.gc - G0.gc) (G.gs - G0.gs) Q (F0 m 83 ls [.int z_1, .ref M.o_Vt]) := by
    intro y_2 z_1 Y G S H locs ls h m0 hP hD hS hl
    have mF := mo_Vt_enter_83 h
    rw [f_Vt_enter_83] at h
    refine va_put (D := (dC, dI)) (ci := 11) (v := .int z_1) (ty := .int) (C := R_Vt) (T := F_Vt) (N := 16) hx hb hts (fun w h => u_Vq_Vt w (i_Vt w h)) t_Vt t_Vt_ok n_Vt hown hK hP hD hS 0 rfl rfl 12 (by decide) (hts _ (u_Vq_Vt _ k_Vt_41)) (fun _ h9 => h9) rfl (by decide +kernel) rfl rfl (Nat.le_of_ble_eq_true rfl) d_Vt_enter_83 (fun H locs hP hD hS => ?_)
    obtain ⟨S_13, eS_13, h⟩ := lf_lX h
    have hP := ly_newP eS_13 hP
    have hD := ly_newD eS_13 hD
    refine lv_iload_n hx hb d_Vt_enter_86 rfl (lv_at hl 1 rfl) ?_
    refine lv_if_eq (tgt := 104) hx hb d_Vt_enter_87 (by decide) (fun c_14 => ?_) (fun c_14 => ?_)
    · have h := lf_t h c_14
      refine lv_aload_n hx hb d_Vt_enter_104 rfl (lv_at hl 0 rfl) ?_
      refine va_get (D := (dC, dI)) (ci := 11) (v := .ref M.o_Tr) (C := R_Vt) (T := F_Vt) (N := 16) hx hb hts (fun w h => u_Vq_Vt w (i_Vt w h)) hown hK hP 0 rfl rfl 3 (by decide) (hts _ (u_Vq_Vt _ k_Vt_32)) (fun _ h9 => h9) rfl d_Vt_enter_105 ?_
      refine lv_aload_n hx hb d_Vt_enter_108 rfl (lv_at hl 0 rfl) ?_
      refine va_get (D := (dC, dI)) (ci := 11) (v := .int S_13.v_Vt_here) (C := R_Vt) (T := F_Vt) (N := 16) hx hb hts (fun w h => u_Vq_Vt w (i_Vt w h)) hown hK hP 0 rfl rfl 12 (by decide) (hts _ (u_Vq_Vt _ k_Vt_41)) (fun _ h9 => h9) rfl d_Vt_enter_109 ?_
      obtain ⟨r_15, S_15, hc_15, h⟩ := lf_cE h
      have hFc := lx_free hD hS hA
      refine va_calli (va_runV (As := [.int S_13.v_Vt_here]) (rest := []) ⟨hx, hb, hml, hown, hts⟩ (l_Tr_countIn l dC dI X _ hc_15) (cwV 1 hts (gwV good_Vq (u_Vq_Vt _ k_Vt_118) (u_Vq_Tr _ k_Tr_91) (u_Vq_Tr _ k_Tr_92) (u_Vq_Tr _ k_Tr_0) (wcs (u_Vq_Tr _ k_Tr_93) (fun _ h => h))) rfl rfl rfl (by decide +kernel) ⟨Nat.le_of_ble_eq_true rfl, Nat.le_of_ble_eq_true rfl⟩) (pv_ofE (X.same _) (fun U z1 z2 => X.mono _ _ U hFc (hEw _ _ hS U z1 z2)) hP hK hD (va_recv hK hP (ci := 5) (q0 := 4) rfl rfl)) rfl rfl hl.1 rfl (lv_room (Nat.le_of_ble_eq_true rfl)) d_Vt_enter_112 ⟨ly_c0 mF.1, ly_c0 mF.2⟩) hS (fun q _ h => hFc q h) hFc (fun r_ u t H locs ht hvm hw hB hz1 hk1 hS => ?_)
      rw [hw]
      obtain ⟨hP, -, hD⟩ := hB
      rw [ht] at hP
      have hD := lx_dj hD hFc
      rw [hQ]
      have e1 : r_15 = r := Except.ok.inj (congrArg (fun z => z.1) (Option.some.inj h))
      have e2 : G = G' := congrArg (fun z => z.2.1) (Option.some.inj h)
      have e3 : S_15 = S' := congrArg (fun z => z.2.2) (Option.some.inj h)
      have hP := ly_newP3 e2.symm e3.symm hP
      have hD := ly_newD3 e2.symm e3.symm hD
      refine W.widen (k := G'.gc - G0.gc) (n := G'.gs - G0.gs) (ly_wc e2) (ly_ws e2) ?_
      exact W.iret (v := r_15) hx hb hr (fun t ht hW => ⟨⟨r_15, Y, rfl, e1, by rw [ht]; exact hP, va_K.moved hW.alike hK, hD⟩, hS.F ht⟩) hS.2.2 d_Vt_enter_115
    · have h := lf_f h c_14
      refine lv_aload_n hx hb d_Vt_enter_90 rfl (lv_at hl 0 rfl) ?_
      refine va_get (D := (dC, dI)) (ci := 11) (v := .ref M.o_In) (C := R_Vt) (T := F_Vt) (N := 16) hx hb hts (fun w h => u_Vq_Vt w (i_Vt w h)) hown hK hP 0 rfl rfl 8 (by decide) (hts _ (u_Vq_Vt _ k_Vt_37)) (fun _ h9 => h9) rfl d_Vt_enter_91 ?_
      refine lv_aload_n hx hb d_Vt_enter_94 rfl (lv_at hl 0 rfl) ?_
      refine va_get (D := (dC, dI)) (ci := 11) (v := .int S_13.v_Vt_here) (C := R_Vt) (T := F_Vt) (N := 16) hx hb hts (fun w h => u_Vq_Vt w (i_Vt w h)) hown hK hP 0 rfl rfl 12 (by decide) (hts _ (u_Vq_Vt _ k_Vt_41)) (fun _ h9 => h9) rfl d_Vt_enter_95 ?_
      obtain ⟨r_16, S_16, hc_16, h⟩ := lf_cE h
      have hFc := lx_free hD hS hA
      refine va_calli (va_runV (As := [.int S_13.v_Vt_here]) (rest := []) ⟨hx, hb, hml, hown, hts⟩ (l_In_countIn l dC dI X _ hc_16) (cwV 1 hts (gwV good_Vq (u_Vq_Vt _ k_Vt_117) (u_Vq_In _ k_In_26) (u_Vq_In _ k_In_27) (u_Vq_In _ k_In_0) (wcs (u_Vq_In _ k_In_28) (fun _ h => h))) rfl rfl rfl (by decide +kernel) ⟨Nat.le_of_ble_eq_true rfl, Nat.le_of_ble_eq_true rfl⟩) (pv_ofE (X.same _) (fun U z1 z2 => X.mono _ _ U hFc (hEw _ _ hS U z1 z2)) hP hK hD (va_recv hK hP (ci := 6) (q0 := 9) rfl rfl)) rfl rfl hl.1 rfl (lv_room (Nat.le_of_ble_eq_true rfl)) d_Vt_enter_98 ⟨ly_c0 mF.1, ly_c0 mF.2⟩) hS (fun q _ h => hFc q h) hFc (fun r_ u t H locs ht hvm hw hB hz1 hk1 hS => ?_)
      rw [hw]
      obtain ⟨hP, -, hD⟩ := hB
      rw [ht] at hP
      have hD := lx_dj hD hFc
      refine lv_goto (tgt := 115) hx hb d_Vt_enter_101 (by decide) ?_
      rw [hQ]
      have e1 : r_16 = r := Except.ok.inj (congrArg (fun z => z.1) (Option.some.inj h))
      have e2 : G = G' := congrArg (fun z => z.2.1) (Option.some.inj h)
      have e3 : S_16 = S' := congrArg (fun z => z.2.2) (Option.some.inj h)
      have hP := ly_newP3 e2.symm e3.symm hP
      have hD := ly_newD3 e2.symm e3.symm hD
      refine W.widen (k := G'.gc - G0.gc) (n := G'.gs - G0.gs) (ly_wc e2) (ly_ws e2) ?_
      exact W.iret (v := r_16) hx hb hr (fun t ht hW => ⟨⟨r_16, Y, rfl, e1, by rw [ht]; exact hP, va_K.moved hW.alike hK, hD⟩, hS.F ht⟩) hS.2.2 d_Vt_enter_115
  have hB_66 : ∀ (y_2 : Int32) (y_3 : Int32) (Y : CT) (G : CG) (S : CS) (H : Heap) (locs : List Loc) (ls : Array Slot), f_Vt_enter_66 K y_2 y_3 G S = some (.ok r, G', S') → CG.le G0 G → va_P (dC, dI) classes (wV M Y G S) H → va_D A (wV M Y G S) → va_S A s.heap H locs → lv_has ls 4 [(0, .ref M.o_Vt), (2, .int y_2), (3, .int y_3)] → W p l e ({ frames := 8, cells := G'.gc - G0.gc, slots := G'.gs - G0.gs, locals := 224 }) s m ([.ref M.o_Vt, .int p0] : List Value).toArray below meth c H locs (G.gc - G0.gc) (G.gs - G0.gs) Q (F0 m 66 ls []) := by
    intro y_2 y_3 Y G S H locs ls h m0 hP hD hS hl
    have mF := mo_Vt_enter_66 h
    rw [f_Vt_enter_66] at h
    refine lv_aload_n hx hb d_Vt_enter_66 rfl (lv_at hl 0 rfl) ?_
    refine lv_iload_n hx hb d_Vt_enter_67 rfl (lv_at hl 1 rfl) ?_
    refine lv_if_eq (tgt := 82) hx hb d_Vt_enter_68 (by decide) (fun c_11 => ?_) (fun c_11 => ?_)
    · have h := lf_t h c_11
      refine lv_iload_n hx hb d_Vt_enter_82 rfl (lv_at hl 2 rfl) ?_
      exact hB_83 y_2 y_3 Y G S _ _ _ h m0 hP hD hS (lv_sub hl [0, 1] rfl)
    · have h := lf_f h c_11
      refine lv_aload_n hx hb d_Vt_enter_71 rfl (lv_at hl 0 rfl) ?_
      refine va_get (D := (dC, dI)) (ci := 11) (v := .ref M.o_In) (C := R_Vt) (T := F_Vt) (N := 16) hx hb hts (fun w h => u_Vq_Vt w (i_Vt w h)) hown hK hP 0 rfl rfl 8 (by decide) (hts _ (u_Vq_Vt _ k_Vt_37)) (fun _ h9 => h9) rfl d_Vt_enter_72 ?_
      refine lv_iload_n hx hb d_Vt_enter_75 rfl (lv_at hl 2 rfl) ?_
      obtain ⟨r_12, S_12, hc_12, h⟩ := lf_cE h
      have hFc := lx_free hD hS hA
      refine va_calli (va_runV (As := [.int y_3]) (rest := [.ref M.o_Vt]) ⟨hx, hb, hml, hown, hts⟩ (l_In_inodeOf l dC dI X _ hc_12) (cwV 1 hts (gwV good_Vq (u_Vq_Vt _ k_Vt_157) (u_Vq_In _ k_In_50) (u_Vq_In _ k_In_51) (u_Vq_In _ k_In_0) (wcs (u_Vq_In _ k_In_52) (fun _ h => h))) rfl rfl rfl (by decide +kernel) ⟨Nat.le_of_ble_eq_true rfl, Nat.le_of_ble_eq_true rfl⟩) (pv_ofE (X.same _) (fun U z1 z2 => X.mono _ _ U hFc (hEw _ _ hS U z1 z2)) hP hK hD (va_recv hK hP (ci := 6) (q0 := 9) rfl rfl)) rfl rfl hl.1 rfl (lv_room (Nat.le_of_ble_eq_true rfl)) d_Vt_enter_76 ⟨ly_c0 mF.1, ly_c0 mF.2⟩) hS (fun q _ h => hFc q h) hFc (fun r_ u t H locs ht hvm hw hB hz1 hk1 hS => ?_)
      rw [hw]
      obtain ⟨hP, -, hD⟩ := hB
      rw [ht] at hP
      have hD := lx_dj hD hFc
      refine lv_goto (tgt := 83) hx hb d_Vt_enter_79 (by decide) ?_
      exact hB_83 y_2 r_12 Y G S_12 _ _ _ h m0 hP hD hS (lv_sub hl [0, 1] rfl)
  have hB_26 : ∀ (y_2 : Int32) (z_0 : Int32) (Y : CT) (G : CG) (S : CS) (H : Heap) (locs : List Loc) (ls : Array Slot), f_Vt_enter_26 K y_2 z_0 G S = some (.ok r, G', S') → CG.le G0 G → va_P (dC, dI) classes (wV M Y G S) H → va_D A (wV M Y G S) → va_S A s.heap H locs → lv_has ls 4 [(0, .ref M.o_Vt), (2, .int y_2)] → W p l e ({ frames := 8, cells := G'.gc - G0.gc, slots := G'.gs - G0.gs, locals := 224 }) s m ([.ref M.o_Vt, .int p0] : List Value).toArray below meth c H locs (G.gc - G0.gc) (G.gs - G0.gs) Q (F0 m 26 ls [.int z_0]) := by
    intro y_2 z_0 Y G S H locs ls h m0 hP hD hS hl
    have mF := mo_Vt_enter_26 h
    rw [f_Vt_enter_26] at h
    refine lv_istore_n (lv' := [(3, .int z_0), (0, .ref M.o_Vt), (2, .int y_2)]) hx hb d_Vt_enter_26 rfl hl (by decide) rfl (fun ls hl => ?_)
    refine lv_iload_n hx hb d_Vt_enter_27 rfl (lv_at hl 2 rfl) ?_
    refine lv_if_eq (tgt := 45) hx hb d_Vt_enter_28 (by decide) (fun c_6 => ?_) (fun c_6 => ?_)
    · have h := lf_t h c_6
      refine lv_aload_n hx hb d_Vt_enter_45 rfl (lv_at hl 1 rfl) ?_
      refine va_get (D := (dC, dI)) (ci := 11) (v := .ref M.o_Tr) (C := R_Vt) (T := F_Vt) (N := 16) hx hb hts (fun w h => u_Vq_Vt w (i_Vt w h)) hown hK hP 0 rfl rfl 3 (by decide) (hts _ (u_Vq_Vt _ k_Vt_32)) (fun _ h9 => h9) rfl d_Vt_enter_46 ?_
      refine lv_iload_n hx hb d_Vt_enter_49 rfl (lv_at hl 0 rfl) ?_
      obtain ⟨r_7, S_7, hc_7, h⟩ := lf_cE h
      have hFc := lx_free hD hS hA
      refine va_calli (va_runV (As := [.int z_0]) (rest := []) ⟨hx, hb, hml, hown, hts⟩ (l_Tr_isDirectory l dC dI X _ hc_7) (cwV 1 hts (gwV good_Vq (u_Vq_Vt _ k_Vt_142) (u_Vq_Tr _ k_Tr_42) (u_Vq_Tr _ k_Tr_43) (u_Vq_Tr _ k_Tr_0) (wcs (u_Vq_Tr _ k_Tr_44) (fun _ h => h))) rfl rfl rfl (by decide +kernel) ⟨Nat.le_of_ble_eq_true rfl, Nat.le_of_ble_eq_true rfl⟩) (pv_ofE (X.same _) (fun U z1 z2 => X.mono _ _ U hFc (hEw _ _ hS U z1 z2)) hP hK hD (va_recv hK hP (ci := 5) (q0 := 4) rfl rfl)) rfl rfl hl.1 rfl (lv_room (Nat.le_of_ble_eq_true rfl)) d_Vt_enter_50 ⟨ly_c0 mF.1, ly_c0 mF.2⟩) hS (fun q _ h => hFc q h) hFc (fun r_ u t H locs ht hvm hw hB hz1 hk1 hS => ?_)
      rw [hw]
      obtain ⟨hP, -, hD⟩ := hB
      rw [ht] at hP
      have hD := lx_dj hD hFc
      refine lv_if_ne (tgt := 66) hx hb d_Vt_enter_53 (by decide) (fun c_8 => ?_) (fun c_8 => ?_)
      · have h := lf_f h c_8
        exact hB_66 y_2 z_0 Y G S_7 _ _ _ h m0 hP hD hS (lv_sub hl [1, 2, 0] rfl)
      · have h := lf_t h c_8
        exact hB_56 Y G S_7 _ _ _ h m0 hP hD hS (lv_sub hl [] rfl)
    · have h := lf_f h c_6
      refine lv_aload_n hx hb d_Vt_enter_31 rfl (lv_at hl 1 rfl) ?_
      refine va_get (D := (dC, dI)) (ci := 11) (v := .ref M.o_In) (C := R_Vt) (T := F_Vt) (N := 16) hx hb hts (fun w h => u_Vq_Vt w (i_Vt w h)) hown hK hP 0 rfl rfl 8 (by decide) (hts _ (u_Vq_Vt _ k_Vt_37)) (fun _ h9 => h9) rfl d_Vt_enter_32 ?_
      refine lv_iload_n hx hb d_Vt_enter_35 rfl (lv_at hl 0 rfl) ?_
      obtain ⟨r_9, S_9, hc_9, h⟩ := lf_cE h
      have hFc := lx_free hD hS hA
      refine va_calli (va_runV (As := [.int z_0]) (rest := []) ⟨hx, hb, hml, hown, hts⟩ (l_In_isDirectory l dC dI X _ hc_9) (cwV 1 hts (gwV good_Vq (u_Vq_Vt _ k_Vt_156) (u_Vq_In _ k_In_54) (u_Vq_In _ k_In_55) (u_Vq_In _ k_In_0) (wcs (u_Vq_In _ k_In_56) (fun _ h => h))) rfl rfl rfl (by decide +kernel) ⟨Nat.le_of_ble_eq_true rfl, Nat.le_of_ble_eq_true rfl⟩) (pv_ofE (X.same _) (fun U z1 z2 => X.mono _ _ U hFc (hEw _ _ hS U z1 z2)) hP hK hD (va_recv hK hP (ci := 6) (q0 := 9) rfl rfl)) rfl rfl hl.1 rfl (lv_room (Nat.le_of_ble_eq_true rfl)) d_Vt_enter_36 ⟨ly_c0 mF.1, ly_c0 mF.2⟩) hS (fun q _ h => hFc q h) hFc (fun r_ u t H locs ht hvm hw hB hz1 hk1 hS => ?_)
      rw [hw]
      obtain ⟨hP, -, hD⟩ := hB
      rw [ht] at hP
      have hD := lx_dj hD hFc
      refine lv_if_ne (tgt := 66) hx hb d_Vt_enter_39 (by decide) (fun c_10 => ?_) (fun c_10 => ?_)
      · have h := lf_f h c_10
        exact hB_66 y_2 z_0 Y G S_9 _ _ _ h m0 hP hD hS (lv_sub hl [1, 2, 0] rfl)
      · have h := lf_t h c_10
        refine lv_goto (tgt := 56) hx hb d_Vt_enter_42 (by decide) ?_
        exact hB_56 Y G S_9 _ _ _ h m0 hP hD hS (lv_sub hl [] rfl)
  have hB_18 : ∀ (y_2 : Int32) (z_0 : Int32) (Y : CT) (G : CG) (S : CS) (H : Heap) (locs : List Loc) (ls : Array Slot), f_Vt_enter_18 K y_2 z_0 G S = some (.ok r, G', S') → CG.le G0 G → va_P (dC, dI) classes (wV M Y G S) H → va_D A (wV M Y G S) → va_S A s.heap H locs → lv_has ls 4 [(0, .ref M.o_Vt), (2, .int y_2)] → W p l e ({ frames := 8, cells := G'.gc - G0.gc, slots := G'.gs - G0.gs, locals := 224 }) s m ([.ref M.o_Vt, .int p0] : List Value).toArray below meth c H locs (G.gc - G0.gc) (G.gs - G0.gs) Q (F0 m 18 ls [.int z_0]) := by
    intro y_2 z_0 Y G S H locs ls h m0 hP hD hS hl
    have mF := mo_Vt_enter_18 h
    rw [f_Vt_enter_18] at h
    refine lv_goto (tgt := 26) hx hb d_Vt_enter_18 (by decide) ?_
    exact hB_26 y_2 z_0 Y G S _ _ _ h m0 hP hD hS (lv_sub hl [0, 1] rfl)
  have hB_8 : ∀ (y_1 : Int32) (z_0 : Int32) (Y : CT) (G : CG) (S : CS) (H : Heap) (locs : List Loc) (ls : Array Slot), f_Vt_enter_8 K y_1 z_0 G S = some (.ok r, G', S') → CG.le G0 G → va_P (dC, dI) classes (wV M Y G S) H → va_D A (wV M Y G S) → va_S A s.heap H locs → lv_has ls 4 [(0, .ref M.o_Vt), (1, .int y_1)] → W p l e ({ frames := 8, cells := G'.gc - G0.gc, slots := G'.gs - G0.gs, locals := 224 }) s m ([.ref M.o_Vt, .int p0] : List Value).toArray below meth c H locs (G.gc - G0.gc) (G.gs - G0.gs) Q (F0 m 8 ls [.int z_0]) := by
    intro y_1 z_0 Y G S H locs ls h m0 hP hD hS hl
    have mF := mo_Vt_enter_8 h
    rw [f_Vt_enter_8] at h
    refine lv_istore_n (lv' := [(2, .int z_0), (0, .ref M.o_Vt), (1, .int y_1)]) hx hb d_Vt_enter_8 rfl hl (by decide) rfl (fun ls hl => ?_)
    refine lv_iload_n hx hb d_Vt_enter_9 rfl (lv_at hl 0 rfl) ?_
    refine lv_if_eq (tgt := 21) hx hb d_Vt_enter_10 (by decide) (fun c_3 => ?_) (fun c_3 => ?_)
    · have h := lf_t h c_3
      refine lv_aload_n hx hb d_Vt_enter_21 rfl (lv_at hl 1 rfl) ?_
      refine lv_iload_n hx hb d_Vt_enter_22 rfl (lv_at hl 2 rfl) ?_
      obtain ⟨r_4, G_4, S_4, hc_4, h⟩ := lf_aO h
      have mc := mo_Vt_itemHere hc_4
      have ml_4 := mo_Vt_itemHere hc_4
      have mF1 := mo_Vt_enter_26 h
      have hFc := lx_free hD hS hA
      refine va_calli (va_runV (As := [.int y_1]) (rest := []) ⟨hx, hb, hml, hown, hts⟩ (l_Vt_itemHere l dC dI X _ hc_4) (cwV 1 hts (gwV good_Vq (u_Vq_Vt _ k_Vt_130) (u_Vq_Vt _ k_Vt_131) (u_Vq_Vt _ k_Vt_217) (u_Vq_Vt _ k_Vt_0) (wcs (u_Vq_Vt _ k_Vt_132) (fun _ h => h))) rfl rfl rfl (by decide +kernel) ⟨Nat.le_of_ble_eq_true rfl, Nat.le_of_ble_eq_true rfl⟩) (pv_ofE (X.same _) (fun U z1 z2 => X.mono _ _ U hFc (hEw _ _ hS U z1 z2)) hP hK hD (va_recv hK hP (ci := 11) (q0 := 0) rfl rfl)) rfl rfl hl.1 rfl (lv_room (Nat.le_of_ble_eq_true rfl)) d_Vt_enter_23 ⟨ly_c1 m0.1 mc.1 mF1.1, ly_c1 m0.2 mc.2 mF1.2⟩) hS (fun q _ h => hFc q h) hFc (fun r_ Y_4 t H locs ht hvm hw hB hz1 hk1 hS => ?_)
      rw [hw]
      obtain ⟨hP, -, hD⟩ := hB
      rw [ht] at hP
      have hD := lx_dj hD hFc
      refine W.widen (k := G_4.gc - G0.gc) (n := G_4.gs - G0.gs) (ly_c2 m0.1 mc.1) (ly_c2 m0.2 mc.2) ?_
      have m0 := CG.le_tr m0 mc
      exact hB_26 z_0 r_4 Y_4 G_4 S_4 _ _ _ h m0 hP hD hS (lv_sub hl [1, 0] rfl)
    · have h := lf_f h c_3
      refine lv_aload_n hx hb d_Vt_enter_13 rfl (lv_at hl 1 rfl) ?_
      refine lv_iload_n hx hb d_Vt_enter_14 rfl (lv_at hl 2 rfl) ?_
      obtain ⟨r_5, G_5, S_5, hc_5, h⟩ := lf_aO h
      have mc := mo_Vt_entryHere hc_5
      have ml_5 := mo_Vt_entryHere hc_5
      have mF1 := mo_Vt_enter_18 h
      have hFc := lx_free hD hS hA
      refine va_calli (va_runV (As := [.int y_1]) (rest := []) ⟨hx, hb, hml, hown, hts⟩ (l_Vt_entryHere l dC dI X _ hc_5) (cwV 1 hts (gwV good_Vq (u_Vq_Vt _ k_Vt_122) (u_Vq_Vt _ k_Vt_123) (u_Vq_Vt _ k_Vt_218) (u_Vq_Vt _ k_Vt_0) (wcs (u_Vq_Vt _ k_Vt_124) (fun _ h => h))) rfl rfl rfl (by decide +kernel) ⟨Nat.le_of_ble_eq_true rfl, Nat.le_of_ble_eq_true rfl⟩) (pv_ofE (X.same _) (fun U z1 z2 => X.mono _ _ U hFc (hEw _ _ hS U z1 z2)) hP hK hD (va_recv hK hP (ci := 11) (q0 := 0) rfl rfl)) rfl rfl hl.1 rfl (lv_room (Nat.le_of_ble_eq_true rfl)) d_Vt_enter_15 ⟨ly_c1 m0.1 mc.1 mF1.1, ly_c1 m0.2 mc.2 mF1.2⟩) hS (fun q _ h => hFc q h) hFc (fun r_ Y_5 t H locs ht hvm hw hB hz1 hk1 hS => ?_)
      rw [hw]
      obtain ⟨hP, -, hD⟩ := hB
      rw [ht] at hP
      have hD := lx_dj hD hFc
      refine W.widen (k := G_5.gc - G0.gc) (n := G_5.gs - G0.gs) (ly_c2 m0.1 mc.1) (ly_c2 m0.2 mc.2) ?_
      have m0 := CG.le_tr m0 mc
      exact hB_18 z_0 r_5 Y_5 G_5 S_5 _ _ _ h m0 hP hD hS (lv_sub hl [1, 0] rfl)
  have hB_5 : ∀ (y_1 : Int32) (z_1 : Int32) (Y : CT) (G : CG) (S : CS) (H : Heap) (locs : List Loc) (ls : Array Slot), f_Vt_enter_5 K y_1 z_1 G S = some (.ok r, G', S') → CG.le G0 G → va_P (dC, dI) classes (wV M Y G S) H → va_D A (wV M Y G S) → va_S A s.heap H locs → lv_has ls 4 [(0, .ref M.o_Vt), (1, .int y_1)] → W p l e ({ frames := 8, cells := G'.gc - G0.gc, slots := G'.gs - G0.gs, locals := 224 }) s m ([.ref M.o_Vt, .int p0] : List Value).toArray below meth c H locs (G.gc - G0.gc) (G.gs - G0.gs) Q (F0 m 5 ls [.int z_1, .ref M.o_Vt]) := by
    intro y_1 z_1 Y G S H locs ls h m0 hP hD hS hl
    have mF := mo_Vt_enter_5 h
    rw [f_Vt_enter_5] at h
    obtain ⟨r_2, G_2, S_2, hc_2, h⟩ := lf_aO h
    have mc := mo_Vt_readsInodes hc_2
    have ml_2 := mo_Vt_readsInodes hc_2
    have mF1 := mo_Vt_enter_8 h
    have hFc := lx_free hD hS hA
    refine va_calli (va_runV (As := [.int z_1]) (rest := []) ⟨hx, hb, hml, hown, hts⟩ (l_Vt_readsInodes l dC dI X _ hc_2) (cwV 1 hts (gwV good_Vq (u_Vq_Vt _ k_Vt_111) (u_Vq_Vt _ k_Vt_112) (u_Vq_Vt _ k_Vt_215) (u_Vq_Vt _ k_Vt_0) (wcs (u_Vq_Vt _ k_Vt_113) (fun _ h => h))) rfl rfl rfl (by decide +kernel) ⟨Nat.le_of_ble_eq_true rfl, Nat.le_of_ble_eq_true rfl⟩) (pv_ofE (X.same _) (fun U z1 z2 => X.mono _ _ U hFc (hEw _ _ hS U z1 z2)) hP hK hD (va_recv hK hP (ci := 11) (q0 := 0) rfl rfl)) rfl rfl hl.1 rfl (lv_room (Nat.le_of_ble_eq_true rfl)) d_Vt_enter_5 ⟨ly_c1 m0.1 mc.1 mF1.1, ly_c1 m0.2 mc.2 mF1.2⟩) hS (fun q _ h => hFc q h) hFc (fun r_ Y_2 t H locs ht hvm hw hB hz1 hk1 hS => ?_)
    rw [hw]
    obtain ⟨hP, -, hD⟩ := hB
    rw [ht] at hP
    have hD := lx_dj hD hFc
    refine W.widen (k := G_2.gc - G0.gc) (n := G_2.gs - G0.gs) (ly_c2 m0.1 mc.1) (ly_c2 m0.2 mc.2) ?_
    have m0 := CG.le_tr m0 mc
    exact hB_8 y_1 r_2 Y_2 G_2 S_2 _ _ _ h m0 hP hD hS (lv_sub hl [0, 1] rfl)
  have m0 : CG.le G0 G0 := ⟨Nat.le_refl _, Nat.le_refl _⟩
  have mF := mo_Vt_enter h
  refine W.widen (k := G0.gc - G0.gc) (n := G0.gs - G0.gs) (Nat.zero_le _) (Nat.zero_le _) ?_
  rw [f_Vt_enter] at h
  refine lv_aload_n hx hb d_Vt_enter_0 rfl (lv_at hl 0 rfl) ?_
  refine lv_aload_n hx hb d_Vt_enter_1 rfl (lv_at hl 0 rfl) ?_
  obtain ⟨r_1, G_1, S_1, hc_1, h⟩ := lf_nE h
  have mc := mo_Vt_look hc_1
  have ml_1 := mo_Vt_look hc_1
  have mF1 := mo_Vt_enter_5 h
  have hFc := lx_free hD hS hA
  refine va_calli (va_runV (As := []) (rest := [.ref M.o_Vt]) ⟨hx, hb, hml, hown, hts⟩ (l_Vt_look l dC dI X _ hc_1) (cwV 0 hts (gwV good_Vq (u_Vq_Vt _ k_Vt_68) (u_Vq_Vt _ k_Vt_69) (u_Vq_Vt _ k_Vt_214) (u_Vq_Vt _ k_Vt_0) (wcs (u_Vq_Vt _ k_Vt_70) (fun _ h => h))) rfl rfl rfl (by decide +kernel) ⟨Nat.le_of_ble_eq_true rfl, Nat.le_of_ble_eq_true rfl⟩) (pv_ofE (X.same _) (fun U z1 z2 => X.mono _ _ U hFc (hEw _ _ hS U z1 z2)) hP hK hD (va_recv hK hP (ci := 11) (q0 := 0) rfl rfl)) rfl rfl hl.1 rfl (lv_room (Nat.le_of_ble_eq_true rfl)) d_Vt_enter_2 ⟨ly_c1 m0.1 mc.1 mF1.1, ly_c1 m0.2 mc.2 mF1.2⟩) hS (fun q _ h => hFc q h) hFc (fun r_ Y_1 t H locs ht hvm hw hB hz1 hk1 hS => ?_)
  rw [hw]
  obtain ⟨hP, -, hD⟩ := hB
  rw [ht] at hP
  have hD := lx_dj hD hFc
  refine W.widen (k := G_1.gc - G0.gc) (n := G_1.gs - G0.gs) (ly_c2 m0.1 mc.1) (ly_c2 m0.2 mc.2) ?_
  have m0 := CG.le_tr m0 mc
  exact hB_5 p0 r_1 Y_1 G_1 S_1 _ _ _ h m0 hP hD hS (lv_sub hl [0, 1] rfl)
set_option maxHeartbeats 4000000 in
set_option maxRecDepth 100000 in
theorem lt_Vt_enter_0 (l : Launch) (hfl : l.flags = pinnedFlags ++ [noTraceFlag]) (dC : Nat → ClassId) (dI : Nat → Nat → Nat) {K : Nat} {M : CA} {E : (Nat → Prop) → State → Prop} (X : ly_X l dC dI K M E) (sz : Nat) {Y : CT} {G0 G' : CG} {S S' : CS} {p0 : Int32} (h : f_Vt_enter K G0 S p0 = some (.error 0, G', S')) : MetX l y_Vt_enter (.code y_Vt_enter cb_Vt_enter 4 (some .int) :: V_Vq) ({ frames := 8, cells := G'.gc - G0.gc, slots := G'.gs - G0.gs, locals := 224 }) (va_Pc [.ref M.o_Vt, .int p0] (fun U => U.heap.size = sz ∧ at_ (dC, dI) (fun _ => True) (wV M Y G0 S) (tV M) U ∧ E (va_A (wV M Y G0 S) sz) U)) (fun _ _ _ _ => False) (x_Q "java/lang/IllegalArgumentException" (va_A (wV M Y G0 S) sz) (fun t => ∃ u : CT, at_ (dC, dI) (va_A (wV M Y G0 S) sz) (wV M u G' S') (tV M) t)) (G'.gc - G0.gc) (G'.gs - G0.gs) (va_A (wV M Y G0 S) sz) := by
  refine MetX.ofW (cc := cb_Vt_enter) (maxL := 4) (ret := (some .int)) (by decide) rfl ?_
  intro p e s m args below meth c s₁ B hml hv
  obtain ⟨rfl, hsz, ⟨hP, hK, hD0⟩, hE⟩ := hv
  have hx := B.exec
  have hb := B.bytes
  have hr := B.returns
  have hts0 := atoms_spec (ws := .code y_Vt_enter cb_Vt_enter 4 (some .int) :: V_Vq) B.pre
  have hts : ∀ w ∈ V_Vq, w.before ([.ref M.o_Vt, .int p0] : List Value).toArray s = true := fun w h => hts0 w (List.mem_cons_of_mem _ h)
  have hown : s.vm.findClass R_Vt = some m.cls := findClass_of_methodNamed B.named
  have hlocks := B.notSynchronized
  have hout := x_table B (hts0 _ List.mem_cons_self)
  subst hsz
  have hD := hD0.self (sz := s.heap.size)
  generalize hAe : va_A (wV M Y G0 S) s.heap.size = A at hD hE ⊢
  have hA : ∀ q : Nat, s.heap.size ≤ q → A q := fun q h => by rw [← hAe]; exact Or.inr h
  have hS : va_S A s.heap s.heap [] := va_S.rf
  have hP : va_P (dC, dI) classes (wV M Y G0 S) s.heap := hP
  have hK : va_K (dC, dI) classes (tV M) s := hK
  have hEw : ∀ (H : Heap) (locs : List Loc), va_S A s.heap H locs → ∀ U : State, U.heap = H → s.WarmedH U.vm → E A U := fun H locs hS U hU hW => X.kept A s U H locs hE hS hU hW
  have hl := lv_entry ([.ref M.o_Vt, .int p0]) (n := 4) (Nat.le_of_ble_eq_true rfl)
  rw [lg_entry_eq]
  generalize (lg_sl ([.ref M.o_Vt, .int p0]) ++ List.replicate (4 - (lg_sl ([.ref M.o_Vt, .int p0])).length) Slot.unset).toArray = ls at hl ⊢
  have hl : lv_has ls 4 [(0, .ref M.o_Vt), (1, .int p0)] := hl
  refine qabs (fun Q hQ => ?_)
  have hB_56 : ∀ (Y : CT) (G : CG) (S : CS) (H : Heap) (locs : List Loc) (ls : Array Slot), f_Vt_enter_56 K G S = some (.error 0, G', S') → CG.le G0 G → va_P (dC, dI) classes (wV M Y G S) H → va_D A (wV M Y G S) → va_S A s.heap H locs → lv_has ls 4 [] → W p l e ({ frames := 8, cells := G'.gc - G0.gc, slots := G'.gs - G0.gs, locals := 224 }) s m ([.ref M.o_Vt, .int p0] : List Value).toArray below meth c H locs (G.gc - G0.gc) (G.gs - G0.gs) Q (F0 m 56 ls []) := by
    intro Y G S H locs ls h m0 hP hD hS hl
    have mF := mo_Vt_enter_56 h
    rw [f_Vt_enter_56] at h
    rw [hQ]
    have e2 : G.made 1 6 = G' := congrArg (fun z => z.2.1) (Option.some.inj h)
    have e3 : S = S' := congrArg (fun z => z.2.2) (Option.some.inj h)
    have hP := ly_newP3 e2.symm e3.symm (ly_madeP (c := 1) (n := 6) hP)
    have hD := ly_newD3 e2.symm e3.symm (ly_madeD (c := 1) (n := 6) hD)
    refine W.mono (ly_mqx (fun t z => ⟨Y, z⟩)) ?_
    exact x_thrG (own := R_Vt) (cls := "java/lang/IllegalArgumentException") (ik := 133) (is := 223) (ic := 137) (k := 2) hx hb (Launch.traces_off hfl (Stand.of_body B).admits) hlocks hown (by decide) (fun T hT => (X.xt_223 _ _ (hEw _ _ hS (xs s T) hT (State.WarmedH.refl s))).1) (hts _ (u_Vq_Vt _ k_Vt_100)) (hts _ (u_Vq_Vt _ k_Vt_101)) (hts _ (u_Vq_Vt _ k_Vt_1)) (X.xt_223 _ _ hE).2 (hl.1.trans hml.symm) d_Vt_enter_56 d_Vt_enter_59 (Or.inl ⟨d_Vt_enter_60, rfl⟩) d_Vt_enter_62 d_Vt_enter_65 hout (Nat.le_of_ble_eq_true rfl) (Nat.le_of_ble_eq_true rfl) (ly_t1 e2 m0) (Nat.le_refl _) (ly_t2 e2 m0) (Nat.le_refl _) hP hK hD hS
  have hB_83 : ∀ (y_2 : Int32) (z_1 : Int32) (Y : CT) (G : CG) (S : CS) (H : Heap) (locs : List Loc) (ls : Array Slot), f_Vt_enter_83 K y_2 z_1 G S = some (.error 0, G', S') → CG.le G0 G → va_P (dC, dI) classes (wV M Y G S) H → va_D A (wV M Y G S) → va_S A s.heap H locs → lv_has ls 4 [(0, .ref M.o_Vt), (2, .int y_2)] → W p l e ({ frames := 8, cells := G'.gc - G0.gc, slots := G'.gs - G0.gs, locals := 224 }) s m ([.ref M.o_Vt, .int p0] : List Value).toArray below meth c H locs (G.gc - G0.gc) (G.gs - G0.gs) Q (F0 m 83 ls [.int z_1, .ref M.o_Vt]) := by
    intro y_2 z_1 Y G S H locs ls h m0 hP hD hS hl
    have mF := mo_Vt_enter_83 h
    rw [f_Vt_enter_83] at h
    refine va_put (D := (dC, dI)) (ci := 11) (v := .int z_1) (ty := .int) (C := R_Vt) (T := F_Vt) (N := 16) hx hb hts (fun w h => u_Vq_Vt w (i_Vt w h)) t_Vt t_Vt_ok n_Vt hown hK hP hD hS 0 rfl rfl 12 (by decide) (hts _ (u_Vq_Vt _ k_Vt_41)) (fun _ h9 => h9) rfl (by decide +kernel) rfl rfl (Nat.le_of_ble_eq_true rfl) d_Vt_enter_83 (fun H locs hP hD hS => ?_)
    obtain ⟨S_13, eS_13, h⟩ := lf_lX h
    have hP := ly_newP eS_13 hP
    have hD := ly_newD eS_13 hD
    refine lv_iload_n hx hb d_Vt_enter_86 rfl (lv_at hl 1 rfl) ?_
    refine lv_if_eq (tgt := 104) hx hb d_Vt_enter_87 (by decide) (fun c_14 => ?_) (fun c_14 => ?_)
    · have h := lf_t h c_14
      refine lv_aload_n hx hb d_Vt_enter_104 rfl (lv_at hl 0 rfl) ?_
      refine va_get (D := (dC, dI)) (ci := 11) (v := .ref M.o_Tr) (C := R_Vt) (T := F_Vt) (N := 16) hx hb hts (fun w h => u_Vq_Vt w (i_Vt w h)) hown hK hP 0 rfl rfl 3 (by decide) (hts _ (u_Vq_Vt _ k_Vt_32)) (fun _ h9 => h9) rfl d_Vt_enter_105 ?_
      refine lv_aload_n hx hb d_Vt_enter_108 rfl (lv_at hl 0 rfl) ?_
      refine va_get (D := (dC, dI)) (ci := 11) (v := .int S_13.v_Vt_here) (C := R_Vt) (T := F_Vt) (N := 16) hx hb hts (fun w h => u_Vq_Vt w (i_Vt w h)) hown hK hP 0 rfl rfl 12 (by decide) (hts _ (u_Vq_Vt _ k_Vt_41)) (fun _ h9 => h9) rfl d_Vt_enter_109 ?_
      obtain ⟨r_15, S_15, hc_15, h⟩ := lf_cE h
      have hFc := lx_free hD hS hA
      refine va_calli (va_runV (As := [.int S_13.v_Vt_here]) (rest := []) ⟨hx, hb, hml, hown, hts⟩ (l_Tr_countIn l dC dI X _ hc_15) (cwV 1 hts (gwV good_Vq (u_Vq_Vt _ k_Vt_118) (u_Vq_Tr _ k_Tr_91) (u_Vq_Tr _ k_Tr_92) (u_Vq_Tr _ k_Tr_0) (wcs (u_Vq_Tr _ k_Tr_93) (fun _ h => h))) rfl rfl rfl (by decide +kernel) ⟨Nat.le_of_ble_eq_true rfl, Nat.le_of_ble_eq_true rfl⟩) (pv_ofE (X.same _) (fun U z1 z2 => X.mono _ _ U hFc (hEw _ _ hS U z1 z2)) hP hK hD (va_recv hK hP (ci := 5) (q0 := 4) rfl rfl)) rfl rfl hl.1 rfl (lv_room (Nat.le_of_ble_eq_true rfl)) d_Vt_enter_112 ⟨ly_c0 mF.1, ly_c0 mF.2⟩) hS (fun q _ h => hFc q h) hFc (fun r_ u t H locs ht hvm hw hB hz1 hk1 hS => ?_)
      rw [hw]
      obtain ⟨hP, -, hD⟩ := hB
      rw [ht] at hP
      have hD := lx_dj hD hFc
      exact lf_xo h
    · have h := lf_f h c_14
      refine lv_aload_n hx hb d_Vt_enter_90 rfl (lv_at hl 0 rfl) ?_
      refine va_get (D := (dC, dI)) (ci := 11) (v := .ref M.o_In) (C := R_Vt) (T := F_Vt) (N := 16) hx hb hts (fun w h => u_Vq_Vt w (i_Vt w h)) hown hK hP 0 rfl rfl 8 (by decide) (hts _ (u_Vq_Vt _ k_Vt_37)) (fun _ h9 => h9) rfl d_Vt_enter_91 ?_
      refine lv_aload_n hx hb d_Vt_enter_94 rfl (lv_at hl 0 rfl) ?_
      refine va_get (D := (dC, dI)) (ci := 11) (v := .int S_13.v_Vt_here) (C := R_Vt) (T := F_Vt) (N := 16) hx hb hts (fun w h => u_Vq_Vt w (i_Vt w h)) hown hK hP 0 rfl rfl 12 (by decide) (hts _ (u_Vq_Vt _ k_Vt_41)) (fun _ h9 => h9) rfl d_Vt_enter_95 ?_
      obtain ⟨r_16, S_16, hc_16, h⟩ := lf_cE h
      have hFc := lx_free hD hS hA
      refine va_calli (va_runV (As := [.int S_13.v_Vt_here]) (rest := []) ⟨hx, hb, hml, hown, hts⟩ (l_In_countIn l dC dI X _ hc_16) (cwV 1 hts (gwV good_Vq (u_Vq_Vt _ k_Vt_117) (u_Vq_In _ k_In_26) (u_Vq_In _ k_In_27) (u_Vq_In _ k_In_0) (wcs (u_Vq_In _ k_In_28) (fun _ h => h))) rfl rfl rfl (by decide +kernel) ⟨Nat.le_of_ble_eq_true rfl, Nat.le_of_ble_eq_true rfl⟩) (pv_ofE (X.same _) (fun U z1 z2 => X.mono _ _ U hFc (hEw _ _ hS U z1 z2)) hP hK hD (va_recv hK hP (ci := 6) (q0 := 9) rfl rfl)) rfl rfl hl.1 rfl (lv_room (Nat.le_of_ble_eq_true rfl)) d_Vt_enter_98 ⟨ly_c0 mF.1, ly_c0 mF.2⟩) hS (fun q _ h => hFc q h) hFc (fun r_ u t H locs ht hvm hw hB hz1 hk1 hS => ?_)
      rw [hw]
      obtain ⟨hP, -, hD⟩ := hB
      rw [ht] at hP
      have hD := lx_dj hD hFc
      refine lv_goto (tgt := 115) hx hb d_Vt_enter_101 (by decide) ?_
      exact lf_xo h
  have hB_66 : ∀ (y_2 : Int32) (y_3 : Int32) (Y : CT) (G : CG) (S : CS) (H : Heap) (locs : List Loc) (ls : Array Slot), f_Vt_enter_66 K y_2 y_3 G S = some (.error 0, G', S') → CG.le G0 G → va_P (dC, dI) classes (wV M Y G S) H → va_D A (wV M Y G S) → va_S A s.heap H locs → lv_has ls 4 [(0, .ref M.o_Vt), (2, .int y_2), (3, .int y_3)] → W p l e ({ frames := 8, cells := G'.gc - G0.gc, slots := G'.gs - G0.gs, locals := 224 }) s m ([.ref M.o_Vt, .int p0] : List Value).toArray below meth c H locs (G.gc - G0.gc) (G.gs - G0.gs) Q (F0 m 66 ls []) := by
    intro y_2 y_3 Y G S H locs ls h m0 hP hD hS hl
    have mF := mo_Vt_enter_66 h
    rw [f_Vt_enter_66] at h
    refine lv_aload_n hx hb d_Vt_enter_66 rfl (lv_at hl 0 rfl) ?_
    refine lv_iload_n hx hb d_Vt_enter_67 rfl (lv_at hl 1 rfl) ?_
    refine lv_if_eq (tgt := 82) hx hb d_Vt_enter_68 (by decide) (fun c_11 => ?_) (fun c_11 => ?_)
    · have h := lf_t h c_11
      refine lv_iload_n hx hb d_Vt_enter_82 rfl (lv_at hl 2 rfl) ?_
      exact hB_83 y_2 y_3 Y G S _ _ _ h m0 hP hD hS (lv_sub hl [0, 1] rfl)
    · have h := lf_f h c_11
      refine lv_aload_n hx hb d_Vt_enter_71 rfl (lv_at hl 0 rfl) ?_
      refine va_get (D := (dC, dI)) (ci := 11) (v := .ref M.o_In) (C := R_Vt) (T := F_Vt) (N := 16) hx hb hts (fun w h => u_Vq_Vt w (i_Vt w h)) hown hK hP 0 rfl rfl 8 (by decide) (hts _ (u_Vq_Vt _ k_Vt_37)) (fun _ h9 => h9) rfl d_Vt_enter_72 ?_
      refine lv_iload_n hx hb d_Vt_enter_75 rfl (lv_at hl 2 rfl) ?_
      obtain ⟨r_12, S_12, hc_12, h⟩ := lf_cE h
      have hFc := lx_free hD hS hA
      refine va_calli (va_runV (As := [.int y_3]) (rest := [.ref M.o_Vt]) ⟨hx, hb, hml, hown, hts⟩ (l_In_inodeOf l dC dI X _ hc_12) (cwV 1 hts (gwV good_Vq (u_Vq_Vt _ k_Vt_157) (u_Vq_In _ k_In_50) (u_Vq_In _ k_In_51) (u_Vq_In _ k_In_0) (wcs (u_Vq_In _ k_In_52) (fun _ h => h))) rfl rfl rfl (by decide +kernel) ⟨Nat.le_of_ble_eq_true rfl, Nat.le_of_ble_eq_true rfl⟩) (pv_ofE (X.same _) (fun U z1 z2 => X.mono _ _ U hFc (hEw _ _ hS U z1 z2)) hP hK hD (va_recv hK hP (ci := 6) (q0 := 9) rfl rfl)) rfl rfl hl.1 rfl (lv_room (Nat.le_of_ble_eq_true rfl)) d_Vt_enter_76 ⟨ly_c0 mF.1, ly_c0 mF.2⟩) hS (fun q _ h => hFc q h) hFc (fun r_ u t H locs ht hvm hw hB hz1 hk1 hS => ?_)
      rw [hw]
      obtain ⟨hP, -, hD⟩ := hB
      rw [ht] at hP
      have hD := lx_dj hD hFc
      refine lv_goto (tgt := 83) hx hb d_Vt_enter_79 (by decide) ?_
      exact hB_83 y_2 r_12 Y G S_12 _ _ _ h m0 hP hD hS (lv_sub hl [0, 1] rfl)
  have hB_26 : ∀ (y_2 : Int32) (z_0 : Int32) (Y : CT) (G : CG) (S : CS) (H : Heap) (locs : List Loc) (ls : Array Slot), f_Vt_enter_26 K y_2 z_0 G S = some (.error 0, G', S') → CG.le G0 G → va_P (dC, dI) classes (wV M Y G S) H → va_D A (wV M Y G S) → va_S A s.heap H locs → lv_has ls 4 [(0, .ref M.o_Vt), (2, .int y_2)] → W p l e ({ frames := 8, cells := G'.gc - G0.gc, slots := G'.gs - G0.gs, locals := 224 }) s m ([.ref M.o_Vt, .int p0] : List Value).toArray below meth c H locs (G.gc - G0.gc) (G.gs - G0.gs) Q (F0 m 26 ls [.int z_0]) := by
    intro y_2 z_0 Y G S H locs ls h m0 hP hD hS hl
    have mF := mo_Vt_enter_26 h
    rw [f_Vt_enter_26] at h
    refine lv_istore_n (lv' := [(3, .int z_0), (0, .ref M.o_Vt), (2, .int y_2)]) hx hb d_Vt_enter_26 rfl hl (by decide) rfl (fun ls hl => ?_)
    refine lv_iload_n hx hb d_Vt_enter_27 rfl (lv_at hl 2 rfl) ?_
    refine lv_if_eq (tgt := 45) hx hb d_Vt_enter_28 (by decide) (fun c_6 => ?_) (fun c_6 => ?_)
    · have h := lf_t h c_6
      refine lv_aload_n hx hb d_Vt_enter_45 rfl (lv_at hl 1 rfl) ?_
      refine va_get (D := (dC, dI)) (ci := 11) (v := .ref M.o_Tr) (C := R_Vt) (T := F_Vt) (N := 16) hx hb hts (fun w h => u_Vq_Vt w (i_Vt w h)) hown hK hP 0 rfl rfl 3 (by decide) (hts _ (u_Vq_Vt _ k_Vt_32)) (fun _ h9 => h9) rfl d_Vt_enter_46 ?_
      refine lv_iload_n hx hb d_Vt_enter_49 rfl (lv_at hl 0 rfl) ?_
      obtain ⟨r_7, S_7, hc_7, h⟩ := lf_cE h
      have hFc := lx_free hD hS hA
      refine va_calli (va_runV (As := [.int z_0]) (rest := []) ⟨hx, hb, hml, hown, hts⟩ (l_Tr_isDirectory l dC dI X _ hc_7) (cwV 1 hts (gwV good_Vq (u_Vq_Vt _ k_Vt_142) (u_Vq_Tr _ k_Tr_42) (u_Vq_Tr _ k_Tr_43) (u_Vq_Tr _ k_Tr_0) (wcs (u_Vq_Tr _ k_Tr_44) (fun _ h => h))) rfl rfl rfl (by decide +kernel) ⟨Nat.le_of_ble_eq_true rfl, Nat.le_of_ble_eq_true rfl⟩) (pv_ofE (X.same _) (fun U z1 z2 => X.mono _ _ U hFc (hEw _ _ hS U z1 z2)) hP hK hD (va_recv hK hP (ci := 5) (q0 := 4) rfl rfl)) rfl rfl hl.1 rfl (lv_room (Nat.le_of_ble_eq_true rfl)) d_Vt_enter_50 ⟨ly_c0 mF.1, ly_c0 mF.2⟩) hS (fun q _ h => hFc q h) hFc (fun r_ u t H locs ht hvm hw hB hz1 hk1 hS => ?_)
      rw [hw]
      obtain ⟨hP, -, hD⟩ := hB
      rw [ht] at hP
      have hD := lx_dj hD hFc
      refine lv_if_ne (tgt := 66) hx hb d_Vt_enter_53 (by decide) (fun c_8 => ?_) (fun c_8 => ?_)
      · have h := lf_f h c_8
        exact hB_66 y_2 z_0 Y G S_7 _ _ _ h m0 hP hD hS (lv_sub hl [1, 2, 0] rfl)
      · have h := lf_t h c_8
        exact hB_56 Y G S_7 _ _ _ h m0 hP hD hS (lv_sub hl [] rfl)
    · have h := lf_f h c_6
      refine lv_aload_n hx hb d_Vt_enter_31 rfl (lv_at hl 1 rfl) ?_
      refine va_get (D := (dC, dI)) (ci := 11) (v := .ref M.o_In) (C := R_Vt) (T := F_Vt) (N := 16) hx hb hts (fun w h => u_Vq_Vt w (i_Vt w h)) hown hK hP 0 rfl rfl 8 (by decide) (hts _ (u_Vq_Vt _ k_Vt_37)) (fun _ h9 => h9) rfl d_Vt_enter_32 ?_
      refine lv_iload_n hx hb d_Vt_enter_35 rfl (lv_at hl 0 rfl) ?_
      obtain ⟨r_9, S_9, hc_9, h⟩ := lf_cE h
      have hFc := lx_free hD hS hA
      refine va_calli (va_runV (As := [.int z_0]) (rest := []) ⟨hx, hb, hml, hown, hts⟩ (l_In_isDirectory l dC dI X _ hc_9) (cwV 1 hts (gwV good_Vq (u_Vq_Vt _ k_Vt_156) (u_Vq_In _ k_In_54) (u_Vq_In _ k_In_55) (u_Vq_In _ k_In_0) (wcs (u_Vq_In _ k_In_56) (fun _ h => h))) rfl rfl rfl (by decide +kernel) ⟨Nat.le_of_ble_eq_true rfl, Nat.le_of_ble_eq_true rfl⟩) (pv_ofE (X.same _) (fun U z1 z2 => X.mono _ _ U hFc (hEw _ _ hS U z1 z2)) hP hK hD (va_recv hK hP (ci := 6) (q0 := 9) rfl rfl)) rfl rfl hl.1 rfl (lv_room (Nat.le_of_ble_eq_true rfl)) d_Vt_enter_36 ⟨ly_c0 mF.1, ly_c0 mF.2⟩) hS (fun q _ h => hFc q h) hFc (fun r_ u t H locs ht hvm hw hB hz1 hk1 hS => ?_)
      rw [hw]
      obtain ⟨hP, -, hD⟩ := hB
      rw [ht] at hP
      have hD := lx_dj hD hFc
      refine lv_if_ne (tgt := 66) hx hb d_Vt_enter_39 (by decide) (fun c_10 => ?_) (fun c_10 => ?_)
      · have h := lf_f h c_10
        exact hB_66 y_2 z_0 Y G S_9 _ _ _ h m0 hP hD hS (lv_sub hl [1, 2, 0] rfl)
      · have h := lf_t h c_10
        refine lv_goto (tgt := 56) hx hb d_Vt_enter_42 (by decide) ?_
        exact hB_56 Y G S_9 _ _ _ h m0 hP hD hS (lv_sub hl [] rfl)
  have hB_18 : ∀ (y_2 : Int32) (z_0 : Int32) (Y : CT) (G : CG) (S : CS) (H : Heap) (locs : List Loc) (ls : Array Slot), f_Vt_enter_18 K y_2 z_0 G S = some (.error 0, G', S') → CG.le G0 G → va_P (dC, dI) classes (wV M Y G S) H → va_D A (wV M Y G S) → va_S A s.heap H locs → lv_has ls 4 [(0, .ref M.o_Vt), (2, .int y_2)] → W p l e ({ frames := 8, cells := G'.gc - G0.gc, slots := G'.gs - G0.gs, locals := 224 }) s m ([.ref M.o_Vt, .int p0] : List Value).toArray below meth c H locs (G.gc - G0.gc) (G.gs - G0.gs) Q (F0 m 18 ls [.int z_0]) := by
    intro y_2 z_0 Y G S H locs ls h m0 hP hD hS hl
    have mF := mo_Vt_enter_18 h
    rw [f_Vt_enter_18] at h
    refine lv_goto (tgt := 26) hx hb d_Vt_enter_18 (by decide) ?_
    exact hB_26 y_2 z_0 Y G S _ _ _ h m0 hP hD hS (lv_sub hl [0, 1] rfl)
  have hB_8 : ∀ (y_1 : Int32) (z_0 : Int32) (Y : CT) (G : CG) (S : CS) (H : Heap) (locs : List Loc) (ls : Array Slot), f_Vt_enter_8 K y_1 z_0 G S = some (.error 0, G', S') → CG.le G0 G → va_P (dC, dI) classes (wV M Y G S) H → va_D A (wV M Y G S) → va_S A s.heap H locs → lv_has ls 4 [(0, .ref M.o_Vt), (1, .int y_1)] → W p l e ({ frames := 8, cells := G'.gc - G0.gc, slots := G'.gs - G0.gs, locals := 224 }) s m ([.ref M.o_Vt, .int p0] : List Value).toArray below meth c H locs (G.gc - G0.gc) (G.gs - G0.gs) Q (F0 m 8 ls [.int z_0]) := by
    intro y_1 z_0 Y G S H locs ls h m0 hP hD hS hl
    have mF := mo_Vt_enter_8 h
    rw [f_Vt_enter_8] at h
    refine lv_istore_n (lv' := [(2, .int z_0), (0, .ref M.o_Vt), (1, .int y_1)]) hx hb d_Vt_enter_8 rfl hl (by decide) rfl (fun ls hl => ?_)
    refine lv_iload_n hx hb d_Vt_enter_9 rfl (lv_at hl 0 rfl) ?_
    refine lv_if_eq (tgt := 21) hx hb d_Vt_enter_10 (by decide) (fun c_3 => ?_) (fun c_3 => ?_)
    · have h := lf_t h c_3
      refine lv_aload_n hx hb d_Vt_enter_21 rfl (lv_at hl 1 rfl) ?_
      refine lv_iload_n hx hb d_Vt_enter_22 rfl (lv_at hl 2 rfl) ?_
      rcases lf_aT h with ⟨r_4, G_4, S_4, hc_4, h⟩ | h9
      · have mc := mo_Vt_itemHere hc_4
        have ml_4 := mo_Vt_itemHere hc_4
        have mF1 := mo_Vt_enter_26 h
        have hFc := lx_free hD hS hA
        refine va_calli (va_runV (As := [.int y_1]) (rest := []) ⟨hx, hb, hml, hown, hts⟩ (l_Vt_itemHere l dC dI X _ hc_4) (cwV 1 hts (gwV good_Vq (u_Vq_Vt _ k_Vt_130) (u_Vq_Vt _ k_Vt_131) (u_Vq_Vt _ k_Vt_217) (u_Vq_Vt _ k_Vt_0) (wcs (u_Vq_Vt _ k_Vt_132) (fun _ h => h))) rfl rfl rfl (by decide +kernel) ⟨Nat.le_of_ble_eq_true rfl, Nat.le_of_ble_eq_true rfl⟩) (pv_ofE (X.same _) (fun U z1 z2 => X.mono _ _ U hFc (hEw _ _ hS U z1 z2)) hP hK hD (va_recv hK hP (ci := 11) (q0 := 0) rfl rfl)) rfl rfl hl.1 rfl (lv_room (Nat.le_of_ble_eq_true rfl)) d_Vt_enter_23 ⟨ly_c1 m0.1 mc.1 mF1.1, ly_c1 m0.2 mc.2 mF1.2⟩) hS (fun q _ h => hFc q h) hFc (fun r_ Y_4 t H locs ht hvm hw hB hz1 hk1 hS => ?_)
        rw [hw]
        obtain ⟨hP, -, hD⟩ := hB
        rw [ht] at hP
        have hD := lx_dj hD hFc
        refine W.widen (k := G_4.gc - G0.gc) (n := G_4.gs - G0.gs) (ly_c2 m0.1 mc.1) (ly_c2 m0.2 mc.2) ?_
        have m0 := CG.le_tr m0 mc
        exact hB_26 z_0 r_4 Y_4 G_4 S_4 _ _ _ h m0 hP hD hS (lv_sub hl [1, 0] rfl)
      · exact absurd (th_Vt_itemHere h9) (by decide)
    · have h := lf_f h c_3
      refine lv_aload_n hx hb d_Vt_enter_13 rfl (lv_at hl 1 rfl) ?_
      refine lv_iload_n hx hb d_Vt_enter_14 rfl (lv_at hl 2 rfl) ?_
      rcases lf_aT h with ⟨r_5, G_5, S_5, hc_5, h⟩ | h9
      · have mc := mo_Vt_entryHere hc_5
        have ml_5 := mo_Vt_entryHere hc_5
        have mF1 := mo_Vt_enter_18 h
        have hFc := lx_free hD hS hA
        refine va_calli (va_runV (As := [.int y_1]) (rest := []) ⟨hx, hb, hml, hown, hts⟩ (l_Vt_entryHere l dC dI X _ hc_5) (cwV 1 hts (gwV good_Vq (u_Vq_Vt _ k_Vt_122) (u_Vq_Vt _ k_Vt_123) (u_Vq_Vt _ k_Vt_218) (u_Vq_Vt _ k_Vt_0) (wcs (u_Vq_Vt _ k_Vt_124) (fun _ h => h))) rfl rfl rfl (by decide +kernel) ⟨Nat.le_of_ble_eq_true rfl, Nat.le_of_ble_eq_true rfl⟩) (pv_ofE (X.same _) (fun U z1 z2 => X.mono _ _ U hFc (hEw _ _ hS U z1 z2)) hP hK hD (va_recv hK hP (ci := 11) (q0 := 0) rfl rfl)) rfl rfl hl.1 rfl (lv_room (Nat.le_of_ble_eq_true rfl)) d_Vt_enter_15 ⟨ly_c1 m0.1 mc.1 mF1.1, ly_c1 m0.2 mc.2 mF1.2⟩) hS (fun q _ h => hFc q h) hFc (fun r_ Y_5 t H locs ht hvm hw hB hz1 hk1 hS => ?_)
        rw [hw]
        obtain ⟨hP, -, hD⟩ := hB
        rw [ht] at hP
        have hD := lx_dj hD hFc
        refine W.widen (k := G_5.gc - G0.gc) (n := G_5.gs - G0.gs) (ly_c2 m0.1 mc.1) (ly_c2 m0.2 mc.2) ?_
        have m0 := CG.le_tr m0 mc
        exact hB_18 z_0 r_5 Y_5 G_5 S_5 _ _ _ h m0 hP hD hS (lv_sub hl [1, 0] rfl)
      · exact absurd (th_Vt_entryHere h9) (by decide)
  have hB_5 : ∀ (y_1 : Int32) (z_1 : Int32) (Y : CT) (G : CG) (S : CS) (H : Heap) (locs : List Loc) (ls : Array Slot), f_Vt_enter_5 K y_1 z_1 G S = some (.error 0, G', S') → CG.le G0 G → va_P (dC, dI) classes (wV M Y G S) H → va_D A (wV M Y G S) → va_S A s.heap H locs → lv_has ls 4 [(0, .ref M.o_Vt), (1, .int y_1)] → W p l e ({ frames := 8, cells := G'.gc - G0.gc, slots := G'.gs - G0.gs, locals := 224 }) s m ([.ref M.o_Vt, .int p0] : List Value).toArray below meth c H locs (G.gc - G0.gc) (G.gs - G0.gs) Q (F0 m 5 ls [.int z_1, .ref M.o_Vt]) := by
    intro y_1 z_1 Y G S H locs ls h m0 hP hD hS hl
    have mF := mo_Vt_enter_5 h
    rw [f_Vt_enter_5] at h
    rcases lf_aT h with ⟨r_2, G_2, S_2, hc_2, h⟩ | h9
    · have mc := mo_Vt_readsInodes hc_2
      have ml_2 := mo_Vt_readsInodes hc_2
      have mF1 := mo_Vt_enter_8 h
      have hFc := lx_free hD hS hA
      refine va_calli (va_runV (As := [.int z_1]) (rest := []) ⟨hx, hb, hml, hown, hts⟩ (l_Vt_readsInodes l dC dI X _ hc_2) (cwV 1 hts (gwV good_Vq (u_Vq_Vt _ k_Vt_111) (u_Vq_Vt _ k_Vt_112) (u_Vq_Vt _ k_Vt_215) (u_Vq_Vt _ k_Vt_0) (wcs (u_Vq_Vt _ k_Vt_113) (fun _ h => h))) rfl rfl rfl (by decide +kernel) ⟨Nat.le_of_ble_eq_true rfl, Nat.le_of_ble_eq_true rfl⟩) (pv_ofE (X.same _) (fun U z1 z2 => X.mono _ _ U hFc (hEw _ _ hS U z1 z2)) hP hK hD (va_recv hK hP (ci := 11) (q0 := 0) rfl rfl)) rfl rfl hl.1 rfl (lv_room (Nat.le_of_ble_eq_true rfl)) d_Vt_enter_5 ⟨ly_c1 m0.1 mc.1 mF1.1, ly_c1 m0.2 mc.2 mF1.2⟩) hS (fun q _ h => hFc q h) hFc (fun r_ Y_2 t H locs ht hvm hw hB hz1 hk1 hS => ?_)
      rw [hw]
      obtain ⟨hP, -, hD⟩ := hB
      rw [ht] at hP
      have hD := lx_dj hD hFc
      refine W.widen (k := G_2.gc - G0.gc) (n := G_2.gs - G0.gs) (ly_c2 m0.1 mc.1) (ly_c2 m0.2 mc.2) ?_
      have m0 := CG.le_tr m0 mc
      exact hB_8 y_1 r_2 Y_2 G_2 S_2 _ _ _ h m0 hP hD hS (lv_sub hl [0, 1] rfl)
    · exact absurd (th_Vt_readsInodes h9) (by decide)
  have m0 : CG.le G0 G0 := ⟨Nat.le_refl _, Nat.le_refl _⟩
  have mF := mo_Vt_enter h
  refine W.widen (k := G0.gc - G0.gc) (n := G0.gs - G0.gs) (Nat.zero_le _) (Nat.zero_le _) ?_
  rw [f_Vt_enter] at h
  refine lv_aload_n hx hb d_Vt_enter_0 rfl (lv_at hl 0 rfl) ?_
  refine lv_aload_n hx hb d_Vt_enter_1 rfl (lv_at hl 0 rfl) ?_
  obtain ⟨r_1, G_1, S_1, hc_1, h⟩ := lf_nE h
  have mc := mo_Vt_look hc_1
  have ml_1 := mo_Vt_look hc_1
  have mF1 := mo_Vt_enter_5 h
  have hFc := lx_free hD hS hA
  refine va_calli (va_runV (As := []) (rest := [.ref M.o_Vt]) ⟨hx, hb, hml, hown, hts⟩ (l_Vt_look l dC dI X _ hc_1) (cwV 0 hts (gwV good_Vq (u_Vq_Vt _ k_Vt_68) (u_Vq_Vt _ k_Vt_69) (u_Vq_Vt _ k_Vt_214) (u_Vq_Vt _ k_Vt_0) (wcs (u_Vq_Vt _ k_Vt_70) (fun _ h => h))) rfl rfl rfl (by decide +kernel) ⟨Nat.le_of_ble_eq_true rfl, Nat.le_of_ble_eq_true rfl⟩) (pv_ofE (X.same _) (fun U z1 z2 => X.mono _ _ U hFc (hEw _ _ hS U z1 z2)) hP hK hD (va_recv hK hP (ci := 11) (q0 := 0) rfl rfl)) rfl rfl hl.1 rfl (lv_room (Nat.le_of_ble_eq_true rfl)) d_Vt_enter_2 ⟨ly_c1 m0.1 mc.1 mF1.1, ly_c1 m0.2 mc.2 mF1.2⟩) hS (fun q _ h => hFc q h) hFc (fun r_ Y_1 t H locs ht hvm hw hB hz1 hk1 hS => ?_)
  rw [hw]
  obtain ⟨hP, -, hD⟩ := hB
  rw [ht] at hP
  have hD := lx_dj hD hFc
  refine W.widen (k := G_1.gc - G0.gc) (n := G_1.gs - G0.gs) (ly_c2 m0.1 mc.1) (ly_c2 m0.2 mc.2) ?_
  have m0 := CG.le_tr m0 mc
  exact hB_5 p0 r_1 Y_1 G_1 S_1 _ _ _ h m0 hP hD hS (lv_sub hl [0, 1] rfl)
set_option maxHeartbeats 4000000 in
set_option maxRecDepth 100000 in
theorem lt_Vt_enter_1 (l : Launch) (hfl : l.flags = pinnedFlags ++ [noTraceFlag]) (dC : Nat → ClassId) (dI : Nat → Nat → Nat) {K : Nat} {M : CA} {E : (Nat → Prop) → State → Prop} (X : ly_X l dC dI K M E) (sz : Nat) {Y : CT} {G0 G' : CG} {S S' : CS} {p0 : Int32} (h : f_Vt_enter K G0 S p0 = some (.error 1, G', S')) : MetX l y_Vt_enter (.code y_Vt_enter cb_Vt_enter 4 (some .int) :: V_Vq) ({ frames := 8, cells := G'.gc - G0.gc, slots := G'.gs - G0.gs, locals := 224 }) (va_Pc [.ref M.o_Vt, .int p0] (fun U => U.heap.size = sz ∧ at_ (dC, dI) (fun _ => True) (wV M Y G0 S) (tV M) U ∧ E (va_A (wV M Y G0 S) sz) U)) (fun _ _ _ _ => False) (x_Q "java/lang/IllegalStateException" (va_A (wV M Y G0 S) sz) (fun t => ∃ u : CT, at_ (dC, dI) (va_A (wV M Y G0 S) sz) (wV M u G' S') (tV M) t)) (G'.gc - G0.gc) (G'.gs - G0.gs) (va_A (wV M Y G0 S) sz) := by
  refine MetX.ofW (cc := cb_Vt_enter) (maxL := 4) (ret := (some .int)) (by decide) rfl ?_
  intro p e s m args below meth c s₁ B hml hv
  obtain ⟨rfl, hsz, ⟨hP, hK, hD0⟩, hE⟩ := hv
  have hx := B.exec
  have hb := B.bytes
  have hr := B.returns
  have hts0 := atoms_spec (ws := .code y_Vt_enter cb_Vt_enter 4 (some .int) :: V_Vq) B.pre
  have hts : ∀ w ∈ V_Vq, w.before ([.ref M.o_Vt, .int p0] : List Value).toArray s = true := fun w h => hts0 w (List.mem_cons_of_mem _ h)
  have hown : s.vm.findClass R_Vt = some m.cls := findClass_of_methodNamed B.named
  have hlocks := B.notSynchronized
  have hout := x_table B (hts0 _ List.mem_cons_self)
  subst hsz
  have hD := hD0.self (sz := s.heap.size)
  generalize hAe : va_A (wV M Y G0 S) s.heap.size = A at hD hE ⊢
  have hA : ∀ q : Nat, s.heap.size ≤ q → A q := fun q h => by rw [← hAe]; exact Or.inr h
  have hS : va_S A s.heap s.heap [] := va_S.rf
  have hP : va_P (dC, dI) classes (wV M Y G0 S) s.heap := hP
  have hK : va_K (dC, dI) classes (tV M) s := hK
  have hEw : ∀ (H : Heap) (locs : List Loc), va_S A s.heap H locs → ∀ U : State, U.heap = H → s.WarmedH U.vm → E A U := fun H locs hS U hU hW => X.kept A s U H locs hE hS hU hW
  have hl := lv_entry ([.ref M.o_Vt, .int p0]) (n := 4) (Nat.le_of_ble_eq_true rfl)
  rw [lg_entry_eq]
  generalize (lg_sl ([.ref M.o_Vt, .int p0]) ++ List.replicate (4 - (lg_sl ([.ref M.o_Vt, .int p0])).length) Slot.unset).toArray = ls at hl ⊢
  have hl : lv_has ls 4 [(0, .ref M.o_Vt), (1, .int p0)] := hl
  refine qabs (fun Q hQ => ?_)
  have hB_56 : ∀ (Y : CT) (G : CG) (S : CS) (H : Heap) (locs : List Loc) (ls : Array Slot), f_Vt_enter_56 K G S = some (.error 1, G', S') → CG.le G0 G → va_P (dC, dI) classes (wV M Y G S) H → va_D A (wV M Y G S) → va_S A s.heap H locs → lv_has ls 4 [] → W p l e ({ frames := 8, cells := G'.gc - G0.gc, slots := G'.gs - G0.gs, locals := 224 }) s m ([.ref M.o_Vt, .int p0] : List Value).toArray below meth c H locs (G.gc - G0.gc) (G.gs - G0.gs) Q (F0 m 56 ls []) := by
    intro Y G S H locs ls h m0 hP hD hS hl
    have mF := mo_Vt_enter_56 h
    rw [f_Vt_enter_56] at h
    exact lf_xk h (by decide)
  have hB_83 : ∀ (y_2 : Int32) (z_1 : Int32) (Y : CT) (G : CG) (S : CS) (H : Heap) (locs : List Loc) (ls : Array Slot), f_Vt_enter_83 K y_2 z_1 G S = some (.error 1, G', S') → CG.le G0 G → va_P (dC, dI) classes (wV M Y G S) H → va_D A (wV M Y G S) → va_S A s.heap H locs → lv_has ls 4 [(0, .ref M.o_Vt), (2, .int y_2)] → W p l e ({ frames := 8, cells := G'.gc - G0.gc, slots := G'.gs - G0.gs, locals := 224 }) s m ([.ref M.o_Vt, .int p0] : List Value).toArray below meth c H locs (G.gc - G0.gc) (G.gs - G0.gs) Q (F0 m 83 ls [.int z_1, .ref M.o_Vt]) := by
    intro y_2 z_1 Y G S H locs ls h m0 hP hD hS hl
    have mF := mo_Vt_enter_83 h
    rw [f_Vt_enter_83] at h
    refine va_put (D := (dC, dI)) (ci := 11) (v := .int z_1) (ty := .int) (C := R_Vt) (T := F_Vt) (N := 16) hx hb hts (fun w h => u_Vq_Vt w (i_Vt w h)) t_Vt t_Vt_ok n_Vt hown hK hP hD hS 0 rfl rfl 12 (by decide) (hts _ (u_Vq_Vt _ k_Vt_41)) (fun _ h9 => h9) rfl (by decide +kernel) rfl rfl (Nat.le_of_ble_eq_true rfl) d_Vt_enter_83 (fun H locs hP hD hS => ?_)
    obtain ⟨S_13, eS_13, h⟩ := lf_lX h
    have hP := ly_newP eS_13 hP
    have hD := ly_newD eS_13 hD
    refine lv_iload_n hx hb d_Vt_enter_86 rfl (lv_at hl 1 rfl) ?_
    refine lv_if_eq (tgt := 104) hx hb d_Vt_enter_87 (by decide) (fun c_14 => ?_) (fun c_14 => ?_)
    · have h := lf_t h c_14
      refine lv_aload_n hx hb d_Vt_enter_104 rfl (lv_at hl 0 rfl) ?_
      refine va_get (D := (dC, dI)) (ci := 11) (v := .ref M.o_Tr) (C := R_Vt) (T := F_Vt) (N := 16) hx hb hts (fun w h => u_Vq_Vt w (i_Vt w h)) hown hK hP 0 rfl rfl 3 (by decide) (hts _ (u_Vq_Vt _ k_Vt_32)) (fun _ h9 => h9) rfl d_Vt_enter_105 ?_
      refine lv_aload_n hx hb d_Vt_enter_108 rfl (lv_at hl 0 rfl) ?_
      refine va_get (D := (dC, dI)) (ci := 11) (v := .int S_13.v_Vt_here) (C := R_Vt) (T := F_Vt) (N := 16) hx hb hts (fun w h => u_Vq_Vt w (i_Vt w h)) hown hK hP 0 rfl rfl 12 (by decide) (hts _ (u_Vq_Vt _ k_Vt_41)) (fun _ h9 => h9) rfl d_Vt_enter_109 ?_
      obtain ⟨r_15, S_15, hc_15, h⟩ := lf_cE h
      have hFc := lx_free hD hS hA
      refine va_calli (va_runV (As := [.int S_13.v_Vt_here]) (rest := []) ⟨hx, hb, hml, hown, hts⟩ (l_Tr_countIn l dC dI X _ hc_15) (cwV 1 hts (gwV good_Vq (u_Vq_Vt _ k_Vt_118) (u_Vq_Tr _ k_Tr_91) (u_Vq_Tr _ k_Tr_92) (u_Vq_Tr _ k_Tr_0) (wcs (u_Vq_Tr _ k_Tr_93) (fun _ h => h))) rfl rfl rfl (by decide +kernel) ⟨Nat.le_of_ble_eq_true rfl, Nat.le_of_ble_eq_true rfl⟩) (pv_ofE (X.same _) (fun U z1 z2 => X.mono _ _ U hFc (hEw _ _ hS U z1 z2)) hP hK hD (va_recv hK hP (ci := 5) (q0 := 4) rfl rfl)) rfl rfl hl.1 rfl (lv_room (Nat.le_of_ble_eq_true rfl)) d_Vt_enter_112 ⟨ly_c0 mF.1, ly_c0 mF.2⟩) hS (fun q _ h => hFc q h) hFc (fun r_ u t H locs ht hvm hw hB hz1 hk1 hS => ?_)
      rw [hw]
      obtain ⟨hP, -, hD⟩ := hB
      rw [ht] at hP
      have hD := lx_dj hD hFc
      exact lf_xo h
    · have h := lf_f h c_14
      refine lv_aload_n hx hb d_Vt_enter_90 rfl (lv_at hl 0 rfl) ?_
      refine va_get (D := (dC, dI)) (ci := 11) (v := .ref M.o_In) (C := R_Vt) (T := F_Vt) (N := 16) hx hb hts (fun w h => u_Vq_Vt w (i_Vt w h)) hown hK hP 0 rfl rfl 8 (by decide) (hts _ (u_Vq_Vt _ k_Vt_37)) (fun _ h9 => h9) rfl d_Vt_enter_91 ?_
      refine lv_aload_n hx hb d_Vt_enter_94 rfl (lv_at hl 0 rfl) ?_
      refine va_get (D := (dC, dI)) (ci := 11) (v := .int S_13.v_Vt_here) (C := R_Vt) (T := F_Vt) (N := 16) hx hb hts (fun w h => u_Vq_Vt w (i_Vt w h)) hown hK hP 0 rfl rfl 12 (by decide) (hts _ (u_Vq_Vt _ k_Vt_41)) (fun _ h9 => h9) rfl d_Vt_enter_95 ?_
      obtain ⟨r_16, S_16, hc_16, h⟩ := lf_cE h
      have hFc := lx_free hD hS hA
      refine va_calli (va_runV (As := [.int S_13.v_Vt_here]) (rest := []) ⟨hx, hb, hml, hown, hts⟩ (l_In_countIn l dC dI X _ hc_16) (cwV 1 hts (gwV good_Vq (u_Vq_Vt _ k_Vt_117) (u_Vq_In _ k_In_26) (u_Vq_In _ k_In_27) (u_Vq_In _ k_In_0) (wcs (u_Vq_In _ k_In_28) (fun _ h => h))) rfl rfl rfl (by decide +kernel) ⟨Nat.le_of_ble_eq_true rfl, Nat.le_of_ble_eq_true rfl⟩) (pv_ofE (X.same _) (fun U z1 z2 => X.mono _ _ U hFc (hEw _ _ hS U z1 z2)) hP hK hD (va_recv hK hP (ci := 6) (q0 := 9) rfl rfl)) rfl rfl hl.1 rfl (lv_room (Nat.le_of_ble_eq_true rfl)) d_Vt_enter_98 ⟨ly_c0 mF.1, ly_c0 mF.2⟩) hS (fun q _ h => hFc q h) hFc (fun r_ u t H locs ht hvm hw hB hz1 hk1 hS => ?_)
      rw [hw]
      obtain ⟨hP, -, hD⟩ := hB
      rw [ht] at hP
      have hD := lx_dj hD hFc
      refine lv_goto (tgt := 115) hx hb d_Vt_enter_101 (by decide) ?_
      exact lf_xo h
  have hB_66 : ∀ (y_2 : Int32) (y_3 : Int32) (Y : CT) (G : CG) (S : CS) (H : Heap) (locs : List Loc) (ls : Array Slot), f_Vt_enter_66 K y_2 y_3 G S = some (.error 1, G', S') → CG.le G0 G → va_P (dC, dI) classes (wV M Y G S) H → va_D A (wV M Y G S) → va_S A s.heap H locs → lv_has ls 4 [(0, .ref M.o_Vt), (2, .int y_2), (3, .int y_3)] → W p l e ({ frames := 8, cells := G'.gc - G0.gc, slots := G'.gs - G0.gs, locals := 224 }) s m ([.ref M.o_Vt, .int p0] : List Value).toArray below meth c H locs (G.gc - G0.gc) (G.gs - G0.gs) Q (F0 m 66 ls []) := by
    intro y_2 y_3 Y G S H locs ls h m0 hP hD hS hl
    have mF := mo_Vt_enter_66 h
    rw [f_Vt_enter_66] at h
    refine lv_aload_n hx hb d_Vt_enter_66 rfl (lv_at hl 0 rfl) ?_
    refine lv_iload_n hx hb d_Vt_enter_67 rfl (lv_at hl 1 rfl) ?_
    refine lv_if_eq (tgt := 82) hx hb d_Vt_enter_68 (by decide) (fun c_11 => ?_) (fun c_11 => ?_)
    · have h := lf_t h c_11
      refine lv_iload_n hx hb d_Vt_enter_82 rfl (lv_at hl 2 rfl) ?_
      exact hB_83 y_2 y_3 Y G S _ _ _ h m0 hP hD hS (lv_sub hl [0, 1] rfl)
    · have h := lf_f h c_11
      refine lv_aload_n hx hb d_Vt_enter_71 rfl (lv_at hl 0 rfl) ?_
      refine va_get (D := (dC, dI)) (ci := 11) (v := .ref M.o_In) (C := R_Vt) (T := F_Vt) (N := 16) hx hb hts (fun w h => u_Vq_Vt w (i_Vt w h)) hown hK hP 0 rfl rfl 8 (by decide) (hts _ (u_Vq_Vt _ k_Vt_37)) (fun _ h9 => h9) rfl d_Vt_enter_72 ?_
      refine lv_iload_n hx hb d_Vt_enter_75 rfl (lv_at hl 2 rfl) ?_
      obtain ⟨r_12, S_12, hc_12, h⟩ := lf_cE h
      have hFc := lx_free hD hS hA
      refine va_calli (va_runV (As := [.int y_3]) (rest := [.ref M.o_Vt]) ⟨hx, hb, hml, hown, hts⟩ (l_In_inodeOf l dC dI X _ hc_12) (cwV 1 hts (gwV good_Vq (u_Vq_Vt _ k_Vt_157) (u_Vq_In _ k_In_50) (u_Vq_In _ k_In_51) (u_Vq_In _ k_In_0) (wcs (u_Vq_In _ k_In_52) (fun _ h => h))) rfl rfl rfl (by decide +kernel) ⟨Nat.le_of_ble_eq_true rfl, Nat.le_of_ble_eq_true rfl⟩) (pv_ofE (X.same _) (fun U z1 z2 => X.mono _ _ U hFc (hEw _ _ hS U z1 z2)) hP hK hD (va_recv hK hP (ci := 6) (q0 := 9) rfl rfl)) rfl rfl hl.1 rfl (lv_room (Nat.le_of_ble_eq_true rfl)) d_Vt_enter_76 ⟨ly_c0 mF.1, ly_c0 mF.2⟩) hS (fun q _ h => hFc q h) hFc (fun r_ u t H locs ht hvm hw hB hz1 hk1 hS => ?_)
      rw [hw]
      obtain ⟨hP, -, hD⟩ := hB
      rw [ht] at hP
      have hD := lx_dj hD hFc
      refine lv_goto (tgt := 83) hx hb d_Vt_enter_79 (by decide) ?_
      exact hB_83 y_2 r_12 Y G S_12 _ _ _ h m0 hP hD hS (lv_sub hl [0, 1] rfl)
  have hB_26 : ∀ (y_2 : Int32) (z_0 : Int32) (Y : CT) (G : CG) (S : CS) (H : Heap) (locs : List Loc) (ls : Array Slot), f_Vt_enter_26 K y_2 z_0 G S = some (.error 1, G', S') → CG.le G0 G → va_P (dC, dI) classes (wV M Y G S) H → va_D A (wV M Y G S) → va_S A s.heap H locs → lv_has ls 4 [(0, .ref M.o_Vt), (2, .int y_2)] → W p l e ({ frames := 8, cells := G'.gc - G0.gc, slots := G'.gs - G0.gs, locals := 224 }) s m ([.ref M.o_Vt, .int p0] : List Value).toArray below meth c H locs (G.gc - G0.gc) (G.gs - G0.gs) Q (F0 m 26 ls [.int z_0]) := by
    intro y_2 z_0 Y G S H locs ls h m0 hP hD hS hl
    have mF := mo_Vt_enter_26 h
    rw [f_Vt_enter_26] at h
    refine lv_istore_n (lv' := [(3, .int z_0), (0, .ref M.o_Vt), (2, .int y_2)]) hx hb d_Vt_enter_26 rfl hl (by decide) rfl (fun ls hl => ?_)
    refine lv_iload_n hx hb d_Vt_enter_27 rfl (lv_at hl 2 rfl) ?_
    refine lv_if_eq (tgt := 45) hx hb d_Vt_enter_28 (by decide) (fun c_6 => ?_) (fun c_6 => ?_)
    · have h := lf_t h c_6
      refine lv_aload_n hx hb d_Vt_enter_45 rfl (lv_at hl 1 rfl) ?_
      refine va_get (D := (dC, dI)) (ci := 11) (v := .ref M.o_Tr) (C := R_Vt) (T := F_Vt) (N := 16) hx hb hts (fun w h => u_Vq_Vt w (i_Vt w h)) hown hK hP 0 rfl rfl 3 (by decide) (hts _ (u_Vq_Vt _ k_Vt_32)) (fun _ h9 => h9) rfl d_Vt_enter_46 ?_
      refine lv_iload_n hx hb d_Vt_enter_49 rfl (lv_at hl 0 rfl) ?_
      obtain ⟨r_7, S_7, hc_7, h⟩ := lf_cE h
      have hFc := lx_free hD hS hA
      refine va_calli (va_runV (As := [.int z_0]) (rest := []) ⟨hx, hb, hml, hown, hts⟩ (l_Tr_isDirectory l dC dI X _ hc_7) (cwV 1 hts (gwV good_Vq (u_Vq_Vt _ k_Vt_142) (u_Vq_Tr _ k_Tr_42) (u_Vq_Tr _ k_Tr_43) (u_Vq_Tr _ k_Tr_0) (wcs (u_Vq_Tr _ k_Tr_44) (fun _ h => h))) rfl rfl rfl (by decide +kernel) ⟨Nat.le_of_ble_eq_true rfl, Nat.le_of_ble_eq_true rfl⟩) (pv_ofE (X.same _) (fun U z1 z2 => X.mono _ _ U hFc (hEw _ _ hS U z1 z2)) hP hK hD (va_recv hK hP (ci := 5) (q0 := 4) rfl rfl)) rfl rfl hl.1 rfl (lv_room (Nat.le_of_ble_eq_true rfl)) d_Vt_enter_50 ⟨ly_c0 mF.1, ly_c0 mF.2⟩) hS (fun q _ h => hFc q h) hFc (fun r_ u t H locs ht hvm hw hB hz1 hk1 hS => ?_)
      rw [hw]
      obtain ⟨hP, -, hD⟩ := hB
      rw [ht] at hP
      have hD := lx_dj hD hFc
      refine lv_if_ne (tgt := 66) hx hb d_Vt_enter_53 (by decide) (fun c_8 => ?_) (fun c_8 => ?_)
      · have h := lf_f h c_8
        exact hB_66 y_2 z_0 Y G S_7 _ _ _ h m0 hP hD hS (lv_sub hl [1, 2, 0] rfl)
      · have h := lf_t h c_8
        exact hB_56 Y G S_7 _ _ _ h m0 hP hD hS (lv_sub hl [] rfl)
    · have h := lf_f h c_6
      refine lv_aload_n hx hb d_Vt_enter_31 rfl (lv_at hl 1 rfl) ?_
      refine va_get (D := (dC, dI)) (ci := 11) (v := .ref M.o_In) (C := R_Vt) (T := F_Vt) (N := 16) hx hb hts (fun w h => u_Vq_Vt w (i_Vt w h)) hown hK hP 0 rfl rfl 8 (by decide) (hts _ (u_Vq_Vt _ k_Vt_37)) (fun _ h9 => h9) rfl d_Vt_enter_32 ?_
      refine lv_iload_n hx hb d_Vt_enter_35 rfl (lv_at hl 0 rfl) ?_
      obtain ⟨r_9, S_9, hc_9, h⟩ := lf_cE h
      have hFc := lx_free hD hS hA
      refine va_calli (va_runV (As := [.int z_0]) (rest := []) ⟨hx, hb, hml, hown, hts⟩ (l_In_isDirectory l dC dI X _ hc_9) (cwV 1 hts (gwV good_Vq (u_Vq_Vt _ k_Vt_156) (u_Vq_In _ k_In_54) (u_Vq_In _ k_In_55) (u_Vq_In _ k_In_0) (wcs (u_Vq_In _ k_In_56) (fun _ h => h))) rfl rfl rfl (by decide +kernel) ⟨Nat.le_of_ble_eq_true rfl, Nat.le_of_ble_eq_true rfl⟩) (pv_ofE (X.same _) (fun U z1 z2 => X.mono _ _ U hFc (hEw _ _ hS U z1 z2)) hP hK hD (va_recv hK hP (ci := 6) (q0 := 9) rfl rfl)) rfl rfl hl.1 rfl (lv_room (Nat.le_of_ble_eq_true rfl)) d_Vt_enter_36 ⟨ly_c0 mF.1, ly_c0 mF.2⟩) hS (fun q _ h => hFc q h) hFc (fun r_ u t H locs ht hvm hw hB hz1 hk1 hS => ?_)
      rw [hw]
      obtain ⟨hP, -, hD⟩ := hB
      rw [ht] at hP
      have hD := lx_dj hD hFc
      refine lv_if_ne (tgt := 66) hx hb d_Vt_enter_39 (by decide) (fun c_10 => ?_) (fun c_10 => ?_)
      · have h := lf_f h c_10
        exact hB_66 y_2 z_0 Y G S_9 _ _ _ h m0 hP hD hS (lv_sub hl [1, 2, 0] rfl)
      · have h := lf_t h c_10
        refine lv_goto (tgt := 56) hx hb d_Vt_enter_42 (by decide) ?_
        exact hB_56 Y G S_9 _ _ _ h m0 hP hD hS (lv_sub hl [] rfl)
  have hB_18 : ∀ (y_2 : Int32) (z_0 : Int32) (Y : CT) (G : CG) (S : CS) (H : Heap) (locs : List Loc) (ls : Array Slot), f_Vt_enter_18 K y_2 z_0 G S = some (.error 1, G', S') → CG.le G0 G → va_P (dC, dI) classes (wV M Y G S) H → va_D A (wV M Y G S) → va_S A s.heap H locs → lv_has ls 4 [(0, .ref M.o_Vt), (2, .int y_2)] → W p l e ({ frames := 8, cells := G'.gc - G0.gc, slots := G'.gs - G0.gs, locals := 224 }) s m ([.ref M.o_Vt, .int p0] : List Value).toArray below meth c H locs (G.gc - G0.gc) (G.gs - G0.gs) Q (F0 m 18 ls [.int z_0]) := by
    intro y_2 z_0 Y G S H locs ls h m0 hP hD hS hl
    have mF := mo_Vt_enter_18 h
    rw [f_Vt_enter_18] at h
    refine lv_goto (tgt := 26) hx hb d_Vt_enter_18 (by decide) ?_
    exact hB_26 y_2 z_0 Y G S _ _ _ h m0 hP hD hS (lv_sub hl [0, 1] rfl)
  have hB_8 : ∀ (y_1 : Int32) (z_0 : Int32) (Y : CT) (G : CG) (S : CS) (H : Heap) (locs : List Loc) (ls : Array Slot), f_Vt_enter_8 K y_1 z_0 G S = some (.error 1, G', S') → CG.le G0 G → va_P (dC, dI) classes (wV M Y G S) H → va_D A (wV M Y G S) → va_S A s.heap H locs → lv_has ls 4 [(0, .ref M.o_Vt), (1, .int y_1)] → W p l e ({ frames := 8, cells := G'.gc - G0.gc, slots := G'.gs - G0.gs, locals := 224 }) s m ([.ref M.o_Vt, .int p0] : List Value).toArray below meth c H locs (G.gc - G0.gc) (G.gs - G0.gs) Q (F0 m 8 ls [.int z_0]) := by
    intro y_1 z_0 Y G S H locs ls h m0 hP hD hS hl
    have mF := mo_Vt_enter_8 h
    rw [f_Vt_enter_8] at h
    refine lv_istore_n (lv' := [(2, .int z_0), (0, .ref M.o_Vt), (1, .int y_1)]) hx hb d_Vt_enter_8 rfl hl (by decide) rfl (fun ls hl => ?_)
    refine lv_iload_n hx hb d_Vt_enter_9 rfl (lv_at hl 0 rfl) ?_
    refine lv_if_eq (tgt := 21) hx hb d_Vt_enter_10 (by decide) (fun c_3 => ?_) (fun c_3 => ?_)
    · have h := lf_t h c_3
      refine lv_aload_n hx hb d_Vt_enter_21 rfl (lv_at hl 1 rfl) ?_
      refine lv_iload_n hx hb d_Vt_enter_22 rfl (lv_at hl 2 rfl) ?_
      rcases lf_aT h with ⟨r_4, G_4, S_4, hc_4, h⟩ | h9
      · have mc := mo_Vt_itemHere hc_4
        have ml_4 := mo_Vt_itemHere hc_4
        have mF1 := mo_Vt_enter_26 h
        have hFc := lx_free hD hS hA
        refine va_calli (va_runV (As := [.int y_1]) (rest := []) ⟨hx, hb, hml, hown, hts⟩ (l_Vt_itemHere l dC dI X _ hc_4) (cwV 1 hts (gwV good_Vq (u_Vq_Vt _ k_Vt_130) (u_Vq_Vt _ k_Vt_131) (u_Vq_Vt _ k_Vt_217) (u_Vq_Vt _ k_Vt_0) (wcs (u_Vq_Vt _ k_Vt_132) (fun _ h => h))) rfl rfl rfl (by decide +kernel) ⟨Nat.le_of_ble_eq_true rfl, Nat.le_of_ble_eq_true rfl⟩) (pv_ofE (X.same _) (fun U z1 z2 => X.mono _ _ U hFc (hEw _ _ hS U z1 z2)) hP hK hD (va_recv hK hP (ci := 11) (q0 := 0) rfl rfl)) rfl rfl hl.1 rfl (lv_room (Nat.le_of_ble_eq_true rfl)) d_Vt_enter_23 ⟨ly_c1 m0.1 mc.1 mF1.1, ly_c1 m0.2 mc.2 mF1.2⟩) hS (fun q _ h => hFc q h) hFc (fun r_ Y_4 t H locs ht hvm hw hB hz1 hk1 hS => ?_)
        rw [hw]
        obtain ⟨hP, -, hD⟩ := hB
        rw [ht] at hP
        have hD := lx_dj hD hFc
        refine W.widen (k := G_4.gc - G0.gc) (n := G_4.gs - G0.gs) (ly_c2 m0.1 mc.1) (ly_c2 m0.2 mc.2) ?_
        have m0 := CG.le_tr m0 mc
        exact hB_26 z_0 r_4 Y_4 G_4 S_4 _ _ _ h m0 hP hD hS (lv_sub hl [1, 0] rfl)
      · exact absurd (th_Vt_itemHere h9) (by decide)
    · have h := lf_f h c_3
      refine lv_aload_n hx hb d_Vt_enter_13 rfl (lv_at hl 1 rfl) ?_
      refine lv_iload_n hx hb d_Vt_enter_14 rfl (lv_at hl 2 rfl) ?_
      rcases lf_aT h with ⟨r_5, G_5, S_5, hc_5, h⟩ | h9
      · have mc := mo_Vt_entryHere hc_5
        have ml_5 := mo_Vt_entryHere hc_5
        have mF1 := mo_Vt_enter_18 h
        have hFc := lx_free hD hS hA
        refine va_calli (va_runV (As := [.int y_1]) (rest := []) ⟨hx, hb, hml, hown, hts⟩ (l_Vt_entryHere l dC dI X _ hc_5) (cwV 1 hts (gwV good_Vq (u_Vq_Vt _ k_Vt_122) (u_Vq_Vt _ k_Vt_123) (u_Vq_Vt _ k_Vt_218) (u_Vq_Vt _ k_Vt_0) (wcs (u_Vq_Vt _ k_Vt_124) (fun _ h => h))) rfl rfl rfl (by decide +kernel) ⟨Nat.le_of_ble_eq_true rfl, Nat.le_of_ble_eq_true rfl⟩) (pv_ofE (X.same _) (fun U z1 z2 => X.mono _ _ U hFc (hEw _ _ hS U z1 z2)) hP hK hD (va_recv hK hP (ci := 11) (q0 := 0) rfl rfl)) rfl rfl hl.1 rfl (lv_room (Nat.le_of_ble_eq_true rfl)) d_Vt_enter_15 ⟨ly_c1 m0.1 mc.1 mF1.1, ly_c1 m0.2 mc.2 mF1.2⟩) hS (fun q _ h => hFc q h) hFc (fun r_ Y_5 t H locs ht hvm hw hB hz1 hk1 hS => ?_)
        rw [hw]
        obtain ⟨hP, -, hD⟩ := hB
        rw [ht] at hP
        have hD := lx_dj hD hFc
        refine W.widen (k := G_5.gc - G0.gc) (n := G_5.gs - G0.gs) (ly_c2 m0.1 mc.1) (ly_c2 m0.2 mc.2) ?_
        have m0 := CG.le_tr m0 mc
        exact hB_18 z_0 r_5 Y_5 G_5 S_5 _ _ _ h m0 hP hD hS (lv_sub hl [1, 0] rfl)
      · exact absurd (th_Vt_entryHere h9) (by decide)
  have hB_5 : ∀ (y_1 : Int32) (z_1 : Int32) (Y : CT) (G : CG) (S : CS) (H : Heap) (locs : List Loc) (ls : Array Slot), f_Vt_enter_5 K y_1 z_1 G S = some (.error 1, G', S') → CG.le G0 G → va_P (dC, dI) classes (wV M Y G S) H → va_D A (wV M Y G S) → va_S A s.heap H locs → lv_has ls 4 [(0, .ref M.o_Vt), (1, .int y_1)] → W p l e ({ frames := 8, cells := G'.gc - G0.gc, slots := G'.gs - G0.gs, locals := 224 }) s m ([.ref M.o_Vt, .int p0] : List Value).toArray below meth c H locs (G.gc - G0.gc) (G.gs - G0.gs) Q (F0 m 5 ls [.int z_1, .ref M.o_Vt]) := by
    intro y_1 z_1 Y G S H locs ls h m0 hP hD hS hl
    have mF := mo_Vt_enter_5 h
    rw [f_Vt_enter_5] at h
    rcases lf_aT h with ⟨r_2, G_2, S_2, hc_2, h⟩ | h9
    · have mc := mo_Vt_readsInodes hc_2
      have ml_2 := mo_Vt_readsInodes hc_2
      have mF1 := mo_Vt_enter_8 h
      have hFc := lx_free hD hS hA
      refine va_calli (va_runV (As := [.int z_1]) (rest := []) ⟨hx, hb, hml, hown, hts⟩ (l_Vt_readsInodes l dC dI X _ hc_2) (cwV 1 hts (gwV good_Vq (u_Vq_Vt _ k_Vt_111) (u_Vq_Vt _ k_Vt_112) (u_Vq_Vt _ k_Vt_215) (u_Vq_Vt _ k_Vt_0) (wcs (u_Vq_Vt _ k_Vt_113) (fun _ h => h))) rfl rfl rfl (by decide +kernel) ⟨Nat.le_of_ble_eq_true rfl, Nat.le_of_ble_eq_true rfl⟩) (pv_ofE (X.same _) (fun U z1 z2 => X.mono _ _ U hFc (hEw _ _ hS U z1 z2)) hP hK hD (va_recv hK hP (ci := 11) (q0 := 0) rfl rfl)) rfl rfl hl.1 rfl (lv_room (Nat.le_of_ble_eq_true rfl)) d_Vt_enter_5 ⟨ly_c1 m0.1 mc.1 mF1.1, ly_c1 m0.2 mc.2 mF1.2⟩) hS (fun q _ h => hFc q h) hFc (fun r_ Y_2 t H locs ht hvm hw hB hz1 hk1 hS => ?_)
      rw [hw]
      obtain ⟨hP, -, hD⟩ := hB
      rw [ht] at hP
      have hD := lx_dj hD hFc
      refine W.widen (k := G_2.gc - G0.gc) (n := G_2.gs - G0.gs) (ly_c2 m0.1 mc.1) (ly_c2 m0.2 mc.2) ?_
      have m0 := CG.le_tr m0 mc
      exact hB_8 y_1 r_2 Y_2 G_2 S_2 _ _ _ h m0 hP hD hS (lv_sub hl [0, 1] rfl)
    · have mc := mo_Vt_readsInodes h9
      have hFc := lx_free hD hS hA
      rw [hQ]
      exact x_outV (n := 1) (As := [.int z_1]) (rest := []) (b := M.o_Vt) (st0 := [.int z_1, .ref M.o_Vt]) ⟨hx, hb, hml, hown, hts⟩ (lt_Vt_readsInodes_1 l hfl dC dI X _ h9) (cwV 1 hts (gwV good_Vq (u_Vq_Vt _ k_Vt_111) (u_Vq_Vt _ k_Vt_112) (u_Vq_Vt _ k_Vt_215) (u_Vq_Vt _ k_Vt_0) (wcs (u_Vq_Vt _ k_Vt_113) (fun _ h => h))) rfl rfl rfl (by decide +kernel) ⟨Nat.le_of_ble_eq_true rfl, Nat.le_of_ble_eq_true rfl⟩) (pv_ofE (X.same _) (fun U z1 z2 => X.mono _ _ U hFc (hEw _ _ hS U z1 z2)) hP hK hD (va_recv hK hP (ci := 11) (q0 := 0) rfl rfl)) rfl hl.1 rfl (Nat.le_of_ble_eq_true rfl) d_Vt_enter_5 ⟨ly_c2 m0.1 mc.1, ly_c2 m0.2 mc.2⟩ hlocks hout ⟨ly_c2 m0.1 mc.1, ly_c2 m0.2 mc.2⟩ (fun E st t U z1 z2 z3 z4 z5 => ly_outQ hS hK hFc z1 z3 z4 z5) ⟨hS.2.2, fun z h => hFc z h⟩
  have m0 : CG.le G0 G0 := ⟨Nat.le_refl _, Nat.le_refl _⟩
  have mF := mo_Vt_enter h
  refine W.widen (k := G0.gc - G0.gc) (n := G0.gs - G0.gs) (Nat.zero_le _) (Nat.zero_le _) ?_
  rw [f_Vt_enter] at h
  refine lv_aload_n hx hb d_Vt_enter_0 rfl (lv_at hl 0 rfl) ?_
  refine lv_aload_n hx hb d_Vt_enter_1 rfl (lv_at hl 0 rfl) ?_
  obtain ⟨r_1, G_1, S_1, hc_1, h⟩ := lf_nE h
  have mc := mo_Vt_look hc_1
  have ml_1 := mo_Vt_look hc_1
  have mF1 := mo_Vt_enter_5 h
  have hFc := lx_free hD hS hA
  refine va_calli (va_runV (As := []) (rest := [.ref M.o_Vt]) ⟨hx, hb, hml, hown, hts⟩ (l_Vt_look l dC dI X _ hc_1) (cwV 0 hts (gwV good_Vq (u_Vq_Vt _ k_Vt_68) (u_Vq_Vt _ k_Vt_69) (u_Vq_Vt _ k_Vt_214) (u_Vq_Vt _ k_Vt_0) (wcs (u_Vq_Vt _ k_Vt_70) (fun _ h => h))) rfl rfl rfl (by decide +kernel) ⟨Nat.le_of_ble_eq_true rfl, Nat.le_of_ble_eq_true rfl⟩) (pv_ofE (X.same _) (fun U z1 z2 => X.mono _ _ U hFc (hEw _ _ hS U z1 z2)) hP hK hD (va_recv hK hP (ci := 11) (q0 := 0) rfl rfl)) rfl rfl hl.1 rfl (lv_room (Nat.le_of_ble_eq_true rfl)) d_Vt_enter_2 ⟨ly_c1 m0.1 mc.1 mF1.1, ly_c1 m0.2 mc.2 mF1.2⟩) hS (fun q _ h => hFc q h) hFc (fun r_ Y_1 t H locs ht hvm hw hB hz1 hk1 hS => ?_)
  rw [hw]
  obtain ⟨hP, -, hD⟩ := hB
  rw [ht] at hP
  have hD := lx_dj hD hFc
  refine W.widen (k := G_1.gc - G0.gc) (n := G_1.gs - G0.gs) (ly_c2 m0.1 mc.1) (ly_c2 m0.2 mc.2) ?_
  have m0 := CG.le_tr m0 mc
  exact hB_5 p0 r_1 Y_1 G_1 S_1 _ _ _ h m0 hP hD hS (lv_sub hl [0, 1] rfl)
set_option maxHeartbeats 4000000 in
set_option maxRecDepth 100000 in
theorem lt_Vt_enter_2 (l : Launch) (hfl : l.flags = pinnedFlags ++ [noTraceFlag]) (dC : Nat → ClassId) (dI : Nat → Nat → Nat) {K : Nat} {M : CA} {E : (Nat → Prop) → State → Prop} (X : ly_X l dC dI K M E) (sz : Nat) {Y : CT} {G0 G' : CG} {S S' : CS} {p0 : Int32} (h : f_Vt_enter K G0 S p0 = some (.error 2, G', S')) : MetX l y_Vt_enter (.code y_Vt_enter cb_Vt_enter 4 (some .int) :: V_Vq) ({ frames := 8, cells := G'.gc - G0.gc, slots := G'.gs - G0.gs, locals := 224 }) (va_Pc [.ref M.o_Vt, .int p0] (fun U => U.heap.size = sz ∧ at_ (dC, dI) (fun _ => True) (wV M Y G0 S) (tV M) U ∧ E (va_A (wV M Y G0 S) sz) U)) (fun _ _ _ _ => False) (x_Q "java/lang/IndexOutOfBoundsException" (va_A (wV M Y G0 S) sz) (fun t => ∃ u : CT, at_ (dC, dI) (va_A (wV M Y G0 S) sz) (wV M u G' S') (tV M) t)) (G'.gc - G0.gc) (G'.gs - G0.gs) (va_A (wV M Y G0 S) sz) := by
  refine MetX.ofW (cc := cb_Vt_enter) (maxL := 4) (ret := (some .int)) (by decide) rfl ?_
  intro p e s m args below meth c s₁ B hml hv
  obtain ⟨rfl, hsz, ⟨hP, hK, hD0⟩, hE⟩ := hv
  have hx := B.exec
  have hb := B.bytes
  have hr := B.returns
  have hts0 := atoms_spec (ws := .code y_Vt_enter cb_Vt_enter 4 (some .int) :: V_Vq) B.pre
  have hts : ∀ w ∈ V_Vq, w.before ([.ref M.o_Vt, .int p0] : List Value).toArray s = true := fun w h => hts0 w (List.mem_cons_of_mem _ h)
  have hown : s.vm.findClass R_Vt = some m.cls := findClass_of_methodNamed B.named
  have hlocks := B.notSynchronized
  have hout := x_table B (hts0 _ List.mem_cons_self)
  subst hsz
  have hD := hD0.self (sz := s.heap.size)
  generalize hAe : va_A (wV M Y G0 S) s.heap.size = A at hD hE ⊢
  have hA : ∀ q : Nat, s.heap.size ≤ q → A q := fun q h => by rw [← hAe]; exact Or.inr h
  have hS : va_S A s.heap s.heap [] := va_S.rf
  have hP : va_P (dC, dI) classes (wV M Y G0 S) s.heap := hP
  have hK : va_K (dC, dI) classes (tV M) s := hK
  have hEw : ∀ (H : Heap) (locs : List Loc), va_S A s.heap H locs → ∀ U : State, U.heap = H → s.WarmedH U.vm → E A U := fun H locs hS U hU hW => X.kept A s U H locs hE hS hU hW
  have hl := lv_entry ([.ref M.o_Vt, .int p0]) (n := 4) (Nat.le_of_ble_eq_true rfl)
  rw [lg_entry_eq]
  generalize (lg_sl ([.ref M.o_Vt, .int p0]) ++ List.replicate (4 - (lg_sl ([.ref M.o_Vt, .int p0])).length) Slot.unset).toArray = ls at hl ⊢
  have hl : lv_has ls 4 [(0, .ref M.o_Vt), (1, .int p0)] := hl
  refine qabs (fun Q hQ => ?_)
  have hB_56 : ∀ (Y : CT) (G : CG) (S : CS) (H : Heap) (locs : List Loc) (ls : Array Slot), f_Vt_enter_56 K G S = some (.error 2, G', S') → CG.le G0 G → va_P (dC, dI) classes (wV M Y G S) H → va_D A (wV M Y G S) → va_S A s.heap H locs → lv_has ls 4 [] → W p l e ({ frames := 8, cells := G'.gc - G0.gc, slots := G'.gs - G0.gs, locals := 224 }) s m ([.ref M.o_Vt, .int p0] : List Value).toArray below meth c H locs (G.gc - G0.gc) (G.gs - G0.gs) Q (F0 m 56 ls []) := by
    intro Y G S H locs ls h m0 hP hD hS hl
    have mF := mo_Vt_enter_56 h
    rw [f_Vt_enter_56] at h
    exact lf_xk h (by decide)
  have hB_83 : ∀ (y_2 : Int32) (z_1 : Int32) (Y : CT) (G : CG) (S : CS) (H : Heap) (locs : List Loc) (ls : Array Slot), f_Vt_enter_83 K y_2 z_1 G S = some (.error 2, G', S') → CG.le G0 G → va_P (dC, dI) classes (wV M Y G S) H → va_D A (wV M Y G S) → va_S A s.heap H locs → lv_has ls 4 [(0, .ref M.o_Vt), (2, .int y_2)] → W p l e ({ frames := 8, cells := G'.gc - G0.gc, slots := G'.gs - G0.gs, locals := 224 }) s m ([.ref M.o_Vt, .int p0] : List Value).toArray below meth c H locs (G.gc - G0.gc) (G.gs - G0.gs) Q (F0 m 83 ls [.int z_1, .ref M.o_Vt]) := by
    intro y_2 z_1 Y G S H locs ls h m0 hP hD hS hl
    have mF := mo_Vt_enter_83 h
    rw [f_Vt_enter_83] at h
    refine va_put (D := (dC, dI)) (ci := 11) (v := .int z_1) (ty := .int) (C := R_Vt) (T := F_Vt) (N := 16) hx hb hts (fun w h => u_Vq_Vt w (i_Vt w h)) t_Vt t_Vt_ok n_Vt hown hK hP hD hS 0 rfl rfl 12 (by decide) (hts _ (u_Vq_Vt _ k_Vt_41)) (fun _ h9 => h9) rfl (by decide +kernel) rfl rfl (Nat.le_of_ble_eq_true rfl) d_Vt_enter_83 (fun H locs hP hD hS => ?_)
    obtain ⟨S_13, eS_13, h⟩ := lf_lX h
    have hP := ly_newP eS_13 hP
    have hD := ly_newD eS_13 hD
    refine lv_iload_n hx hb d_Vt_enter_86 rfl (lv_at hl 1 rfl) ?_
    refine lv_if_eq (tgt := 104) hx hb d_Vt_enter_87 (by decide) (fun c_14 => ?_) (fun c_14 => ?_)
    · have h := lf_t h c_14
      refine lv_aload_n hx hb d_Vt_enter_104 rfl (lv_at hl 0 rfl) ?_
      refine va_get (D := (dC, dI)) (ci := 11) (v := .ref M.o_Tr) (C := R_Vt) (T := F_Vt) (N := 16) hx hb hts (fun w h => u_Vq_Vt w (i_Vt w h)) hown hK hP 0 rfl rfl 3 (by decide) (hts _ (u_Vq_Vt _ k_Vt_32)) (fun _ h9 => h9) rfl d_Vt_enter_105 ?_
      refine lv_aload_n hx hb d_Vt_enter_108 rfl (lv_at hl 0 rfl) ?_
      refine va_get (D := (dC, dI)) (ci := 11) (v := .int S_13.v_Vt_here) (C := R_Vt) (T := F_Vt) (N := 16) hx hb hts (fun w h => u_Vq_Vt w (i_Vt w h)) hown hK hP 0 rfl rfl 12 (by decide) (hts _ (u_Vq_Vt _ k_Vt_41)) (fun _ h9 => h9) rfl d_Vt_enter_109 ?_
      obtain ⟨r_15, S_15, hc_15, h⟩ := lf_cE h
      have hFc := lx_free hD hS hA
      refine va_calli (va_runV (As := [.int S_13.v_Vt_here]) (rest := []) ⟨hx, hb, hml, hown, hts⟩ (l_Tr_countIn l dC dI X _ hc_15) (cwV 1 hts (gwV good_Vq (u_Vq_Vt _ k_Vt_118) (u_Vq_Tr _ k_Tr_91) (u_Vq_Tr _ k_Tr_92) (u_Vq_Tr _ k_Tr_0) (wcs (u_Vq_Tr _ k_Tr_93) (fun _ h => h))) rfl rfl rfl (by decide +kernel) ⟨Nat.le_of_ble_eq_true rfl, Nat.le_of_ble_eq_true rfl⟩) (pv_ofE (X.same _) (fun U z1 z2 => X.mono _ _ U hFc (hEw _ _ hS U z1 z2)) hP hK hD (va_recv hK hP (ci := 5) (q0 := 4) rfl rfl)) rfl rfl hl.1 rfl (lv_room (Nat.le_of_ble_eq_true rfl)) d_Vt_enter_112 ⟨ly_c0 mF.1, ly_c0 mF.2⟩) hS (fun q _ h => hFc q h) hFc (fun r_ u t H locs ht hvm hw hB hz1 hk1 hS => ?_)
      rw [hw]
      obtain ⟨hP, -, hD⟩ := hB
      rw [ht] at hP
      have hD := lx_dj hD hFc
      exact lf_xo h
    · have h := lf_f h c_14
      refine lv_aload_n hx hb d_Vt_enter_90 rfl (lv_at hl 0 rfl) ?_
      refine va_get (D := (dC, dI)) (ci := 11) (v := .ref M.o_In) (C := R_Vt) (T := F_Vt) (N := 16) hx hb hts (fun w h => u_Vq_Vt w (i_Vt w h)) hown hK hP 0 rfl rfl 8 (by decide) (hts _ (u_Vq_Vt _ k_Vt_37)) (fun _ h9 => h9) rfl d_Vt_enter_91 ?_
      refine lv_aload_n hx hb d_Vt_enter_94 rfl (lv_at hl 0 rfl) ?_
      refine va_get (D := (dC, dI)) (ci := 11) (v := .int S_13.v_Vt_here) (C := R_Vt) (T := F_Vt) (N := 16) hx hb hts (fun w h => u_Vq_Vt w (i_Vt w h)) hown hK hP 0 rfl rfl 12 (by decide) (hts _ (u_Vq_Vt _ k_Vt_41)) (fun _ h9 => h9) rfl d_Vt_enter_95 ?_
      obtain ⟨r_16, S_16, hc_16, h⟩ := lf_cE h
      have hFc := lx_free hD hS hA
      refine va_calli (va_runV (As := [.int S_13.v_Vt_here]) (rest := []) ⟨hx, hb, hml, hown, hts⟩ (l_In_countIn l dC dI X _ hc_16) (cwV 1 hts (gwV good_Vq (u_Vq_Vt _ k_Vt_117) (u_Vq_In _ k_In_26) (u_Vq_In _ k_In_27) (u_Vq_In _ k_In_0) (wcs (u_Vq_In _ k_In_28) (fun _ h => h))) rfl rfl rfl (by decide +kernel) ⟨Nat.le_of_ble_eq_true rfl, Nat.le_of_ble_eq_true rfl⟩) (pv_ofE (X.same _) (fun U z1 z2 => X.mono _ _ U hFc (hEw _ _ hS U z1 z2)) hP hK hD (va_recv hK hP (ci := 6) (q0 := 9) rfl rfl)) rfl rfl hl.1 rfl (lv_room (Nat.le_of_ble_eq_true rfl)) d_Vt_enter_98 ⟨ly_c0 mF.1, ly_c0 mF.2⟩) hS (fun q _ h => hFc q h) hFc (fun r_ u t H locs ht hvm hw hB hz1 hk1 hS => ?_)
      rw [hw]
      obtain ⟨hP, -, hD⟩ := hB
      rw [ht] at hP
      have hD := lx_dj hD hFc
      refine lv_goto (tgt := 115) hx hb d_Vt_enter_101 (by decide) ?_
      exact lf_xo h
  have hB_66 : ∀ (y_2 : Int32) (y_3 : Int32) (Y : CT) (G : CG) (S : CS) (H : Heap) (locs : List Loc) (ls : Array Slot), f_Vt_enter_66 K y_2 y_3 G S = some (.error 2, G', S') → CG.le G0 G → va_P (dC, dI) classes (wV M Y G S) H → va_D A (wV M Y G S) → va_S A s.heap H locs → lv_has ls 4 [(0, .ref M.o_Vt), (2, .int y_2), (3, .int y_3)] → W p l e ({ frames := 8, cells := G'.gc - G0.gc, slots := G'.gs - G0.gs, locals := 224 }) s m ([.ref M.o_Vt, .int p0] : List Value).toArray below meth c H locs (G.gc - G0.gc) (G.gs - G0.gs) Q (F0 m 66 ls []) := by
    intro y_2 y_3 Y G S H locs ls h m0 hP hD hS hl
    have mF := mo_Vt_enter_66 h
    rw [f_Vt_enter_66] at h
    refine lv_aload_n hx hb d_Vt_enter_66 rfl (lv_at hl 0 rfl) ?_
    refine lv_iload_n hx hb d_Vt_enter_67 rfl (lv_at hl 1 rfl) ?_
    refine lv_if_eq (tgt := 82) hx hb d_Vt_enter_68 (by decide) (fun c_11 => ?_) (fun c_11 => ?_)
    · have h := lf_t h c_11
      refine lv_iload_n hx hb d_Vt_enter_82 rfl (lv_at hl 2 rfl) ?_
      exact hB_83 y_2 y_3 Y G S _ _ _ h m0 hP hD hS (lv_sub hl [0, 1] rfl)
    · have h := lf_f h c_11
      refine lv_aload_n hx hb d_Vt_enter_71 rfl (lv_at hl 0 rfl) ?_
      refine va_get (D := (dC, dI)) (ci := 11) (v := .ref M.o_In) (C := R_Vt) (T := F_Vt) (N := 16) hx hb hts (fun w h => u_Vq_Vt w (i_Vt w h)) hown hK hP 0 rfl rfl 8 (by decide) (hts _ (u_Vq_Vt _ k_Vt_37)) (fun _ h9 => h9) rfl d_Vt_enter_72 ?_
      refine lv_iload_n hx hb d_Vt_enter_75 rfl (lv_at hl 2 rfl) ?_
      obtain ⟨r_12, S_12, hc_12, h⟩ := lf_cE h
      have hFc := lx_free hD hS hA
      refine va_calli (va_runV (As := [.int y_3]) (rest := [.ref M.o_Vt]) ⟨hx, hb, hml, hown, hts⟩ (l_In_inodeOf l dC dI X _ hc_12) (cwV 1 hts (gwV good_Vq (u_Vq_Vt _ k_Vt_157) (u_Vq_In _ k_In_50) (u_Vq_In _ k_In_51) (u_Vq_In _ k_In_0) (wcs (u_Vq_In _ k_In_52) (fun _ h => h))) rfl rfl rfl (by decide +kernel) ⟨Nat.le_of_ble_eq_true rfl, Nat.le_of_ble_eq_true rfl⟩) (pv_ofE (X.same _) (fun U z1 z2 => X.mono _ _ U hFc (hEw _ _ hS U z1 z2)) hP hK hD (va_recv hK hP (ci := 6) (q0 := 9) rfl rfl)) rfl rfl hl.1 rfl (lv_room (Nat.le_of_ble_eq_true rfl)) d_Vt_enter_76 ⟨ly_c0 mF.1, ly_c0 mF.2⟩) hS (fun q _ h => hFc q h) hFc (fun r_ u t H locs ht hvm hw hB hz1 hk1 hS => ?_)
      rw [hw]
      obtain ⟨hP, -, hD⟩ := hB
      rw [ht] at hP
      have hD := lx_dj hD hFc
      refine lv_goto (tgt := 83) hx hb d_Vt_enter_79 (by decide) ?_
      exact hB_83 y_2 r_12 Y G S_12 _ _ _ h m0 hP hD hS (lv_sub hl [0, 1] rfl)
  have hB_26 : ∀ (y_2 : Int32) (z_0 : Int32) (Y : CT) (G : CG) (S : CS) (H : Heap) (locs : List Loc) (ls : Array Slot), f_Vt_enter_26 K y_2 z_0 G S = some (.error 2, G', S') → CG.le G0 G → va_P (dC, dI) classes (wV M Y G S) H → va_D A (wV M Y G S) → va_S A s.heap H locs → lv_has ls 4 [(0, .ref M.o_Vt), (2, .int y_2)] → W p l e ({ frames := 8, cells := G'.gc - G0.gc, slots := G'.gs - G0.gs, locals := 224 }) s m ([.ref M.o_Vt, .int p0] : List Value).toArray below meth c H locs (G.gc - G0.gc) (G.gs - G0.gs) Q (F0 m 26 ls [.int z_0]) := by
    intro y_2 z_0 Y G S H locs ls h m0 hP hD hS hl
    have mF := mo_Vt_enter_26 h
    rw [f_Vt_enter_26] at h
    refine lv_istore_n (lv' := [(3, .int z_0), (0, .ref M.o_Vt), (2, .int y_2)]) hx hb d_Vt_enter_26 rfl hl (by decide) rfl (fun ls hl => ?_)
    refine lv_iload_n hx hb d_Vt_enter_27 rfl (lv_at hl 2 rfl) ?_
    refine lv_if_eq (tgt := 45) hx hb d_Vt_enter_28 (by decide) (fun c_6 => ?_) (fun c_6 => ?_)
    · have h := lf_t h c_6
      refine lv_aload_n hx hb d_Vt_enter_45 rfl (lv_at hl 1 rfl) ?_
      refine va_get (D := (dC, dI)) (ci := 11) (v := .ref M.o_Tr) (C := R_Vt) (T := F_Vt) (N := 16) hx hb hts (fun w h => u_Vq_Vt w (i_Vt w h)) hown hK hP 0 rfl rfl 3 (by decide) (hts _ (u_Vq_Vt _ k_Vt_32)) (fun _ h9 => h9) rfl d_Vt_enter_46 ?_
      refine lv_iload_n hx hb d_Vt_enter_49 rfl (lv_at hl 0 rfl) ?_
      obtain ⟨r_7, S_7, hc_7, h⟩ := lf_cE h
      have hFc := lx_free hD hS hA
      refine va_calli (va_runV (As := [.int z_0]) (rest := []) ⟨hx, hb, hml, hown, hts⟩ (l_Tr_isDirectory l dC dI X _ hc_7) (cwV 1 hts (gwV good_Vq (u_Vq_Vt _ k_Vt_142) (u_Vq_Tr _ k_Tr_42) (u_Vq_Tr _ k_Tr_43) (u_Vq_Tr _ k_Tr_0) (wcs (u_Vq_Tr _ k_Tr_44) (fun _ h => h))) rfl rfl rfl (by decide +kernel) ⟨Nat.le_of_ble_eq_true rfl, Nat.le_of_ble_eq_true rfl⟩) (pv_ofE (X.same _) (fun U z1 z2 => X.mono _ _ U hFc (hEw _ _ hS U z1 z2)) hP hK hD (va_recv hK hP (ci := 5) (q0 := 4) rfl rfl)) rfl rfl hl.1 rfl (lv_room (Nat.le_of_ble_eq_true rfl)) d_Vt_enter_50 ⟨ly_c0 mF.1, ly_c0 mF.2⟩) hS (fun q _ h => hFc q h) hFc (fun r_ u t H locs ht hvm hw hB hz1 hk1 hS => ?_)
      rw [hw]
      obtain ⟨hP, -, hD⟩ := hB
      rw [ht] at hP
      have hD := lx_dj hD hFc
      refine lv_if_ne (tgt := 66) hx hb d_Vt_enter_53 (by decide) (fun c_8 => ?_) (fun c_8 => ?_)
      · have h := lf_f h c_8
        exact hB_66 y_2 z_0 Y G S_7 _ _ _ h m0 hP hD hS (lv_sub hl [1, 2, 0] rfl)
      · have h := lf_t h c_8
        exact hB_56 Y G S_7 _ _ _ h m0 hP hD hS (lv_sub hl [] rfl)
    · have h := lf_f h c_6
      refine lv_aload_n hx hb d_Vt_enter_31 rfl (lv_at hl 1 rfl) ?_
      refine va_get (D := (dC, dI)) (ci := 11) (v := .ref M.o_In) (C := R_Vt) (T := F_Vt) (N := 16) hx hb hts (fun w h => u_Vq_Vt w (i_Vt w h)) hown hK hP 0 rfl rfl 8 (by decide) (hts _ (u_Vq_Vt _ k_Vt_37)) (fun _ h9 => h9) rfl d_Vt_enter_32 ?_
      refine lv_iload_n hx hb d_Vt_enter_35 rfl (lv_at hl 0 rfl) ?_
      obtain ⟨r_9, S_9, hc_9, h⟩ := lf_cE h
      have hFc := lx_free hD hS hA
      refine va_calli (va_runV (As := [.int z_0]) (rest := []) ⟨hx, hb, hml, hown, hts⟩ (l_In_isDirectory l dC dI X _ hc_9) (cwV 1 hts (gwV good_Vq (u_Vq_Vt _ k_Vt_156) (u_Vq_In _ k_In_54) (u_Vq_In _ k_In_55) (u_Vq_In _ k_In_0) (wcs (u_Vq_In _ k_In_56) (fun _ h => h))) rfl rfl rfl (by decide +kernel) ⟨Nat.le_of_ble_eq_true rfl, Nat.le_of_ble_eq_true rfl⟩) (pv_ofE (X.same _) (fun U z1 z2 => X.mono _ _ U hFc (hEw _ _ hS U z1 z2)) hP hK hD (va_recv hK hP (ci := 6) (q0 := 9) rfl rfl)) rfl rfl hl.1 rfl (lv_room (Nat.le_of_ble_eq_true rfl)) d_Vt_enter_36 ⟨ly_c0 mF.1, ly_c0 mF.2⟩) hS (fun q _ h => hFc q h) hFc (fun r_ u t H locs ht hvm hw hB hz1 hk1 hS => ?_)
      rw [hw]
      obtain ⟨hP, -, hD⟩ := hB
      rw [ht] at hP
      have hD := lx_dj hD hFc
      refine lv_if_ne (tgt := 66) hx hb d_Vt_enter_39 (by decide) (fun c_10 => ?_) (fun c_10 => ?_)
      · have h := lf_f h c_10
        exact hB_66 y_2 z_0 Y G S_9 _ _ _ h m0 hP hD hS (lv_sub hl [1, 2, 0] rfl)
      · have h := lf_t h c_10
        refine lv_goto (tgt := 56) hx hb d_Vt_enter_42 (by decide) ?_
        exact hB_56 Y G S_9 _ _ _ h m0 hP hD hS (lv_sub hl [] rfl)
  have hB_18 : ∀ (y_2 : Int32) (z_0 : Int32) (Y : CT) (G : CG) (S : CS) (H : Heap) (locs : List Loc) (ls : Array Slot), f_Vt_enter_18 K y_2 z_0 G S = some (.error 2, G', S') → CG.le G0 G → va_P (dC, dI) classes (wV M Y G S) H → va_D A (wV M Y G S) → va_S A s.heap H locs → lv_has ls 4 [(0, .ref M.o_Vt), (2, .int y_2)] → W p l e ({ frames := 8, cells := G'.gc - G0.gc, slots := G'.gs - G0.gs, locals := 224 }) s m ([.ref M.o_Vt, .int p0] : List Value).toArray below meth c H locs (G.gc - G0.gc) (G.gs - G0.gs) Q (F0 m 18 ls [.int z_0]) := by
    intro y_2 z_0 Y G S H locs ls h m0 hP hD hS hl
    have mF := mo_Vt_enter_18 h
    rw [f_Vt_enter_18] at h
    refine lv_goto (tgt := 26) hx hb d_Vt_enter_18 (by decide) ?_
    exact hB_26 y_2 z_0 Y G S _ _ _ h m0 hP hD hS (lv_sub hl [0, 1] rfl)
  have hB_8 : ∀ (y_1 : Int32) (z_0 : Int32) (Y : CT) (G : CG) (S : CS) (H : Heap) (locs : List Loc) (ls : Array Slot), f_Vt_enter_8 K y_1 z_0 G S = some (.error 2, G', S') → CG.le G0 G → va_P (dC, dI) classes (wV M Y G S) H → va_D A (wV M Y G S) → va_S A s.heap H locs → lv_has ls 4 [(0, .ref M.o_Vt), (1, .int y_1)] → W p l e ({ frames := 8, cells := G'.gc - G0.gc, slots := G'.gs - G0.gs, locals := 224 }) s m ([.ref M.o_Vt, .int p0] : List Value).toArray below meth c H locs (G.gc - G0.gc) (G.gs - G0.gs) Q (F0 m 8 ls [.int z_0]) := by
    intro y_1 z_0 Y G S H locs ls h m0 hP hD hS hl
    have mF := mo_Vt_enter_8 h
    rw [f_Vt_enter_8] at h
    refine lv_istore_n (lv' := [(2, .int z_0), (0, .ref M.o_Vt), (1, .int y_1)]) hx hb d_Vt_enter_8 rfl hl (by decide) rfl (fun ls hl => ?_)
    refine lv_iload_n hx hb d_Vt_enter_9 rfl (lv_at hl 0 rfl) ?_
    refine lv_if_eq (tgt := 21) hx hb d_Vt_enter_10 (by decide) (fun c_3 => ?_) (fun c_3 => ?_)
    · have h := lf_t h c_3
      refine lv_aload_n hx hb d_Vt_enter_21 rfl (lv_at hl 1 rfl) ?_
      refine lv_iload_n hx hb d_Vt_enter_22 rfl (lv_at hl 2 rfl) ?_
      rcases lf_aT h with ⟨r_4, G_4, S_4, hc_4, h⟩ | h9
      · have mc := mo_Vt_itemHere hc_4
        have ml_4 := mo_Vt_itemHere hc_4
        have mF1 := mo_Vt_enter_26 h
        have hFc := lx_free hD hS hA
        refine va_calli (va_runV (As := [.int y_1]) (rest := []) ⟨hx, hb, hml, hown, hts⟩ (l_Vt_itemHere l dC dI X _ hc_4) (cwV 1 hts (gwV good_Vq (u_Vq_Vt _ k_Vt_130) (u_Vq_Vt _ k_Vt_131) (u_Vq_Vt _ k_Vt_217) (u_Vq_Vt _ k_Vt_0) (wcs (u_Vq_Vt _ k_Vt_132) (fun _ h => h))) rfl rfl rfl (by decide +kernel) ⟨Nat.le_of_ble_eq_true rfl, Nat.le_of_ble_eq_true rfl⟩) (pv_ofE (X.same _) (fun U z1 z2 => X.mono _ _ U hFc (hEw _ _ hS U z1 z2)) hP hK hD (va_recv hK hP (ci := 11) (q0 := 0) rfl rfl)) rfl rfl hl.1 rfl (lv_room (Nat.le_of_ble_eq_true rfl)) d_Vt_enter_23 ⟨ly_c1 m0.1 mc.1 mF1.1, ly_c1 m0.2 mc.2 mF1.2⟩) hS (fun q _ h => hFc q h) hFc (fun r_ Y_4 t H locs ht hvm hw hB hz1 hk1 hS => ?_)
        rw [hw]
        obtain ⟨hP, -, hD⟩ := hB
        rw [ht] at hP
        have hD := lx_dj hD hFc
        refine W.widen (k := G_4.gc - G0.gc) (n := G_4.gs - G0.gs) (ly_c2 m0.1 mc.1) (ly_c2 m0.2 mc.2) ?_
        have m0 := CG.le_tr m0 mc
        exact hB_26 z_0 r_4 Y_4 G_4 S_4 _ _ _ h m0 hP hD hS (lv_sub hl [1, 0] rfl)
      · have mc := mo_Vt_itemHere h9
        have hFc := lx_free hD hS hA
        rw [hQ]
        exact x_outV (n := 1) (As := [.int y_1]) (rest := []) (b := M.o_Vt) (st0 := [.int y_1, .ref M.o_Vt]) ⟨hx, hb, hml, hown, hts⟩ (lt_Vt_itemHere_2 l hfl dC dI X _ h9) (cwV 1 hts (gwV good_Vq (u_Vq_Vt _ k_Vt_130) (u_Vq_Vt _ k_Vt_131) (u_Vq_Vt _ k_Vt_217) (u_Vq_Vt _ k_Vt_0) (wcs (u_Vq_Vt _ k_Vt_132) (fun _ h => h))) rfl rfl rfl (by decide +kernel) ⟨Nat.le_of_ble_eq_true rfl, Nat.le_of_ble_eq_true rfl⟩) (pv_ofE (X.same _) (fun U z1 z2 => X.mono _ _ U hFc (hEw _ _ hS U z1 z2)) hP hK hD (va_recv hK hP (ci := 11) (q0 := 0) rfl rfl)) rfl hl.1 rfl (Nat.le_of_ble_eq_true rfl) d_Vt_enter_23 ⟨ly_c2 m0.1 mc.1, ly_c2 m0.2 mc.2⟩ hlocks hout ⟨ly_c2 m0.1 mc.1, ly_c2 m0.2 mc.2⟩ (fun E st t U z1 z2 z3 z4 z5 => ly_outQ hS hK hFc z1 z3 z4 z5) ⟨hS.2.2, fun z h => hFc z h⟩
    · have h := lf_f h c_3
      refine lv_aload_n hx hb d_Vt_enter_13 rfl (lv_at hl 1 rfl) ?_
      refine lv_iload_n hx hb d_Vt_enter_14 rfl (lv_at hl 2 rfl) ?_
      rcases lf_aT h with ⟨r_5, G_5, S_5, hc_5, h⟩ | h9
      · have mc := mo_Vt_entryHere hc_5
        have ml_5 := mo_Vt_entryHere hc_5
        have mF1 := mo_Vt_enter_18 h
        have hFc := lx_free hD hS hA
        refine va_calli (va_runV (As := [.int y_1]) (rest := []) ⟨hx, hb, hml, hown, hts⟩ (l_Vt_entryHere l dC dI X _ hc_5) (cwV 1 hts (gwV good_Vq (u_Vq_Vt _ k_Vt_122) (u_Vq_Vt _ k_Vt_123) (u_Vq_Vt _ k_Vt_218) (u_Vq_Vt _ k_Vt_0) (wcs (u_Vq_Vt _ k_Vt_124) (fun _ h => h))) rfl rfl rfl (by decide +kernel) ⟨Nat.le_of_ble_eq_true rfl, Nat.le_of_ble_eq_true rfl⟩) (pv_ofE (X.same _) (fun U z1 z2 => X.mono _ _ U hFc (hEw _ _ hS U z1 z2)) hP hK hD (va_recv hK hP (ci := 11) (q0 := 0) rfl rfl)) rfl rfl hl.1 rfl (lv_room (Nat.le_of_ble_eq_true rfl)) d_Vt_enter_15 ⟨ly_c1 m0.1 mc.1 mF1.1, ly_c1 m0.2 mc.2 mF1.2⟩) hS (fun q _ h => hFc q h) hFc (fun r_ Y_5 t H locs ht hvm hw hB hz1 hk1 hS => ?_)
        rw [hw]
        obtain ⟨hP, -, hD⟩ := hB
        rw [ht] at hP
        have hD := lx_dj hD hFc
        refine W.widen (k := G_5.gc - G0.gc) (n := G_5.gs - G0.gs) (ly_c2 m0.1 mc.1) (ly_c2 m0.2 mc.2) ?_
        have m0 := CG.le_tr m0 mc
        exact hB_18 z_0 r_5 Y_5 G_5 S_5 _ _ _ h m0 hP hD hS (lv_sub hl [1, 0] rfl)
      · have mc := mo_Vt_entryHere h9
        have hFc := lx_free hD hS hA
        rw [hQ]
        exact x_outV (n := 1) (As := [.int y_1]) (rest := []) (b := M.o_Vt) (st0 := [.int y_1, .ref M.o_Vt]) ⟨hx, hb, hml, hown, hts⟩ (lt_Vt_entryHere_2 l hfl dC dI X _ h9) (cwV 1 hts (gwV good_Vq (u_Vq_Vt _ k_Vt_122) (u_Vq_Vt _ k_Vt_123) (u_Vq_Vt _ k_Vt_218) (u_Vq_Vt _ k_Vt_0) (wcs (u_Vq_Vt _ k_Vt_124) (fun _ h => h))) rfl rfl rfl (by decide +kernel) ⟨Nat.le_of_ble_eq_true rfl, Nat.le_of_ble_eq_true rfl⟩) (pv_ofE (X.same _) (fun U z1 z2 => X.mono _ _ U hFc (hEw _ _ hS U z1 z2)) hP hK hD (va_recv hK hP (ci := 11) (q0 := 0) rfl rfl)) rfl hl.1 rfl (Nat.le_of_ble_eq_true rfl) d_Vt_enter_15 ⟨ly_c2 m0.1 mc.1, ly_c2 m0.2 mc.2⟩ hlocks hout ⟨ly_c2 m0.1 mc.1, ly_c2 m0.2 mc.2⟩ (fun E st t U z1 z2 z3 z4 z5 => ly_outQ hS hK hFc z1 z3 z4 z5) ⟨hS.2.2, fun z h => hFc z h⟩
  have hB_5 : ∀ (y_1 : Int32) (z_1 : Int32) (Y : CT) (G : CG) (S : CS) (H : Heap) (locs : List Loc) (ls : Array Slot), f_Vt_enter_5 K y_1 z_1 G S = some (.error 2, G', S') → CG.le G0 G → va_P (dC, dI) classes (wV M Y G S) H → va_D A (wV M Y G S) → va_S A s.heap H locs → lv_has ls 4 [(0, .ref M.o_Vt), (1, .int y_1)] → W p l e ({ frames := 8, cells := G'.gc - G0.gc, slots := G'.gs - G0.gs, locals := 224 }) s m ([.ref M.o_Vt, .int p0] : List Value).toArray below meth c H locs (G.gc - G0.gc) (G.gs - G0.gs) Q (F0 m 5 ls [.int z_1, .ref M.o_Vt]) := by
    intro y_1 z_1 Y G S H locs ls h m0 hP hD hS hl
    have mF := mo_Vt_enter_5 h
    rw [f_Vt_enter_5] at h
    rcases lf_aT h with ⟨r_2, G_2, S_2, hc_2, h⟩ | h9
    · have mc := mo_Vt_readsInodes hc_2
      have ml_2 := mo_Vt_readsInodes hc_2
      have mF1 := mo_Vt_enter_8 h
      have hFc := lx_free hD hS hA
      refine va_calli (va_runV (As := [.int z_1]) (rest := []) ⟨hx, hb, hml, hown, hts⟩ (l_Vt_readsInodes l dC dI X _ hc_2) (cwV 1 hts (gwV good_Vq (u_Vq_Vt _ k_Vt_111) (u_Vq_Vt _ k_Vt_112) (u_Vq_Vt _ k_Vt_215) (u_Vq_Vt _ k_Vt_0) (wcs (u_Vq_Vt _ k_Vt_113) (fun _ h => h))) rfl rfl rfl (by decide +kernel) ⟨Nat.le_of_ble_eq_true rfl, Nat.le_of_ble_eq_true rfl⟩) (pv_ofE (X.same _) (fun U z1 z2 => X.mono _ _ U hFc (hEw _ _ hS U z1 z2)) hP hK hD (va_recv hK hP (ci := 11) (q0 := 0) rfl rfl)) rfl rfl hl.1 rfl (lv_room (Nat.le_of_ble_eq_true rfl)) d_Vt_enter_5 ⟨ly_c1 m0.1 mc.1 mF1.1, ly_c1 m0.2 mc.2 mF1.2⟩) hS (fun q _ h => hFc q h) hFc (fun r_ Y_2 t H locs ht hvm hw hB hz1 hk1 hS => ?_)
      rw [hw]
      obtain ⟨hP, -, hD⟩ := hB
      rw [ht] at hP
      have hD := lx_dj hD hFc
      refine W.widen (k := G_2.gc - G0.gc) (n := G_2.gs - G0.gs) (ly_c2 m0.1 mc.1) (ly_c2 m0.2 mc.2) ?_
      have m0 := CG.le_tr m0 mc
      exact hB_8 y_1 r_2 Y_2 G_2 S_2 _ _ _ h m0 hP hD hS (lv_sub hl [0, 1] rfl)
    · exact absurd (th_Vt_readsInodes h9) (by decide)
  have m0 : CG.le G0 G0 := ⟨Nat.le_refl _, Nat.le_refl _⟩
  have mF := mo_Vt_enter h
  refine W.widen (k := G0.gc - G0.gc) (n := G0.gs - G0.gs) (Nat.zero_le _) (Nat.zero_le _) ?_
  rw [f_Vt_enter] at h
  refine lv_aload_n hx hb d_Vt_enter_0 rfl (lv_at hl 0 rfl) ?_
  refine lv_aload_n hx hb d_Vt_enter_1 rfl (lv_at hl 0 rfl) ?_
  obtain ⟨r_1, G_1, S_1, hc_1, h⟩ := lf_nE h
  have mc := mo_Vt_look hc_1
  have ml_1 := mo_Vt_look hc_1
  have mF1 := mo_Vt_enter_5 h
  have hFc := lx_free hD hS hA
  refine va_calli (va_runV (As := []) (rest := [.ref M.o_Vt]) ⟨hx, hb, hml, hown, hts⟩ (l_Vt_look l dC dI X _ hc_1) (cwV 0 hts (gwV good_Vq (u_Vq_Vt _ k_Vt_68) (u_Vq_Vt _ k_Vt_69) (u_Vq_Vt _ k_Vt_214) (u_Vq_Vt _ k_Vt_0) (wcs (u_Vq_Vt _ k_Vt_70) (fun _ h => h))) rfl rfl rfl (by decide +kernel) ⟨Nat.le_of_ble_eq_true rfl, Nat.le_of_ble_eq_true rfl⟩) (pv_ofE (X.same _) (fun U z1 z2 => X.mono _ _ U hFc (hEw _ _ hS U z1 z2)) hP hK hD (va_recv hK hP (ci := 11) (q0 := 0) rfl rfl)) rfl rfl hl.1 rfl (lv_room (Nat.le_of_ble_eq_true rfl)) d_Vt_enter_2 ⟨ly_c1 m0.1 mc.1 mF1.1, ly_c1 m0.2 mc.2 mF1.2⟩) hS (fun q _ h => hFc q h) hFc (fun r_ Y_1 t H locs ht hvm hw hB hz1 hk1 hS => ?_)
  rw [hw]
  obtain ⟨hP, -, hD⟩ := hB
  rw [ht] at hP
  have hD := lx_dj hD hFc
  refine W.widen (k := G_1.gc - G0.gc) (n := G_1.gs - G0.gs) (ly_c2 m0.1 mc.1) (ly_c2 m0.2 mc.2) ?_
  have m0 := CG.le_tr m0 mc
  exact hB_5 p0 r_1 Y_1 G_1 S_1 _ _ _ h m0 hP hD hS (lv_sub hl [0, 1] rfl)
