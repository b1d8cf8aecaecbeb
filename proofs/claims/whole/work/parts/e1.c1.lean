set_option maxHeartbeats 4000000 in
set_option maxRecDepth 100000 in
theorem l_Dk_has (l : Launch) (dC : Nat → ClassId) (dI : Nat → Nat → Nat) {K : Nat} {M : CA} {E : (Nat → Prop) → State → Prop} (X : ly_X l dC dI K M E) (sz : Nat) {Y : CT} {G : CG} {S S' : CS} {p0 : Int32} {p1 : Int32} {r : Int32} (h : f_Dk_has K G S p0 p1 = some (r, S')) : Met l y_Dk_has (.code y_Dk_has cb_Dk_has 3 (some .boolean) :: V_Vq) ({ frames := 0, cells := 0, slots := 0, locals := 0 }) (va_Pc [.ref M.o_Dk, .int p0, .int p1] (fun U => U.heap.size = sz ∧ at_ (dC, dI) (fun _ => True) (wV M Y G S) (tV M) U ∧ E (va_A (wV M Y G S) sz) U)) (va_Qi (fun (r_ : Int32) (u : Unit) => r_ = r) (fun (u : Unit) t => at_ (dC, dI) (va_A (wV M Y G S) sz) (wV M Y G S') (tV M) t) (va_A (wV M Y G S) sz)) 0 0 (va_A (wV M Y G S) sz) := by
  refine Met.ofW (cc := cb_Dk_has) (maxL := 3) (ret := (some .boolean)) (by decide) rfl ?_
  intro p e s m args below meth c s₁ B hml hv
  obtain ⟨rfl, hsz, ⟨hP, hK, hD0⟩, hE⟩ := hv
  have hx := B.exec
  have hb := B.bytes
  have hr := B.returns
  have hts0 := atoms_spec (ws := .code y_Dk_has cb_Dk_has 3 (some .boolean) :: V_Vq) B.pre
  have hts : ∀ w ∈ V_Vq, w.before ([.ref M.o_Dk, .int p0, .int p1] : List Value).toArray s = true := fun w h => hts0 w (List.mem_cons_of_mem _ h)
  have hown : s.vm.findClass R_Dk = some m.cls := findClass_of_methodNamed B.named
  subst hsz
  have hD := hD0.self (sz := s.heap.size)
  generalize hAe : va_A (wV M Y G S) s.heap.size = A at hD hE ⊢
  have hA : ∀ q : Nat, s.heap.size ≤ q → A q := fun q h => by rw [← hAe]; exact Or.inr h
  have hS : va_S A s.heap s.heap [] := va_S.rf
  have hP : va_P (dC, dI) classes (wV M Y G S) s.heap := hP
  have hK : va_K (dC, dI) classes (tV M) s := hK
  have hEw : ∀ (H : Heap) (locs : List Loc), va_S A s.heap H locs → ∀ U : State, U.heap = H → s.WarmedH U.vm → E A U := fun H locs hS U hU hW => X.kept A s U H locs hE hS hU hW
  have hl := lv_entry ([.ref M.o_Dk, .int p0, .int p1]) (n := 3) (Nat.le_of_ble_eq_true rfl)
  rw [lg_entry_eq]
  generalize (lg_sl ([.ref M.o_Dk, .int p0, .int p1]) ++ List.replicate (3 - (lg_sl ([.ref M.o_Dk, .int p0, .int p1])).length) Slot.unset).toArray = ls at hl ⊢
  have hl : lv_has ls 3 [(0, .ref M.o_Dk), (1, .int p0), (2, .int p1)] := hl
  refine qabs (fun Q hQ => ?_)
  have hB_27 : ∀ (S : CS) (H : Heap) (locs : List Loc) (ls : Array Slot), f_Dk_has_27 K G S = some (r, S') → va_P (dC, dI) classes (wV M Y G S) H → va_D A (wV M Y G S) → va_S A s.heap H locs → lv_has ls 3 [] → W p l e ({ frames := 0, cells := 0, slots := 0, locals := 0 }) s m ([.ref M.o_Dk, .int p0, .int p1] : List Value).toArray below meth c H locs 0 0 Q (F0 m 27 ls []) := by
    intro S H locs ls h hP hD hS hl
    rw [f_Dk_has_27] at h
    refine lv_iconst (v := 0) hx hb d_Dk_has_27 (by decide) ?_
    rw [hQ]
    have e1 : (0 : Int32) = r := congrArg Prod.fst (Option.some.inj h)
    have e2 : S = S' := congrArg Prod.snd (Option.some.inj h)
    have hP := ly_newP e2.symm hP
    have hD := ly_newD e2.symm hD
    exact W.zret (v := 0) hx hb hr rfl (fun t ht hW => ⟨⟨0, (), rfl, e1, by rw [ht]; exact hP, va_K.moved hW.alike hK, hD⟩, hS.F ht⟩) hS.2.2 d_Dk_has_28
  rw [f_Dk_has] at h
  refine lv_iload_n hx hb d_Dk_has_0 rfl (lv_at hl 1 rfl) ?_
  refine lv_if_lt (tgt := 27) hx hb d_Dk_has_1 (by decide) (fun c_1 => ?_) (fun c_1 => ?_)
  · have h := lf_t h c_1
    exact hB_27 S _ _ _ h hP hD hS (lv_sub hl [] rfl)
  · have h := lf_f h c_1
    refine lv_iload_n hx hb d_Dk_has_4 rfl (lv_at hl 1 rfl) ?_
    refine lv_aload_n hx hb d_Dk_has_5 rfl (lv_at hl 0 rfl) ?_
    refine va_get (D := (dC, dI)) (ci := 0) (v := .int S.v_Dk_sectors) (C := R_Dk) (T := F_Dk) (N := 3) hx hb hts (fun w h => u_Vq_Dk w (i_Dk w h)) hown hK hP 1 rfl rfl 0 (by decide) (hts _ (u_Vq_Dk _ k_Dk_5)) (fun _ h9 => h9) rfl d_Dk_has_6 ?_
    refine lv_icmp_ge (tgt := 27) hx hb d_Dk_has_9 (by decide) (fun c_2 => ?_) (fun c_2 => ?_)
    · have h := lf_t h c_2
      exact hB_27 S _ _ _ h hP hD hS (lv_sub hl [] rfl)
    · have h := lf_f h c_2
      refine lv_iload_n hx hb d_Dk_has_12 rfl (lv_at hl 2 rfl) ?_
      refine lv_if_lt (tgt := 27) hx hb d_Dk_has_13 (by decide) (fun c_3 => ?_) (fun c_3 => ?_)
      · have h := lf_t h c_3
        exact hB_27 S _ _ _ h hP hD hS (lv_sub hl [] rfl)
      · have h := lf_f h c_3
        refine lv_iload_n hx hb d_Dk_has_16 rfl (lv_at hl 2 rfl) ?_
        refine lv_sipush (v := 512) hx hb d_Dk_has_17 (by decide) ?_
        refine lv_icmp_ge (tgt := 27) hx hb d_Dk_has_20 (by decide) (fun c_4 => ?_) (fun c_4 => ?_)
        · have h := lf_t h c_4
          exact hB_27 S _ _ _ h hP hD hS (lv_sub hl [] rfl)
        · have h := lf_f h c_4
          refine lv_iconst (v := 1) hx hb d_Dk_has_23 (by decide) ?_
          refine lv_goto (tgt := 28) hx hb d_Dk_has_24 (by decide) ?_
          rw [hQ]
          have e1 : (1 : Int32) = r := congrArg Prod.fst (Option.some.inj h)
          have e2 : S = S' := congrArg Prod.snd (Option.some.inj h)
          have hP := ly_newP e2.symm hP
          have hD := ly_newD e2.symm hD
          exact W.zret (v := 1) hx hb hr rfl (fun t ht hW => ⟨⟨1, (), rfl, e1, by rw [ht]; exact hP, va_K.moved hW.alike hK, hD⟩, hS.F ht⟩) hS.2.2 d_Dk_has_28
set_option maxHeartbeats 4000000 in
set_option maxRecDepth 100000 in
theorem l_Dk_four (l : Launch) (dC : Nat → ClassId) (dI : Nat → Nat → Nat) {K : Nat} {M : CA} {E : (Nat → Prop) → State → Prop} (X : ly_X l dC dI K M E) (sz : Nat) {Y : CT} {G : CG} {S S' : CS} {p0 : Int32} {r : Int32} (h : f_Dk_four K G S p0 = some (r, S')) : Met l y_Dk_four (.code y_Dk_four cb_Dk_four 2 (some .int) :: V_Vq) ({ frames := 0, cells := 0, slots := 0, locals := 0 }) (va_Pc [.ref M.o_Dk, .int p0] (fun U => U.heap.size = sz ∧ at_ (dC, dI) (fun _ => True) (wV M Y G S) (tV M) U ∧ E (va_A (wV M Y G S) sz) U)) (va_Qi (fun (r_ : Int32) (u : Unit) => r_ = r) (fun (u : Unit) t => at_ (dC, dI) (va_A (wV M Y G S) sz) (wV M Y G S') (tV M) t) (va_A (wV M Y G S) sz)) 0 0 (va_A (wV M Y G S) sz) := by
  refine Met.ofW (cc := cb_Dk_four) (maxL := 2) (ret := (some .int)) (by decide) rfl ?_
  intro p e s m args below meth c s₁ B hml hv
  obtain ⟨rfl, hsz, ⟨hP, hK, hD0⟩, hE⟩ := hv
  have hx := B.exec
  have hb := B.bytes
  have hr := B.returns
  have hts0 := atoms_spec (ws := .code y_Dk_four cb_Dk_four 2 (some .int) :: V_Vq) B.pre
  have hts : ∀ w ∈ V_Vq, w.before ([.ref M.o_Dk, .int p0] : List Value).toArray s = true := fun w h => hts0 w (List.mem_cons_of_mem _ h)
  have hown : s.vm.findClass R_Dk = some m.cls := findClass_of_methodNamed B.named
  subst hsz
  have hD := hD0.self (sz := s.heap.size)
  generalize hAe : va_A (wV M Y G S) s.heap.size = A at hD hE ⊢
  have hA : ∀ q : Nat, s.heap.size ≤ q → A q := fun q h => by rw [← hAe]; exact Or.inr h
  have hS : va_S A s.heap s.heap [] := va_S.rf
  have hP : va_P (dC, dI) classes (wV M Y G S) s.heap := hP
  have hK : va_K (dC, dI) classes (tV M) s := hK
  have hEw : ∀ (H : Heap) (locs : List Loc), va_S A s.heap H locs → ∀ U : State, U.heap = H → s.WarmedH U.vm → E A U := fun H locs hS U hU hW => X.kept A s U H locs hE hS hU hW
  have hl := lv_entry ([.ref M.o_Dk, .int p0]) (n := 2) (Nat.le_of_ble_eq_true rfl)
  rw [lg_entry_eq]
  generalize (lg_sl ([.ref M.o_Dk, .int p0]) ++ List.replicate (2 - (lg_sl ([.ref M.o_Dk, .int p0])).length) Slot.unset).toArray = ls at hl ⊢
  have hl : lv_has ls 2 [(0, .ref M.o_Dk), (1, .int p0)] := hl
  refine qabs (fun Q hQ => ?_)
  have hB_15 : ∀ (S : CS) (H : Heap) (locs : List Loc) (ls : Array Slot), f_Dk_four_15 K G S = some (r, S') → va_P (dC, dI) classes (wV M Y G S) H → va_D A (wV M Y G S) → va_S A s.heap H locs → lv_has ls 2 [] → W p l e ({ frames := 0, cells := 0, slots := 0, locals := 0 }) s m ([.ref M.o_Dk, .int p0] : List Value).toArray below meth c H locs 0 0 Q (F0 m 15 ls []) := by
    intro S H locs ls h hP hD hS hl
    rw [f_Dk_four_15] at h
    refine lv_iconst (v := 0) hx hb d_Dk_four_15 (by decide) ?_
    rw [hQ]
    have e1 : (0 : Int32) = r := congrArg Prod.fst (Option.some.inj h)
    have e2 : S = S' := congrArg Prod.snd (Option.some.inj h)
    have hP := ly_newP e2.symm hP
    have hD := ly_newD e2.symm hD
    exact W.iret (v := 0) hx hb hr (fun t ht hW => ⟨⟨0, (), rfl, e1, by rw [ht]; exact hP, va_K.moved hW.alike hK, hD⟩, hS.F ht⟩) hS.2.2 d_Dk_four_16
  rw [f_Dk_four] at h
  refine lv_iload_n hx hb d_Dk_four_0 rfl (lv_at hl 1 rfl) ?_
  refine lv_if_lt (tgt := 15) hx hb d_Dk_four_1 (by decide) (fun c_1 => ?_) (fun c_1 => ?_)
  · have h := lf_t h c_1
    exact hB_15 S _ _ _ h hP hD hS (lv_sub hl [] rfl)
  · have h := lf_f h c_1
    refine lv_iload_n hx hb d_Dk_four_4 rfl (lv_at hl 1 rfl) ?_
    refine lv_aload_n hx hb d_Dk_four_5 rfl (lv_at hl 0 rfl) ?_
    refine va_get (D := (dC, dI)) (ci := 0) (v := .ref M.a_Dk_bytes) (C := R_Dk) (T := F_Dk) (N := 3) hx hb hts (fun w h => u_Vq_Dk w (i_Dk w h)) hown hK hP 1 rfl rfl 1 (by decide) (hts _ (u_Vq_Dk _ k_Dk_6)) (fun _ h9 => h9) rfl d_Dk_four_6 ?_
    refine va_alen (v := nI (512 * G.n)) hx hb hK hP 12 0 rfl rfl rfl d_Dk_four_9 ?_
    refine lv_iconst (v := 4) hx hb d_Dk_four_10 (by decide) ?_
    refine lv_isub hx hb d_Dk_four_11 ?_
    refine lv_icmp_le (tgt := 17) hx hb d_Dk_four_12 (by decide) (fun c_2 => ?_) (fun c_2 => ?_)
    · have h := lf_t h c_2
      refine lv_aload_n hx hb d_Dk_four_17 rfl (lv_at hl 0 rfl) ?_
      refine va_get (D := (dC, dI)) (ci := 0) (v := .ref M.a_Dk_bytes) (C := R_Dk) (T := F_Dk) (N := 3) hx hb hts (fun w h => u_Vq_Dk w (i_Dk w h)) hown hK hP 1 rfl rfl 1 (by decide) (hts _ (u_Vq_Dk _ k_Dk_6)) (fun _ h9 => h9) rfl d_Dk_four_18 ?_
      refine lv_iload_n hx hb d_Dk_four_21 rfl (lv_at hl 1 rfl) ?_
      obtain ⟨g_3, h⟩ := lf_gE h
      refine va_bald hx hb hK hP 12 0 rfl rfl g_3 d_Dk_four_22 ?_
      refine lv_sipush (v := 255) hx hb d_Dk_four_23 (by decide) ?_
      refine lv_iand hx hb d_Dk_four_26 ?_
      refine lv_aload_n hx hb d_Dk_four_27 rfl (lv_at hl 0 rfl) ?_
      refine va_get (D := (dC, dI)) (ci := 0) (v := .ref M.a_Dk_bytes) (C := R_Dk) (T := F_Dk) (N := 3) hx hb hts (fun w h => u_Vq_Dk w (i_Dk w h)) hown hK hP 1 rfl rfl 1 (by decide) (hts _ (u_Vq_Dk _ k_Dk_6)) (fun _ h9 => h9) rfl d_Dk_four_28 ?_
      refine lv_iload_n hx hb d_Dk_four_31 rfl (lv_at hl 1 rfl) ?_
      refine lv_iconst (v := 1) hx hb d_Dk_four_32 (by decide) ?_
      refine lv_iadd hx hb d_Dk_four_33 ?_
      obtain ⟨g_4, h⟩ := lf_gE h
      refine va_bald hx hb hK hP 12 0 rfl rfl g_4 d_Dk_four_34 ?_
      refine lv_sipush (v := 255) hx hb d_Dk_four_35 (by decide) ?_
      refine lv_iand hx hb d_Dk_four_38 ?_
      refine lv_bipush (v := 8) hx hb d_Dk_four_39 (by decide) ?_
      refine lv_ishl hx hb d_Dk_four_41 ?_
      refine lv_ior hx hb d_Dk_four_42 ?_
      refine lv_aload_n hx hb d_Dk_four_43 rfl (lv_at hl 0 rfl) ?_
      refine va_get (D := (dC, dI)) (ci := 0) (v := .ref M.a_Dk_bytes) (C := R_Dk) (T := F_Dk) (N := 3) hx hb hts (fun w h => u_Vq_Dk w (i_Dk w h)) hown hK hP 1 rfl rfl 1 (by decide) (hts _ (u_Vq_Dk _ k_Dk_6)) (fun _ h9 => h9) rfl d_Dk_four_44 ?_
      refine lv_iload_n hx hb d_Dk_four_47 rfl (lv_at hl 1 rfl) ?_
      refine lv_iconst (v := 2) hx hb d_Dk_four_48 (by decide) ?_
      refine lv_iadd hx hb d_Dk_four_49 ?_
      obtain ⟨g_5, h⟩ := lf_gE h
      refine va_bald hx hb hK hP 12 0 rfl rfl g_5 d_Dk_four_50 ?_
      refine lv_sipush (v := 255) hx hb d_Dk_four_51 (by decide) ?_
      refine lv_iand hx hb d_Dk_four_54 ?_
      refine lv_bipush (v := 16) hx hb d_Dk_four_55 (by decide) ?_
      refine lv_ishl hx hb d_Dk_four_57 ?_
      refine lv_ior hx hb d_Dk_four_58 ?_
      refine lv_aload_n hx hb d_Dk_four_59 rfl (lv_at hl 0 rfl) ?_
      refine va_get (D := (dC, dI)) (ci := 0) (v := .ref M.a_Dk_bytes) (C := R_Dk) (T := F_Dk) (N := 3) hx hb hts (fun w h => u_Vq_Dk w (i_Dk w h)) hown hK hP 1 rfl rfl 1 (by decide) (hts _ (u_Vq_Dk _ k_Dk_6)) (fun _ h9 => h9) rfl d_Dk_four_60 ?_
      refine lv_iload_n hx hb d_Dk_four_63 rfl (lv_at hl 1 rfl) ?_
      refine lv_iconst (v := 3) hx hb d_Dk_four_64 (by decide) ?_
      refine lv_iadd hx hb d_Dk_four_65 ?_
      obtain ⟨g_6, h⟩ := lf_gE h
      refine va_bald hx hb hK hP 12 0 rfl rfl g_6 d_Dk_four_66 ?_
      refine lv_sipush (v := 255) hx hb d_Dk_four_67 (by decide) ?_
      refine lv_iand hx hb d_Dk_four_70 ?_
      refine lv_bipush (v := 24) hx hb d_Dk_four_71 (by decide) ?_
      refine lv_ishl hx hb d_Dk_four_73 ?_
      refine lv_ior hx hb d_Dk_four_74 ?_
      rw [hQ]
      have e1 : (((((S.w_Dk_bytes p0.toNatClampNeg) &&& 255) ||| (((S.w_Dk_bytes (p0 + 1).toNatClampNeg) &&& 255) <<< ((8 : Int32) &&& 31))) ||| (((S.w_Dk_bytes (p0 + 2).toNatClampNeg) &&& 255) <<< ((16 : Int32) &&& 31))) ||| (((S.w_Dk_bytes (p0 + 3).toNatClampNeg) &&& 255) <<< ((24 : Int32) &&& 31))) = r := congrArg Prod.fst (Option.some.inj h)
      have e2 : S = S' := congrArg Prod.snd (Option.some.inj h)
      have hP := ly_newP e2.symm hP
      have hD := ly_newD e2.symm hD
      exact W.iret (v := (((((S.w_Dk_bytes p0.toNatClampNeg) &&& 255) ||| (((S.w_Dk_bytes (p0 + 1).toNatClampNeg) &&& 255) <<< ((8 : Int32) &&& 31))) ||| (((S.w_Dk_bytes (p0 + 2).toNatClampNeg) &&& 255) <<< ((16 : Int32) &&& 31))) ||| (((S.w_Dk_bytes (p0 + 3).toNatClampNeg) &&& 255) <<< ((24 : Int32) &&& 31)))) hx hb hr (fun t ht hW => ⟨⟨(((((S.w_Dk_bytes p0.toNatClampNeg) &&& 255) ||| (((S.w_Dk_bytes (p0 + 1).toNatClampNeg) &&& 255) <<< ((8 : Int32) &&& 31))) ||| (((S.w_Dk_bytes (p0 + 2).toNatClampNeg) &&& 255) <<< ((16 : Int32) &&& 31))) ||| (((S.w_Dk_bytes (p0 + 3).toNatClampNeg) &&& 255) <<< ((24 : Int32) &&& 31))), (), rfl, e1, by rw [ht]; exact hP, va_K.moved hW.alike hK, hD⟩, hS.F ht⟩) hS.2.2 d_Dk_four_75
    · have h := lf_f h c_2
      exact hB_15 S _ _ _ h hP hD hS (lv_sub hl [] rfl)
set_option maxHeartbeats 4000000 in
set_option maxRecDepth 100000 in
theorem l_Dk_putOne (l : Launch) (dC : Nat → ClassId) (dI : Nat → Nat → Nat) {K : Nat} {M : CA} {E : (Nat → Prop) → State → Prop} (X : ly_X l dC dI K M E) (sz : Nat) {Y : CT} {G : CG} {S S' : CS} {p0 : Int32} {p1 : Int32} (h : f_Dk_putOne K G S p0 p1 = some S') : Met l y_Dk_putOne (.code y_Dk_putOne cb_Dk_putOne 3 none :: V_Vq) ({ frames := 0, cells := 0, slots := 0, locals := 0 }) (va_Pc [.ref M.o_Dk, .int p0, .int p1] (fun U => U.heap.size = sz ∧ at_ (dC, dI) (fun _ => True) (wV M Y G S) (tV M) U ∧ E (va_A (wV M Y G S) sz) U)) (va_Qv (fun (u : Unit) => True) (fun (u : Unit) t => at_ (dC, dI) (va_A (wV M Y G S) sz) (wV M Y G S') (tV M) t) (va_A (wV M Y G S) sz)) 0 0 (va_A (wV M Y G S) sz) := by
  refine Met.ofW (cc := cb_Dk_putOne) (maxL := 3) (ret := none) (by decide) rfl ?_
  intro p e s m args below meth c s₁ B hml hv
  obtain ⟨rfl, hsz, ⟨hP, hK, hD0⟩, hE⟩ := hv
  have hx := B.exec
  have hb := B.bytes
  have hr := B.returns
  have hts0 := atoms_spec (ws := .code y_Dk_putOne cb_Dk_putOne 3 none :: V_Vq) B.pre
  have hts : ∀ w ∈ V_Vq, w.before ([.ref M.o_Dk, .int p0, .int p1] : List Value).toArray s = true := fun w h => hts0 w (List.mem_cons_of_mem _ h)
  have hown : s.vm.findClass R_Dk = some m.cls := findClass_of_methodNamed B.named
  subst hsz
  have hD := hD0.self (sz := s.heap.size)
  generalize hAe : va_A (wV M Y G S) s.heap.size = A at hD hE ⊢
  have hA : ∀ q : Nat, s.heap.size ≤ q → A q := fun q h => by rw [← hAe]; exact Or.inr h
  have hS : va_S A s.heap s.heap [] := va_S.rf
  have hP : va_P (dC, dI) classes (wV M Y G S) s.heap := hP
  have hK : va_K (dC, dI) classes (tV M) s := hK
  have hEw : ∀ (H : Heap) (locs : List Loc), va_S A s.heap H locs → ∀ U : State, U.heap = H → s.WarmedH U.vm → E A U := fun H locs hS U hU hW => X.kept A s U H locs hE hS hU hW
  have hl := lv_entry ([.ref M.o_Dk, .int p0, .int p1]) (n := 3) (Nat.le_of_ble_eq_true rfl)
  rw [lg_entry_eq]
  generalize (lg_sl ([.ref M.o_Dk, .int p0, .int p1]) ++ List.replicate (3 - (lg_sl ([.ref M.o_Dk, .int p0, .int p1])).length) Slot.unset).toArray = ls at hl ⊢
  have hl : lv_has ls 3 [(0, .ref M.o_Dk), (1, .int p0), (2, .int p1)] := hl
  refine qabs (fun Q hQ => ?_)
  rw [f_Dk_putOne] at h
  refine lv_iload_n hx hb d_Dk_putOne_0 rfl (lv_at hl 1 rfl) ?_
  refine lv_if_lt (tgt := 21) hx hb d_Dk_putOne_1 (by decide) (fun c_1 => ?_) (fun c_1 => ?_)
  · have h := lf_t h c_1
    rw [hQ]
    have e2 : S = S' := Option.some.inj h
    have hP := ly_newP e2.symm hP
    have hD := ly_newD e2.symm hD
    exact W.vret hx hb hr (fun t ht hW => ⟨⟨(), rfl, trivial, by rw [ht]; exact hP, va_K.moved hW.alike hK, hD⟩, hS.F ht⟩) hS.2.2 d_Dk_putOne_21
  · have h := lf_f h c_1
    refine lv_iload_n hx hb d_Dk_putOne_4 rfl (lv_at hl 1 rfl) ?_
    refine lv_aload_n hx hb d_Dk_putOne_5 rfl (lv_at hl 0 rfl) ?_
    refine va_get (D := (dC, dI)) (ci := 0) (v := .ref M.a_Dk_bytes) (C := R_Dk) (T := F_Dk) (N := 3) hx hb hts (fun w h => u_Vq_Dk w (i_Dk w h)) hown hK hP 1 rfl rfl 1 (by decide) (hts _ (u_Vq_Dk _ k_Dk_6)) (fun _ h9 => h9) rfl d_Dk_putOne_6 ?_
    refine va_alen (v := nI (512 * G.n)) hx hb hK hP 12 0 rfl rfl rfl d_Dk_putOne_9 ?_
    refine lv_icmp_ge (tgt := 21) hx hb d_Dk_putOne_10 (by decide) (fun c_2 => ?_) (fun c_2 => ?_)
    · have h := lf_t h c_2
      rw [hQ]
      have e2 : S = S' := Option.some.inj h
      have hP := ly_newP e2.symm hP
      have hD := ly_newD e2.symm hD
      exact W.vret hx hb hr (fun t ht hW => ⟨⟨(), rfl, trivial, by rw [ht]; exact hP, va_K.moved hW.alike hK, hD⟩, hS.F ht⟩) hS.2.2 d_Dk_putOne_21
    · have h := lf_f h c_2
      refine lv_aload_n hx hb d_Dk_putOne_13 rfl (lv_at hl 0 rfl) ?_
      refine va_get (D := (dC, dI)) (ci := 0) (v := .ref M.a_Dk_bytes) (C := R_Dk) (T := F_Dk) (N := 3) hx hb hts (fun w h => u_Vq_Dk w (i_Dk w h)) hown hK hP 1 rfl rfl 1 (by decide) (hts _ (u_Vq_Dk _ k_Dk_6)) (fun _ h9 => h9) rfl d_Dk_putOne_14 ?_
      refine lv_iload_n hx hb d_Dk_putOne_17 rfl (lv_at hl 1 rfl) ?_
      refine lv_iload_n hx hb d_Dk_putOne_18 rfl (lv_at hl 2 rfl) ?_
      refine lv_i2b hx hb d_Dk_putOne_19 rfl ?_
      obtain ⟨g_3, h⟩ := lf_gE h
      refine va_bast hx hb hK hP hD hS 12 0 rfl rfl g_3 d_Dk_putOne_20 (fun H locs hP hD hS => ?_)
      obtain ⟨S_4, eS_4, h⟩ := lf_lX h
      have hP := ly_newP eS_4 hP
      have hD := ly_newD eS_4 hD
      rw [hQ]
      have e2 : S_4 = S' := Option.some.inj h
      have hP := ly_newP e2.symm hP
      have hD := ly_newD e2.symm hD
      exact W.vret hx hb hr (fun t ht hW => ⟨⟨(), rfl, trivial, by rw [ht]; exact hP, va_K.moved hW.alike hK, hD⟩, hS.F ht⟩) hS.2.2 d_Dk_putOne_21
set_option maxHeartbeats 4000000 in
set_option maxRecDepth 100000 in
theorem l_Dk_putTwo (l : Launch) (dC : Nat → ClassId) (dI : Nat → Nat → Nat) {K : Nat} {M : CA} {E : (Nat → Prop) → State → Prop} (X : ly_X l dC dI K M E) (sz : Nat) {Y : CT} {G : CG} {S S' : CS} {p0 : Int32} {p1 : Int32} (h : f_Dk_putTwo K G S p0 p1 = some S') : Met l y_Dk_putTwo (.code y_Dk_putTwo cb_Dk_putTwo 3 none :: V_Vq) ({ frames := 0, cells := 0, slots := 0, locals := 0 }) (va_Pc [.ref M.o_Dk, .int p0, .int p1] (fun U => U.heap.size = sz ∧ at_ (dC, dI) (fun _ => True) (wV M Y G S) (tV M) U ∧ E (va_A (wV M Y G S) sz) U)) (va_Qv (fun (u : Unit) => True) (fun (u : Unit) t => at_ (dC, dI) (va_A (wV M Y G S) sz) (wV M Y G S') (tV M) t) (va_A (wV M Y G S) sz)) 0 0 (va_A (wV M Y G S) sz) := by
  refine Met.ofW (cc := cb_Dk_putTwo) (maxL := 3) (ret := none) (by decide) rfl ?_
  intro p e s m args below meth c s₁ B hml hv
  obtain ⟨rfl, hsz, ⟨hP, hK, hD0⟩, hE⟩ := hv
  have hx := B.exec
  have hb := B.bytes
  have hr := B.returns
  have hts0 := atoms_spec (ws := .code y_Dk_putTwo cb_Dk_putTwo 3 none :: V_Vq) B.pre
  have hts : ∀ w ∈ V_Vq, w.before ([.ref M.o_Dk, .int p0, .int p1] : List Value).toArray s = true := fun w h => hts0 w (List.mem_cons_of_mem _ h)
  have hown : s.vm.findClass R_Dk = some m.cls := findClass_of_methodNamed B.named
  subst hsz
  have hD := hD0.self (sz := s.heap.size)
  generalize hAe : va_A (wV M Y G S) s.heap.size = A at hD hE ⊢
  have hA : ∀ q : Nat, s.heap.size ≤ q → A q := fun q h => by rw [← hAe]; exact Or.inr h
  have hS : va_S A s.heap s.heap [] := va_S.rf
  have hP : va_P (dC, dI) classes (wV M Y G S) s.heap := hP
  have hK : va_K (dC, dI) classes (tV M) s := hK
  have hEw : ∀ (H : Heap) (locs : List Loc), va_S A s.heap H locs → ∀ U : State, U.heap = H → s.WarmedH U.vm → E A U := fun H locs hS U hU hW => X.kept A s U H locs hE hS hU hW
  have hl := lv_entry ([.ref M.o_Dk, .int p0, .int p1]) (n := 3) (Nat.le_of_ble_eq_true rfl)
  rw [lg_entry_eq]
  generalize (lg_sl ([.ref M.o_Dk, .int p0, .int p1]) ++ List.replicate (3 - (lg_sl ([.ref M.o_Dk, .int p0, .int p1])).length) Slot.unset).toArray = ls at hl ⊢
  have hl : lv_has ls 3 [(0, .ref M.o_Dk), (1, .int p0), (2, .int p1)] := hl
  refine qabs (fun Q hQ => ?_)
  rw [f_Dk_putTwo] at h
  refine lv_iload_n hx hb d_Dk_putTwo_0 rfl (lv_at hl 1 rfl) ?_
  refine lv_if_lt (tgt := 36) hx hb d_Dk_putTwo_1 (by decide) (fun c_1 => ?_) (fun c_1 => ?_)
  · have h := lf_t h c_1
    rw [hQ]
    have e2 : S = S' := Option.some.inj h
    have hP := ly_newP e2.symm hP
    have hD := ly_newD e2.symm hD
    exact W.vret hx hb hr (fun t ht hW => ⟨⟨(), rfl, trivial, by rw [ht]; exact hP, va_K.moved hW.alike hK, hD⟩, hS.F ht⟩) hS.2.2 d_Dk_putTwo_36
  · have h := lf_f h c_1
    refine lv_iload_n hx hb d_Dk_putTwo_4 rfl (lv_at hl 1 rfl) ?_
    refine lv_aload_n hx hb d_Dk_putTwo_5 rfl (lv_at hl 0 rfl) ?_
    refine va_get (D := (dC, dI)) (ci := 0) (v := .ref M.a_Dk_bytes) (C := R_Dk) (T := F_Dk) (N := 3) hx hb hts (fun w h => u_Vq_Dk w (i_Dk w h)) hown hK hP 1 rfl rfl 1 (by decide) (hts _ (u_Vq_Dk _ k_Dk_6)) (fun _ h9 => h9) rfl d_Dk_putTwo_6 ?_
    refine va_alen (v := nI (512 * G.n)) hx hb hK hP 12 0 rfl rfl rfl d_Dk_putTwo_9 ?_
    refine lv_iconst (v := 2) hx hb d_Dk_putTwo_10 (by decide) ?_
    refine lv_isub hx hb d_Dk_putTwo_11 ?_
    refine lv_icmp_gt (tgt := 36) hx hb d_Dk_putTwo_12 (by decide) (fun c_2 => ?_) (fun c_2 => ?_)
    · have h := lf_t h c_2
      rw [hQ]
      have e2 : S = S' := Option.some.inj h
      have hP := ly_newP e2.symm hP
      have hD := ly_newD e2.symm hD
      exact W.vret hx hb hr (fun t ht hW => ⟨⟨(), rfl, trivial, by rw [ht]; exact hP, va_K.moved hW.alike hK, hD⟩, hS.F ht⟩) hS.2.2 d_Dk_putTwo_36
    · have h := lf_f h c_2
      refine lv_aload_n hx hb d_Dk_putTwo_15 rfl (lv_at hl 0 rfl) ?_
      refine va_get (D := (dC, dI)) (ci := 0) (v := .ref M.a_Dk_bytes) (C := R_Dk) (T := F_Dk) (N := 3) hx hb hts (fun w h => u_Vq_Dk w (i_Dk w h)) hown hK hP 1 rfl rfl 1 (by decide) (hts _ (u_Vq_Dk _ k_Dk_6)) (fun _ h9 => h9) rfl d_Dk_putTwo_16 ?_
      refine lv_iload_n hx hb d_Dk_putTwo_19 rfl (lv_at hl 1 rfl) ?_
      refine lv_iload_n hx hb d_Dk_putTwo_20 rfl (lv_at hl 2 rfl) ?_
      refine lv_i2b hx hb d_Dk_putTwo_21 rfl ?_
      obtain ⟨g_3, h⟩ := lf_gE h
      refine va_bast hx hb hK hP hD hS 12 0 rfl rfl g_3 d_Dk_putTwo_22 (fun H locs hP hD hS => ?_)
      obtain ⟨S_4, eS_4, h⟩ := lf_lX h
      have hP := ly_newP eS_4 hP
      have hD := ly_newD eS_4 hD
      refine lv_aload_n hx hb d_Dk_putTwo_23 rfl (lv_at hl 0 rfl) ?_
      refine va_get (D := (dC, dI)) (ci := 0) (v := .ref M.a_Dk_bytes) (C := R_Dk) (T := F_Dk) (N := 3) hx hb hts (fun w h => u_Vq_Dk w (i_Dk w h)) hown hK hP 1 rfl rfl 1 (by decide) (hts _ (u_Vq_Dk _ k_Dk_6)) (fun _ h9 => h9) rfl d_Dk_putTwo_24 ?_
      refine lv_iload_n hx hb d_Dk_putTwo_27 rfl (lv_at hl 1 rfl) ?_
      refine lv_iconst (v := 1) hx hb d_Dk_putTwo_28 (by decide) ?_
      refine lv_iadd hx hb d_Dk_putTwo_29 ?_
      refine lv_iload_n hx hb d_Dk_putTwo_30 rfl (lv_at hl 2 rfl) ?_
      refine lv_bipush (v := 8) hx hb d_Dk_putTwo_31 (by decide) ?_
      refine lv_ishr hx hb d_Dk_putTwo_33 ?_
      refine lv_i2b hx hb d_Dk_putTwo_34 rfl ?_
      obtain ⟨g_5, h⟩ := lf_gE h
      refine va_bast hx hb hK hP hD hS 12 0 rfl rfl g_5 d_Dk_putTwo_35 (fun H locs hP hD hS => ?_)
      obtain ⟨S_6, eS_6, h⟩ := lf_lX h
      have hP := ly_newP eS_6 hP
      have hD := ly_newD eS_6 hD
      rw [hQ]
      have e2 : S_6 = S' := Option.some.inj h
      have hP := ly_newP e2.symm hP
      have hD := ly_newD e2.symm hD
      exact W.vret hx hb hr (fun t ht hW => ⟨⟨(), rfl, trivial, by rw [ht]; exact hP, va_K.moved hW.alike hK, hD⟩, hS.F ht⟩) hS.2.2 d_Dk_putTwo_36
set_option maxHeartbeats 4000000 in
set_option maxRecDepth 100000 in
theorem l_Dk_putFour (l : Launch) (dC : Nat → ClassId) (dI : Nat → Nat → Nat) {K : Nat} {M : CA} {E : (Nat → Prop) → State → Prop} (X : ly_X l dC dI K M E) (sz : Nat) {Y : CT} {G : CG} {S S' : CS} {p0 : Int32} {p1 : Int32} (h : f_Dk_putFour K G S p0 p1 = some S') : Met l y_Dk_putFour (.code y_Dk_putFour cb_Dk_putFour 3 none :: V_Vq) ({ frames := 0, cells := 0, slots := 0, locals := 0 }) (va_Pc [.ref M.o_Dk, .int p0, .int p1] (fun U => U.heap.size = sz ∧ at_ (dC, dI) (fun _ => True) (wV M Y G S) (tV M) U ∧ E (va_A (wV M Y G S) sz) U)) (va_Qv (fun (u : Unit) => True) (fun (u : Unit) t => at_ (dC, dI) (va_A (wV M Y G S) sz) (wV M Y G S') (tV M) t) (va_A (wV M Y G S) sz)) 0 0 (va_A (wV M Y G S) sz) := by
  refine Met.ofW (cc := cb_Dk_putFour) (maxL := 3) (ret := none) (by decide) rfl ?_
  intro p e s m args below meth c s₁ B hml hv
  obtain ⟨rfl, hsz, ⟨hP, hK, hD0⟩, hE⟩ := hv
  have hx := B.exec
  have hb := B.bytes
  have hr := B.returns
  have hts0 := atoms_spec (ws := .code y_Dk_putFour cb_Dk_putFour 3 none :: V_Vq) B.pre
  have hts : ∀ w ∈ V_Vq, w.before ([.ref M.o_Dk, .int p0, .int p1] : List Value).toArray s = true := fun w h => hts0 w (List.mem_cons_of_mem _ h)
  have hown : s.vm.findClass R_Dk = some m.cls := findClass_of_methodNamed B.named
  subst hsz
  have hD := hD0.self (sz := s.heap.size)
  generalize hAe : va_A (wV M Y G S) s.heap.size = A at hD hE ⊢
  have hA : ∀ q : Nat, s.heap.size ≤ q → A q := fun q h => by rw [← hAe]; exact Or.inr h
  have hS : va_S A s.heap s.heap [] := va_S.rf
  have hP : va_P (dC, dI) classes (wV M Y G S) s.heap := hP
  have hK : va_K (dC, dI) classes (tV M) s := hK
  have hEw : ∀ (H : Heap) (locs : List Loc), va_S A s.heap H locs → ∀ U : State, U.heap = H → s.WarmedH U.vm → E A U := fun H locs hS U hU hW => X.kept A s U H locs hE hS hU hW
  have hl := lv_entry ([.ref M.o_Dk, .int p0, .int p1]) (n := 3) (Nat.le_of_ble_eq_true rfl)
  rw [lg_entry_eq]
  generalize (lg_sl ([.ref M.o_Dk, .int p0, .int p1]) ++ List.replicate (3 - (lg_sl ([.ref M.o_Dk, .int p0, .int p1])).length) Slot.unset).toArray = ls at hl ⊢
  have hl : lv_has ls 3 [(0, .ref M.o_Dk), (1, .int p0), (2, .int p1)] := hl
  refine qabs (fun Q hQ => ?_)
  rw [f_Dk_putFour] at h
  refine lv_iload_n hx hb d_Dk_putFour_0 rfl (lv_at hl 1 rfl) ?_
  refine lv_if_lt (tgt := 62) hx hb d_Dk_putFour_1 (by decide) (fun c_1 => ?_) (fun c_1 => ?_)
  · have h := lf_t h c_1
    rw [hQ]
    have e2 : S = S' := Option.some.inj h
    have hP := ly_newP e2.symm hP
    have hD := ly_newD e2.symm hD
    exact W.vret hx hb hr (fun t ht hW => ⟨⟨(), rfl, trivial, by rw [ht]; exact hP, va_K.moved hW.alike hK, hD⟩, hS.F ht⟩) hS.2.2 d_Dk_putFour_62
  · have h := lf_f h c_1
    refine lv_iload_n hx hb d_Dk_putFour_4 rfl (lv_at hl 1 rfl) ?_
    refine lv_aload_n hx hb d_Dk_putFour_5 rfl (lv_at hl 0 rfl) ?_
    refine va_get (D := (dC, dI)) (ci := 0) (v := .ref M.a_Dk_bytes) (C := R_Dk) (T := F_Dk) (N := 3) hx hb hts (fun w h => u_Vq_Dk w (i_Dk w h)) hown hK hP 1 rfl rfl 1 (by decide) (hts _ (u_Vq_Dk _ k_Dk_6)) (fun _ h9 => h9) rfl d_Dk_putFour_6 ?_
    refine va_alen (v := nI (512 * G.n)) hx hb hK hP 12 0 rfl rfl rfl d_Dk_putFour_9 ?_
    refine lv_iconst (v := 4) hx hb d_Dk_putFour_10 (by decide) ?_
    refine lv_isub hx hb d_Dk_putFour_11 ?_
    refine lv_icmp_gt (tgt := 62) hx hb d_Dk_putFour_12 (by decide) (fun c_2 => ?_) (fun c_2 => ?_)
    · have h := lf_t h c_2
      rw [hQ]
      have e2 : S = S' := Option.some.inj h
      have hP := ly_newP e2.symm hP
      have hD := ly_newD e2.symm hD
      exact W.vret hx hb hr (fun t ht hW => ⟨⟨(), rfl, trivial, by rw [ht]; exact hP, va_K.moved hW.alike hK, hD⟩, hS.F ht⟩) hS.2.2 d_Dk_putFour_62
    · have h := lf_f h c_2
      refine lv_aload_n hx hb d_Dk_putFour_15 rfl (lv_at hl 0 rfl) ?_
      refine va_get (D := (dC, dI)) (ci := 0) (v := .ref M.a_Dk_bytes) (C := R_Dk) (T := F_Dk) (N := 3) hx hb hts (fun w h => u_Vq_Dk w (i_Dk w h)) hown hK hP 1 rfl rfl 1 (by decide) (hts _ (u_Vq_Dk _ k_Dk_6)) (fun _ h9 => h9) rfl d_Dk_putFour_16 ?_
      refine lv_iload_n hx hb d_Dk_putFour_19 rfl (lv_at hl 1 rfl) ?_
      refine lv_iload_n hx hb d_Dk_putFour_20 rfl (lv_at hl 2 rfl) ?_
      refine lv_i2b hx hb d_Dk_putFour_21 rfl ?_
      obtain ⟨g_3, h⟩ := lf_gE h
      refine va_bast hx hb hK hP hD hS 12 0 rfl rfl g_3 d_Dk_putFour_22 (fun H locs hP hD hS => ?_)
      obtain ⟨S_4, eS_4, h⟩ := lf_lX h
      have hP := ly_newP eS_4 hP
      have hD := ly_newD eS_4 hD
      refine lv_aload_n hx hb d_Dk_putFour_23 rfl (lv_at hl 0 rfl) ?_
      refine va_get (D := (dC, dI)) (ci := 0) (v := .ref M.a_Dk_bytes) (C := R_Dk) (T := F_Dk) (N := 3) hx hb hts (fun w h => u_Vq_Dk w (i_Dk w h)) hown hK hP 1 rfl rfl 1 (by decide) (hts _ (u_Vq_Dk _ k_Dk_6)) (fun _ h9 => h9) rfl d_Dk_putFour_24 ?_
      refine lv_iload_n hx hb d_Dk_putFour_27 rfl (lv_at hl 1 rfl) ?_
      refine lv_iconst (v := 1) hx hb d_Dk_putFour_28 (by decide) ?_
      refine lv_iadd hx hb d_Dk_putFour_29 ?_
      refine lv_iload_n hx hb d_Dk_putFour_30 rfl (lv_at hl 2 rfl) ?_
      refine lv_bipush (v := 8) hx hb d_Dk_putFour_31 (by decide) ?_
      refine lv_ishr hx hb d_Dk_putFour_33 ?_
      refine lv_i2b hx hb d_Dk_putFour_34 rfl ?_
      obtain ⟨g_5, h⟩ := lf_gE h
      refine va_bast hx hb hK hP hD hS 12 0 rfl rfl g_5 d_Dk_putFour_35 (fun H locs hP hD hS => ?_)
      obtain ⟨S_6, eS_6, h⟩ := lf_lX h
      have hP := ly_newP eS_6 hP
      have hD := ly_newD eS_6 hD
      refine lv_aload_n hx hb d_Dk_putFour_36 rfl (lv_at hl 0 rfl) ?_
      refine va_get (D := (dC, dI)) (ci := 0) (v := .ref M.a_Dk_bytes) (C := R_Dk) (T := F_Dk) (N := 3) hx hb hts (fun w h => u_Vq_Dk w (i_Dk w h)) hown hK hP 1 rfl rfl 1 (by decide) (hts _ (u_Vq_Dk _ k_Dk_6)) (fun _ h9 => h9) rfl d_Dk_putFour_37 ?_
      refine lv_iload_n hx hb d_Dk_putFour_40 rfl (lv_at hl 1 rfl) ?_
      refine lv_iconst (v := 2) hx hb d_Dk_putFour_41 (by decide) ?_
      refine lv_iadd hx hb d_Dk_putFour_42 ?_
      refine lv_iload_n hx hb d_Dk_putFour_43 rfl (lv_at hl 2 rfl) ?_
      refine lv_bipush (v := 16) hx hb d_Dk_putFour_44 (by decide) ?_
      refine lv_ishr hx hb d_Dk_putFour_46 ?_
      refine lv_i2b hx hb d_Dk_putFour_47 rfl ?_
      obtain ⟨g_7, h⟩ := lf_gE h
      refine va_bast hx hb hK hP hD hS 12 0 rfl rfl g_7 d_Dk_putFour_48 (fun H locs hP hD hS => ?_)
      obtain ⟨S_8, eS_8, h⟩ := lf_lX h
      have hP := ly_newP eS_8 hP
      have hD := ly_newD eS_8 hD
      refine lv_aload_n hx hb d_Dk_putFour_49 rfl (lv_at hl 0 rfl) ?_
      refine va_get (D := (dC, dI)) (ci := 0) (v := .ref M.a_Dk_bytes) (C := R_Dk) (T := F_Dk) (N := 3) hx hb hts (fun w h => u_Vq_Dk w (i_Dk w h)) hown hK hP 1 rfl rfl 1 (by decide) (hts _ (u_Vq_Dk _ k_Dk_6)) (fun _ h9 => h9) rfl d_Dk_putFour_50 ?_
      refine lv_iload_n hx hb d_Dk_putFour_53 rfl (lv_at hl 1 rfl) ?_
      refine lv_iconst (v := 3) hx hb d_Dk_putFour_54 (by decide) ?_
      refine lv_iadd hx hb d_Dk_putFour_55 ?_
      refine lv_iload_n hx hb d_Dk_putFour_56 rfl (lv_at hl 2 rfl) ?_
      refine lv_bipush (v := 24) hx hb d_Dk_putFour_57 (by decide) ?_
      refine lv_ishr hx hb d_Dk_putFour_59 ?_
      refine lv_i2b hx hb d_Dk_putFour_60 rfl ?_
      obtain ⟨g_9, h⟩ := lf_gE h
      refine va_bast hx hb hK hP hD hS 12 0 rfl rfl g_9 d_Dk_putFour_61 (fun H locs hP hD hS => ?_)
      obtain ⟨S_10, eS_10, h⟩ := lf_lX h
      have hP := ly_newP eS_10 hP
      have hD := ly_newD eS_10 hD
      rw [hQ]
      have e2 : S_10 = S' := Option.some.inj h
      have hP := ly_newP e2.symm hP
      have hD := ly_newD e2.symm hD
      exact W.vret hx hb hr (fun t ht hW => ⟨⟨(), rfl, trivial, by rw [ht]; exact hP, va_K.moved hW.alike hK, hD⟩, hS.F ht⟩) hS.2.2 d_Dk_putFour_62
set_option maxHeartbeats 4000000 in
set_option maxRecDepth 100000 in
theorem l_Dk_zero (l : Launch) (dC : Nat → ClassId) (dI : Nat → Nat → Nat) {K : Nat} {M : CA} {E : (Nat → Prop) → State → Prop} (X : ly_X l dC dI K M E) (sz : Nat) {Y : CT} {G : CG} {S S' : CS} {p0 : Int32} {p1 : Int32} (h : f_Dk_zero K G S p0 p1 = some S') : Met l y_Dk_zero (.code y_Dk_zero cb_Dk_zero 3 none :: V_Vq) ({ frames := 2, cells := 0, slots := 0, locals := 46 }) (va_Pc [.ref M.o_Dk, .int p0, .int p1] (fun U => U.heap.size = sz ∧ at_ (dC, dI) (fun _ => True) (wV M Y G S) (tV M) U ∧ E (va_A (wV M Y G S) sz) U)) (va_Qv (fun (u : Unit) => True) (fun (u : Unit) t => at_ (dC, dI) (va_A (wV M Y G S) sz) (wV M Y G S') (tV M) t) (va_A (wV M Y G S) sz)) 0 0 (va_A (wV M Y G S) sz) := by
  refine Met.ofW (cc := cb_Dk_zero) (maxL := 3) (ret := none) (by decide) rfl ?_
  intro p e s m args below meth c s₁ B hml hv
  obtain ⟨rfl, hsz, ⟨hP, hK, hD0⟩, hE⟩ := hv
  have hx := B.exec
  have hb := B.bytes
  have hr := B.returns
  have hts0 := atoms_spec (ws := .code y_Dk_zero cb_Dk_zero 3 none :: V_Vq) B.pre
  have hts : ∀ w ∈ V_Vq, w.before ([.ref M.o_Dk, .int p0, .int p1] : List Value).toArray s = true := fun w h => hts0 w (List.mem_cons_of_mem _ h)
  have hown : s.vm.findClass R_Dk = some m.cls := findClass_of_methodNamed B.named
  subst hsz
  have hD := hD0.self (sz := s.heap.size)
  generalize hAe : va_A (wV M Y G S) s.heap.size = A at hD hE ⊢
  have hA : ∀ q : Nat, s.heap.size ≤ q → A q := fun q h => by rw [← hAe]; exact Or.inr h
  have hS : va_S A s.heap s.heap [] := va_S.rf
  have hP : va_P (dC, dI) classes (wV M Y G S) s.heap := hP
  have hK : va_K (dC, dI) classes (tV M) s := hK
  have hEw : ∀ (H : Heap) (locs : List Loc), va_S A s.heap H locs → ∀ U : State, U.heap = H → s.WarmedH U.vm → E A U := fun H locs hS U hU hW => X.kept A s U H locs hE hS hU hW
  have hl := lv_entry ([.ref M.o_Dk, .int p0, .int p1]) (n := 3) (Nat.le_of_ble_eq_true rfl)
  rw [lg_entry_eq]
  generalize (lg_sl ([.ref M.o_Dk, .int p0, .int p1]) ++ List.replicate (3 - (lg_sl ([.ref M.o_Dk, .int p0, .int p1])).length) Slot.unset).toArray = ls at hl ⊢
  have hl : lv_has ls 3 [(0, .ref M.o_Dk), (1, .int p0), (2, .int p1)] := hl
  refine qabs (fun Q hQ => ?_)
  rw [f_Dk_zero] at h
  refine lv_iload_n hx hb d_Dk_zero_0 rfl (lv_at hl 1 rfl) ?_
  refine lv_if_lt (tgt := 40) hx hb d_Dk_zero_1 (by decide) (fun c_1 => ?_) (fun c_1 => ?_)
  · have h := lf_t h c_1
    rw [hQ]
    have e2 : S = S' := Option.some.inj h
    have hP := ly_newP e2.symm hP
    have hD := ly_newD e2.symm hD
    exact W.vret hx hb hr (fun t ht hW => ⟨⟨(), rfl, trivial, by rw [ht]; exact hP, va_K.moved hW.alike hK, hD⟩, hS.F ht⟩) hS.2.2 d_Dk_zero_40
  · have h := lf_f h c_1
    refine lv_iload_n hx hb d_Dk_zero_4 rfl (lv_at hl 2 rfl) ?_
    refine lv_if_lt (tgt := 40) hx hb d_Dk_zero_5 (by decide) (fun c_2 => ?_) (fun c_2 => ?_)
    · have h := lf_t h c_2
      rw [hQ]
      have e2 : S = S' := Option.some.inj h
      have hP := ly_newP e2.symm hP
      have hD := ly_newD e2.symm hD
      exact W.vret hx hb hr (fun t ht hW => ⟨⟨(), rfl, trivial, by rw [ht]; exact hP, va_K.moved hW.alike hK, hD⟩, hS.F ht⟩) hS.2.2 d_Dk_zero_40
    · have h := lf_f h c_2
      refine lv_iload_n hx hb d_Dk_zero_8 rfl (lv_at hl 2 rfl) ?_
      refine lv_aload_n hx hb d_Dk_zero_9 rfl (lv_at hl 0 rfl) ?_
      refine va_get (D := (dC, dI)) (ci := 0) (v := .ref M.a_Dk_bytes) (C := R_Dk) (T := F_Dk) (N := 3) hx hb hts (fun w h => u_Vq_Dk w (i_Dk w h)) hown hK hP 1 rfl rfl 1 (by decide) (hts _ (u_Vq_Dk _ k_Dk_6)) (fun _ h9 => h9) rfl d_Dk_zero_10 ?_
      refine va_alen (v := nI (512 * G.n)) hx hb hK hP 12 0 rfl rfl rfl d_Dk_zero_13 ?_
      refine lv_icmp_gt (tgt := 40) hx hb d_Dk_zero_14 (by decide) (fun c_3 => ?_) (fun c_3 => ?_)
      · have h := lf_t h c_3
        rw [hQ]
        have e2 : S = S' := Option.some.inj h
        have hP := ly_newP e2.symm hP
        have hD := ly_newD e2.symm hD
        exact W.vret hx hb hr (fun t ht hW => ⟨⟨(), rfl, trivial, by rw [ht]; exact hP, va_K.moved hW.alike hK, hD⟩, hS.F ht⟩) hS.2.2 d_Dk_zero_40
      · have h := lf_f h c_3
        refine lv_iload_n hx hb d_Dk_zero_17 rfl (lv_at hl 1 rfl) ?_
        refine lv_aload_n hx hb d_Dk_zero_18 rfl (lv_at hl 0 rfl) ?_
        refine va_get (D := (dC, dI)) (ci := 0) (v := .ref M.a_Dk_bytes) (C := R_Dk) (T := F_Dk) (N := 3) hx hb hts (fun w h => u_Vq_Dk w (i_Dk w h)) hown hK hP 1 rfl rfl 1 (by decide) (hts _ (u_Vq_Dk _ k_Dk_6)) (fun _ h9 => h9) rfl d_Dk_zero_19 ?_
        refine va_alen (v := nI (512 * G.n)) hx hb hK hP 12 0 rfl rfl rfl d_Dk_zero_22 ?_
        refine lv_iload_n hx hb d_Dk_zero_23 rfl (lv_at hl 2 rfl) ?_
        refine lv_isub hx hb d_Dk_zero_24 ?_
        refine lv_icmp_gt (tgt := 40) hx hb d_Dk_zero_25 (by decide) (fun c_4 => ?_) (fun c_4 => ?_)
        · have h := lf_t h c_4
          rw [hQ]
          have e2 : S = S' := Option.some.inj h
          have hP := ly_newP e2.symm hP
          have hD := ly_newD e2.symm hD
          exact W.vret hx hb hr (fun t ht hW => ⟨⟨(), rfl, trivial, by rw [ht]; exact hP, va_K.moved hW.alike hK, hD⟩, hS.F ht⟩) hS.2.2 d_Dk_zero_40
        · have h := lf_f h c_4
          refine lv_aload_n hx hb d_Dk_zero_28 rfl (lv_at hl 0 rfl) ?_
          refine va_get (D := (dC, dI)) (ci := 0) (v := .ref M.a_Dk_bytes) (C := R_Dk) (T := F_Dk) (N := 3) hx hb hts (fun w h => u_Vq_Dk w (i_Dk w h)) hown hK hP 1 rfl rfl 1 (by decide) (hts _ (u_Vq_Dk _ k_Dk_6)) (fun _ h9 => h9) rfl d_Dk_zero_29 ?_
          refine lv_iload_n hx hb d_Dk_zero_32 rfl (lv_at hl 1 rfl) ?_
          refine lv_iload_n hx hb d_Dk_zero_33 rfl (lv_at hl 1 rfl) ?_
          refine lv_iload_n hx hb d_Dk_zero_34 rfl (lv_at hl 2 rfl) ?_
          refine lv_iadd hx hb d_Dk_zero_35 ?_
          refine lv_iconst (v := 0) hx hb d_Dk_zero_36 (by decide) ?_
          obtain ⟨g_5, h⟩ := lf_gE h
          have hPc := hP.sub (ws' := [(M.a_Dk_bytes, .inl (M.kB, (512 * G.n), .inl S.w_Dk_bytes))]) [12] rfl
          have hDc := hD.sub (ws' := [(M.a_Dk_bytes, .inl (M.kB, (512 * G.n), .inl S.w_Dk_bytes))]) [12] (by decide) rfl
          have hKc := hK.sub (tys' := [(M.kB, .byte)]) [0] rfl
          have hFc := va_free (wc := [(M.a_Dk_bytes, .inl (M.kB, (512 * G.n), .inl S.w_Dk_bytes))]) hD hS hA [12] rfl
          refine va_callv (va_runS (As := [.ref M.a_Dk_bytes, .int p0, .int (p0 + p1), .int 0]) (rest := []) ⟨hx, hb, hml, hown, hts⟩ (l_Ar_fillBR l dC dI M.a_Dk_bytes _ M.kB (512 * G.n) S.w_Dk_bytes g_5.1 g_5.2.1 g_5.2.2.1 g_5.2.2.2.1 g_5.2.2.2.2 0) (va_cwS 4 hts (gwS good_Vq (u_Vq_Dk _ k_Dk_26) (u_Vq_J _ k_J_24) (u_Vq_J _ k_J_2) (wcs (u_Vq_J _ k_J_25) u_Vq_J)) rfl rfl rfl (by decide +kernel) ⟨Nat.le_of_ble_eq_true rfl, Nat.le_of_ble_eq_true rfl⟩) (ps_of hPc hKc hDc) rfl rfl hl.1 rfl (lv_room (Nat.le_of_ble_eq_true rfl)) d_Dk_zero_37 ⟨by decide, by decide⟩) hS (fun q _ h => hFc q h) hFc (fun u t H locs ht hvm hw hB hz1 hk1 hS => ?_)
          obtain ⟨hP1, -, -⟩ := hB
          rw [ht, hw] at hP1
          obtain ⟨hP, hD⟩ := lx_one hP hD (q := 12) rfl hk1 hP1
          obtain ⟨S_6, eS_6, h⟩ := lf_lX h
          have hP := ly_newP eS_6 hP
          have hD := ly_newD eS_6 hD
          rw [hQ]
          have e2 : S_6 = S' := Option.some.inj h
          have hP := ly_newP e2.symm hP
          have hD := ly_newD e2.symm hD
          exact W.vret hx hb hr (fun t ht hW => ⟨⟨(), rfl, trivial, by rw [ht]; exact hP, va_K.moved hW.alike hK, hD⟩, hS.F ht⟩) hS.2.2 d_Dk_zero_40
set_option maxHeartbeats 4000000 in
set_option maxRecDepth 100000 in
theorem l_Dk_supply (l : Launch) (dC : Nat → ClassId) (dI : Nat → Nat → Nat) {K : Nat} {M : CA} {E : (Nat → Prop) → State → Prop} (X : ly_X l dC dI K M E) (sz : Nat) {Y : CT} {G : CG} {S S' : CS} {p0 : Int32} (h : f_Dk_supply K G S p0 = some S') : Met l y_Dk_supply (.code y_Dk_supply cb_Dk_supply 2 none :: V_Vq) ({ frames := 0, cells := 0, slots := 0, locals := 0 }) (va_Pc [.ref M.o_Dk, .int p0] (fun U => U.heap.size = sz ∧ at_ (dC, dI) (fun _ => True) (wV M Y G S) (tV M) U ∧ E (va_A (wV M Y G S) sz) U)) (va_Qv (fun (u : Unit) => True) (fun (u : Unit) t => at_ (dC, dI) (va_A (wV M Y G S) sz) (wV M Y G S') (tV M) t) (va_A (wV M Y G S) sz)) 0 0 (va_A (wV M Y G S) sz) := by
  refine Met.ofW (cc := cb_Dk_supply) (maxL := 2) (ret := none) (by decide) rfl ?_
  intro p e s m args below meth c s₁ B hml hv
  obtain ⟨rfl, hsz, ⟨hP, hK, hD0⟩, hE⟩ := hv
  have hx := B.exec
  have hb := B.bytes
  have hr := B.returns
  have hts0 := atoms_spec (ws := .code y_Dk_supply cb_Dk_supply 2 none :: V_Vq) B.pre
  have hts : ∀ w ∈ V_Vq, w.before ([.ref M.o_Dk, .int p0] : List Value).toArray s = true := fun w h => hts0 w (List.mem_cons_of_mem _ h)
  have hown : s.vm.findClass R_Dk = some m.cls := findClass_of_methodNamed B.named
  subst hsz
  have hD := hD0.self (sz := s.heap.size)
  generalize hAe : va_A (wV M Y G S) s.heap.size = A at hD hE ⊢
  have hA : ∀ q : Nat, s.heap.size ≤ q → A q := fun q h => by rw [← hAe]; exact Or.inr h
  have hS : va_S A s.heap s.heap [] := va_S.rf
  have hP : va_P (dC, dI) classes (wV M Y G S) s.heap := hP
  have hK : va_K (dC, dI) classes (tV M) s := hK
  have hEw : ∀ (H : Heap) (locs : List Loc), va_S A s.heap H locs → ∀ U : State, U.heap = H → s.WarmedH U.vm → E A U := fun H locs hS U hU hW => X.kept A s U H locs hE hS hU hW
  have hl := lv_entry ([.ref M.o_Dk, .int p0]) (n := 2) (Nat.le_of_ble_eq_true rfl)
  rw [lg_entry_eq]
  generalize (lg_sl ([.ref M.o_Dk, .int p0]) ++ List.replicate (2 - (lg_sl ([.ref M.o_Dk, .int p0])).length) Slot.unset).toArray = ls at hl ⊢
  have hl : lv_has ls 2 [(0, .ref M.o_Dk), (1, .int p0)] := hl
  refine qabs (fun Q hQ => ?_)
  rw [f_Dk_supply] at h
  refine lv_aload_n hx hb d_Dk_supply_0 rfl (lv_at hl 0 rfl) ?_
  refine lv_iload_n hx hb d_Dk_supply_1 rfl (lv_at hl 1 rfl) ?_
  refine va_put (D := (dC, dI)) (ci := 0) (v := .int p0) (ty := .int) (C := R_Dk) (T := F_Dk) (N := 3) hx hb hts (fun w h => u_Vq_Dk w (i_Dk w h)) t_Dk t_Dk_ok n_Dk hown hK hP hD hS 1 rfl rfl 2 (by decide) (hts _ (u_Vq_Dk _ k_Dk_7)) (fun _ h9 => h9) rfl (by decide +kernel) rfl rfl (Nat.le_of_ble_eq_true rfl) d_Dk_supply_2 (fun H locs hP hD hS => ?_)
  obtain ⟨S_1, eS_1, h⟩ := lf_lX h
  have hP := ly_newP eS_1 hP
  have hD := ly_newD eS_1 hD
  rw [hQ]
  have e2 : S_1 = S' := Option.some.inj h
  have hP := ly_newP e2.symm hP
  have hD := ly_newD e2.symm hD
  exact W.vret hx hb hr (fun t ht hW => ⟨⟨(), rfl, trivial, by rw [ht]; exact hP, va_K.moved hW.alike hK, hD⟩, hS.F ht⟩) hS.2.2 d_Dk_supply_5
set_option maxHeartbeats 4000000 in
set_option maxRecDepth 100000 in
theorem l_Dk_isOn (l : Launch) (dC : Nat → ClassId) (dI : Nat → Nat → Nat) {K : Nat} {M : CA} {E : (Nat → Prop) → State → Prop} (X : ly_X l dC dI K M E) (sz : Nat) {Y : CT} {G : CG} {S S' : CS} {r : Int32} (h : f_Dk_isOn K G S = some (r, S')) : Met l y_Dk_isOn (.code y_Dk_isOn cb_Dk_isOn 1 (some .boolean) :: V_Vq) ({ frames := 0, cells := 0, slots := 0, locals := 0 }) (va_Pc [.ref M.o_Dk] (fun U => U.heap.size = sz ∧ at_ (dC, dI) (fun _ => True) (wV M Y G S) (tV M) U ∧ E (va_A (wV M Y G S) sz) U)) (va_Qi (fun (r_ : Int32) (u : Unit) => r_ = r) (fun (u : Unit) t => at_ (dC, dI) (va_A (wV M Y G S) sz) (wV M Y G S') (tV M) t) (va_A (wV M Y G S) sz)) 0 0 (va_A (wV M Y G S) sz) := by
  refine Met.ofW (cc := cb_Dk_isOn) (maxL := 1) (ret := (some .boolean)) (by decide) rfl ?_
  intro p e s m args below meth c s₁ B hml hv
  obtain ⟨rfl, hsz, ⟨hP, hK, hD0⟩, hE⟩ := hv
  have hx := B.exec
  have hb := B.bytes
  have hr := B.returns
  have hts0 := atoms_spec (ws := .code y_Dk_isOn cb_Dk_isOn 1 (some .boolean) :: V_Vq) B.pre
  have hts : ∀ w ∈ V_Vq, w.before ([.ref M.o_Dk] : List Value).toArray s = true := fun w h => hts0 w (List.mem_cons_of_mem _ h)
  have hown : s.vm.findClass R_Dk = some m.cls := findClass_of_methodNamed B.named
  subst hsz
  have hD := hD0.self (sz := s.heap.size)
  generalize hAe : va_A (wV M Y G S) s.heap.size = A at hD hE ⊢
  have hA : ∀ q : Nat, s.heap.size ≤ q → A q := fun q h => by rw [← hAe]; exact Or.inr h
  have hS : va_S A s.heap s.heap [] := va_S.rf
  have hP : va_P (dC, dI) classes (wV M Y G S) s.heap := hP
  have hK : va_K (dC, dI) classes (tV M) s := hK
  have hEw : ∀ (H : Heap) (locs : List Loc), va_S A s.heap H locs → ∀ U : State, U.heap = H → s.WarmedH U.vm → E A U := fun H locs hS U hU hW => X.kept A s U H locs hE hS hU hW
  have hl := lv_entry ([.ref M.o_Dk]) (n := 1) (Nat.le_of_ble_eq_true rfl)
  rw [lg_entry_eq]
  generalize (lg_sl ([.ref M.o_Dk]) ++ List.replicate (1 - (lg_sl ([.ref M.o_Dk])).length) Slot.unset).toArray = ls at hl ⊢
  have hl : lv_has ls 1 [(0, .ref M.o_Dk)] := hl
  refine qabs (fun Q hQ => ?_)
  rw [f_Dk_isOn] at h
  refine lv_aload_n hx hb d_Dk_isOn_0 rfl (lv_at hl 0 rfl) ?_
  refine va_get (D := (dC, dI)) (ci := 0) (v := .int S.v_Dk_power) (C := R_Dk) (T := F_Dk) (N := 3) hx hb hts (fun w h => u_Vq_Dk w (i_Dk w h)) hown hK hP 1 rfl rfl 2 (by decide) (hts _ (u_Vq_Dk _ k_Dk_7)) (fun _ h9 => h9) rfl d_Dk_isOn_1 ?_
  refine lv_if_eq (tgt := 11) hx hb d_Dk_isOn_4 (by decide) (fun c_1 => ?_) (fun c_1 => ?_)
  · have h := lf_t h c_1
    refine lv_iconst (v := 0) hx hb d_Dk_isOn_11 (by decide) ?_
    rw [hQ]
    have e1 : (0 : Int32) = r := congrArg Prod.fst (Option.some.inj h)
    have e2 : S = S' := congrArg Prod.snd (Option.some.inj h)
    have hP := ly_newP e2.symm hP
    have hD := ly_newD e2.symm hD
    exact W.zret (v := 0) hx hb hr rfl (fun t ht hW => ⟨⟨0, (), rfl, e1, by rw [ht]; exact hP, va_K.moved hW.alike hK, hD⟩, hS.F ht⟩) hS.2.2 d_Dk_isOn_12
  · have h := lf_f h c_1
    refine lv_iconst (v := 1) hx hb d_Dk_isOn_7 (by decide) ?_
    refine lv_goto (tgt := 12) hx hb d_Dk_isOn_8 (by decide) ?_
    rw [hQ]
    have e1 : (1 : Int32) = r := congrArg Prod.fst (Option.some.inj h)
    have e2 : S = S' := congrArg Prod.snd (Option.some.inj h)
    have hP := ly_newP e2.symm hP
    have hD := ly_newD e2.symm hD
    exact W.zret (v := 1) hx hb hr rfl (fun t ht hW => ⟨⟨1, (), rfl, e1, by rw [ht]; exact hP, va_K.moved hW.alike hK, hD⟩, hS.F ht⟩) hS.2.2 d_Dk_isOn_12
set_option maxHeartbeats 4000000 in
set_option maxRecDepth 100000 in
theorem l_Tp_prepare (l : Launch) (dC : Nat → ClassId) (dI : Nat → Nat → Nat) {K : Nat} {M : CA} {E : (Nat → Prop) → State → Prop} (X : ly_X l dC dI K M E) (sz : Nat) {Y : CT} {G : CG} {S S' : CS} {p0 : Int32} {p1 : Int32} (h : f_Tp_prepare K G S p0 p1 = some S') : Met l y_Tp_prepare (.code y_Tp_prepare cb_Tp_prepare 4 none :: V_Vq) ({ frames := 0, cells := 0, slots := 0, locals := 0 }) (va_Pc [.ref M.o_Tp, .int p0, .int p1] (fun U => U.heap.size = sz ∧ at_ (dC, dI) (fun _ => True) (wV M Y G S) (tV M) U ∧ E (va_A (wV M Y G S) sz) U)) (va_Qv (fun (u : Unit) => True) (fun (u : Unit) t => at_ (dC, dI) (va_A (wV M Y G S) sz) (wV M Y G S') (tV M) t) (va_A (wV M Y G S) sz)) 0 0 (va_A (wV M Y G S) sz) := by
  refine Met.ofW (cc := cb_Tp_prepare) (maxL := 4) (ret := none) (by decide) rfl ?_
  intro p e s m args below meth c s₁ B hml hv
  obtain ⟨rfl, hsz, ⟨hP, hK, hD0⟩, hE⟩ := hv
  have hx := B.exec
  have hb := B.bytes
  have hr := B.returns
  have hts0 := atoms_spec (ws := .code y_Tp_prepare cb_Tp_prepare 4 none :: V_Vq) B.pre
  have hts : ∀ w ∈ V_Vq, w.before ([.ref M.o_Tp, .int p0, .int p1] : List Value).toArray s = true := fun w h => hts0 w (List.mem_cons_of_mem _ h)
  have hown : s.vm.findClass R_Tp = some m.cls := findClass_of_methodNamed B.named
  subst hsz
  have hD := hD0.self (sz := s.heap.size)
  generalize hAe : va_A (wV M Y G S) s.heap.size = A at hD hE ⊢
  have hA : ∀ q : Nat, s.heap.size ≤ q → A q := fun q h => by rw [← hAe]; exact Or.inr h
  have hS : va_S A s.heap s.heap [] := va_S.rf
  have hP : va_P (dC, dI) classes (wV M Y G S) s.heap := hP
  have hK : va_K (dC, dI) classes (tV M) s := hK
  have hEw : ∀ (H : Heap) (locs : List Loc), va_S A s.heap H locs → ∀ U : State, U.heap = H → s.WarmedH U.vm → E A U := fun H locs hS U hU hW => X.kept A s U H locs hE hS hU hW
  have hl := lv_entry ([.ref M.o_Tp, .int p0, .int p1]) (n := 4) (Nat.le_of_ble_eq_true rfl)
  rw [lg_entry_eq]
  generalize (lg_sl ([.ref M.o_Tp, .int p0, .int p1]) ++ List.replicate (4 - (lg_sl ([.ref M.o_Tp, .int p0, .int p1])).length) Slot.unset).toArray = ls at hl ⊢
  have hl : lv_has ls 4 [(0, .ref M.o_Tp), (1, .int p0), (2, .int p1)] := hl
  refine qabs (fun Q hQ => ?_)
  have hB_2 : ∀ (k : Nat), ∀ (y_1 : Int32) (y_2 : Int32) (y_3 : Int32) (S : CS) (H : Heap) (locs : List Loc) (ls : Array Slot), f_Tp_prepare_2 K G k y_1 y_2 y_3 S = some S' → va_P (dC, dI) classes (wV M Y G S) H → va_D A (wV M Y G S) → va_S A s.heap H locs → lv_has ls 4 [(0, .ref M.o_Tp), (1, .int y_1), (2, .int y_2), (3, .int y_3)] → W p l e ({ frames := 0, cells := 0, slots := 0, locals := 0 }) s m ([.ref M.o_Tp, .int p0, .int p1] : List Value).toArray below meth c H locs 0 0 Q (F0 m 2 ls []) := by
    intro k
    induction k with
    | zero => intro y_1 y_2 y_3 S H locs ls h; exact lf_no h
    | succ k hr_2 =>
      intro y_1 y_2 y_3 S H locs ls h hP hD hS hl
      rw [f_Tp_prepare_2] at h
      refine lv_iload_n hx hb d_Tp_prepare_2 rfl (lv_at hl 3 rfl) ?_
      refine lv_iconst (v := 4) hx hb d_Tp_prepare_3 (by decide) ?_
      refine lv_icmp_ge (tgt := 43) hx hb d_Tp_prepare_4 (by decide) (fun c_1 => ?_) (fun c_1 => ?_)
      · have h := lf_t h c_1
        rw [hQ]
        have e2 : S = S' := Option.some.inj h
        have hP := ly_newP e2.symm hP
        have hD := ly_newD e2.symm hD
        exact W.vret hx hb hr (fun t ht hW => ⟨⟨(), rfl, trivial, by rw [ht]; exact hP, va_K.moved hW.alike hK, hD⟩, hS.F ht⟩) hS.2.2 d_Tp_prepare_43
      · have h := lf_f h c_1
        refine lv_iload_n hx hb d_Tp_prepare_7 rfl (lv_at hl 1 rfl) ?_
        refine lv_if_lt (tgt := 43) hx hb d_Tp_prepare_8 (by decide) (fun c_2 => ?_) (fun c_2 => ?_)
        · have h := lf_t h c_2
          rw [hQ]
          have e2 : S = S' := Option.some.inj h
          have hP := ly_newP e2.symm hP
          have hD := ly_newD e2.symm hD
          exact W.vret hx hb hr (fun t ht hW => ⟨⟨(), rfl, trivial, by rw [ht]; exact hP, va_K.moved hW.alike hK, hD⟩, hS.F ht⟩) hS.2.2 d_Tp_prepare_43
        · have h := lf_f h c_2
          refine lv_iload_n hx hb d_Tp_prepare_11 rfl (lv_at hl 1 rfl) ?_
          refine lv_iload_n hx hb d_Tp_prepare_12 rfl (lv_at hl 3 rfl) ?_
          refine lv_iadd hx hb d_Tp_prepare_13 ?_
          refine lv_bipush (v := 20) hx hb d_Tp_prepare_14 (by decide) ?_
          refine lv_icmp_ge (tgt := 43) hx hb d_Tp_prepare_16 (by decide) (fun c_3 => ?_) (fun c_3 => ?_)
          · have h := lf_t h c_3
            rw [hQ]
            have e2 : S = S' := Option.some.inj h
            have hP := ly_newP e2.symm hP
            have hD := ly_newD e2.symm hD
            exact W.vret hx hb hr (fun t ht hW => ⟨⟨(), rfl, trivial, by rw [ht]; exact hP, va_K.moved hW.alike hK, hD⟩, hS.F ht⟩) hS.2.2 d_Tp_prepare_43
          · have h := lf_f h c_3
            refine lv_aload_n hx hb d_Tp_prepare_19 rfl (lv_at hl 0 rfl) ?_
            refine va_get (D := (dC, dI)) (ci := 3) (v := .ref M.a_Tp_ready) (C := R_Tp) (T := F_Tp) (N := 3) hx hb hts (fun w h => u_Vq_Tp w (i_Tp w h)) hown hK hP 2 rfl rfl 1 (by decide) (hts _ (u_Vq_Tp _ k_Tp_6)) (fun _ h9 => h9) rfl d_Tp_prepare_20 ?_
            refine lv_iload_n hx hb d_Tp_prepare_23 rfl (lv_at hl 1 rfl) ?_
            refine lv_iload_n hx hb d_Tp_prepare_24 rfl (lv_at hl 3 rfl) ?_
            refine lv_iadd hx hb d_Tp_prepare_25 ?_
            refine lv_iload_n hx hb d_Tp_prepare_26 rfl (lv_at hl 2 rfl) ?_
            refine lv_bipush (v := 24) hx hb d_Tp_prepare_27 (by decide) ?_
            refine lv_bipush (v := 8) hx hb d_Tp_prepare_29 (by decide) ?_
            refine lv_iload_n hx hb d_Tp_prepare_31 rfl (lv_at hl 3 rfl) ?_
            refine lv_imul hx hb d_Tp_prepare_32 ?_
            refine lv_isub hx hb d_Tp_prepare_33 ?_
            refine lv_ishr hx hb d_Tp_prepare_34 ?_
            refine lv_i2b hx hb d_Tp_prepare_35 rfl ?_
            obtain ⟨g_4, h⟩ := lf_gE h
            refine va_bast hx hb hK hP hD hS 14 0 rfl rfl g_4 d_Tp_prepare_36 (fun H locs hP hD hS => ?_)
            obtain ⟨S_5, eS_5, h⟩ := lf_lX h
            have hP := ly_newP eS_5 hP
            have hD := ly_newD eS_5 hD
            obtain ⟨x_6, ex_6, h⟩ := lf_lX h
            refine lv_iinc (v := x_6) (lv' := [(3, .int x_6), (0, .ref M.o_Tp), (1, .int y_1), (2, .int y_2)]) hx hb d_Tp_prepare_37 hl (k := 3) rfl (by rw [ex_6]; rfl) (by decide) rfl (fun ls hl => ?_)
            refine lv_goto (tgt := 2) hx hb d_Tp_prepare_40 (by decide) ?_
            exact hr_2 y_1 y_2 x_6 S_5 _ _ _ h hP hD hS (lv_sub hl [1, 2, 3, 0] rfl)
  rw [f_Tp_prepare] at h
  refine lv_iconst (v := 0) hx hb d_Tp_prepare_0 (by decide) ?_
  refine lv_istore_n (lv' := [(3, .int 0), (0, .ref M.o_Tp), (1, .int p0), (2, .int p1)]) hx hb d_Tp_prepare_1 rfl hl (by decide) rfl (fun ls hl => ?_)
  exact hB_2 K p0 p1 0 S _ _ _ h hP hD hS (lv_sub hl [1, 2, 3, 0] rfl)
set_option maxHeartbeats 4000000 in
set_option maxRecDepth 100000 in
theorem l_Tp_append (l : Launch) (dC : Nat → ClassId) (dI : Nat → Nat → Nat) {K : Nat} {M : CA} {E : (Nat → Prop) → State → Prop} (X : ly_X l dC dI K M E) (sz : Nat) {Y : CT} {G : CG} {S S' : CS} {p0 : Int32} {r : Int32} (h : f_Tp_append K G S p0 = some (r, S')) : Met l y_Tp_append (.code y_Tp_append cb_Tp_append 2 (some .int) :: V_Vq) ({ frames := 1, cells := 0, slots := 0, locals := 60 }) (va_Pc [.ref M.o_Tp, .int p0] (fun U => U.heap.size = sz ∧ at_ (dC, dI) (fun _ => True) (wV M Y G S) (tV M) U ∧ E (va_A (wV M Y G S) sz) U)) (va_Qi (fun (r_ : Int32) (u : Unit) => r_ = r) (fun (u : Unit) t => at_ (dC, dI) (va_A (wV M Y G S) sz) (wV M Y G S') (tV M) t) (va_A (wV M Y G S) sz)) 0 0 (va_A (wV M Y G S) sz) := by
  refine Met.ofW (cc := cb_Tp_append) (maxL := 2) (ret := (some .int)) (by decide) rfl ?_
  intro p e s m args below meth c s₁ B hml hv
  obtain ⟨rfl, hsz, ⟨hP, hK, hD0⟩, hE⟩ := hv
  have hx := B.exec
  have hb := B.bytes
  have hr := B.returns
  have hts0 := atoms_spec (ws := .code y_Tp_append cb_Tp_append 2 (some .int) :: V_Vq) B.pre
  have hts : ∀ w ∈ V_Vq, w.before ([.ref M.o_Tp, .int p0] : List Value).toArray s = true := fun w h => hts0 w (List.mem_cons_of_mem _ h)
  have hown : s.vm.findClass R_Tp = some m.cls := findClass_of_methodNamed B.named
  subst hsz
  have hD := hD0.self (sz := s.heap.size)
  generalize hAe : va_A (wV M Y G S) s.heap.size = A at hD hE ⊢
  have hA : ∀ q : Nat, s.heap.size ≤ q → A q := fun q h => by rw [← hAe]; exact Or.inr h
  have hS : va_S A s.heap s.heap [] := va_S.rf
  have hP : va_P (dC, dI) classes (wV M Y G S) s.heap := hP
  have hK : va_K (dC, dI) classes (tV M) s := hK
  have hEw : ∀ (H : Heap) (locs : List Loc), va_S A s.heap H locs → ∀ U : State, U.heap = H → s.WarmedH U.vm → E A U := fun H locs hS U hU hW => X.kept A s U H locs hE hS hU hW
  have hl := lv_entry ([.ref M.o_Tp, .int p0]) (n := 2) (Nat.le_of_ble_eq_true rfl)
  rw [lg_entry_eq]
  generalize (lg_sl ([.ref M.o_Tp, .int p0]) ++ List.replicate (2 - (lg_sl ([.ref M.o_Tp, .int p0])).length) Slot.unset).toArray = ls at hl ⊢
  have hl : lv_has ls 2 [(0, .ref M.o_Tp), (1, .int p0)] := hl
  refine qabs (fun Q hQ => ?_)
  have hB_22 : ∀ (S : CS) (H : Heap) (locs : List Loc) (ls : Array Slot), f_Tp_append_22 K G S = some (r, S') → va_P (dC, dI) classes (wV M Y G S) H → va_D A (wV M Y G S) → va_S A s.heap H locs → lv_has ls 2 [] → W p l e ({ frames := 1, cells := 0, slots := 0, locals := 60 }) s m ([.ref M.o_Tp, .int p0] : List Value).toArray below meth c H locs 0 0 Q (F0 m 22 ls []) := by
    intro S H locs ls h hP hD hS hl
    rw [f_Tp_append_22] at h
    refine lv_iconst (v := (-1)) hx hb d_Tp_append_22 (by decide) ?_
    rw [hQ]
    have e1 : ((-1)) = r := congrArg Prod.fst (Option.some.inj h)
    have e2 : S = S' := congrArg Prod.snd (Option.some.inj h)
    have hP := ly_newP e2.symm hP
    have hD := ly_newD e2.symm hD
    exact W.iret (v := ((-1))) hx hb hr (fun t ht hW => ⟨⟨((-1)), (), rfl, e1, by rw [ht]; exact hP, va_K.moved hW.alike hK, hD⟩, hS.F ht⟩) hS.2.2 d_Tp_append_23
  rw [f_Tp_append] at h
  refine lv_iload_n hx hb d_Tp_append_0 rfl (lv_at hl 1 rfl) ?_
  refine lv_if_lt (tgt := 22) hx hb d_Tp_append_1 (by decide) (fun c_1 => ?_) (fun c_1 => ?_)
  · have h := lf_t h c_1
    exact hB_22 S _ _ _ h hP hD hS (lv_sub hl [] rfl)
  · have h := lf_f h c_1
    refine lv_iload_n hx hb d_Tp_append_4 rfl (lv_at hl 1 rfl) ?_
    refine lv_bipush (v := 20) hx hb d_Tp_append_5 (by decide) ?_
    refine lv_icmp_gt (tgt := 22) hx hb d_Tp_append_7 (by decide) (fun c_2 => ?_) (fun c_2 => ?_)
    · have h := lf_t h c_2
      exact hB_22 S _ _ _ h hP hD hS (lv_sub hl [] rfl)
    · have h := lf_f h c_2
      refine lv_aload_n hx hb d_Tp_append_10 rfl (lv_at hl 0 rfl) ?_
      refine va_get (D := (dC, dI)) (ci := 3) (v := .int S.v_Tp_used) (C := R_Tp) (T := F_Tp) (N := 3) hx hb hts (fun w h => u_Vq_Tp w (i_Tp w h)) hown hK hP 2 rfl rfl 2 (by decide) (hts _ (u_Vq_Tp _ k_Tp_7)) (fun _ h9 => h9) rfl d_Tp_append_11 ?_
      refine lv_iload_n hx hb d_Tp_append_14 rfl (lv_at hl 1 rfl) ?_
      refine lv_iadd hx hb d_Tp_append_15 ?_
      refine lv_sipush (v := 4096) hx hb d_Tp_append_16 (by decide) ?_
      refine lv_icmp_le (tgt := 24) hx hb d_Tp_append_19 (by decide) (fun c_3 => ?_) (fun c_3 => ?_)
      · have h := lf_t h c_3
        refine lv_aload_n hx hb d_Tp_append_24 rfl (lv_at hl 0 rfl) ?_
        refine va_get (D := (dC, dI)) (ci := 3) (v := .ref M.a_Tp_ready) (C := R_Tp) (T := F_Tp) (N := 3) hx hb hts (fun w h => u_Vq_Tp w (i_Tp w h)) hown hK hP 2 rfl rfl 1 (by decide) (hts _ (u_Vq_Tp _ k_Tp_6)) (fun _ h9 => h9) rfl d_Tp_append_25 ?_
        refine lv_iconst (v := 0) hx hb d_Tp_append_28 (by decide) ?_
        refine lv_aload_n hx hb d_Tp_append_29 rfl (lv_at hl 0 rfl) ?_
        refine va_get (D := (dC, dI)) (ci := 3) (v := .ref M.a_Tp_bytes) (C := R_Tp) (T := F_Tp) (N := 3) hx hb hts (fun w h => u_Vq_Tp w (i_Tp w h)) hown hK hP 2 rfl rfl 0 (by decide) (hts _ (u_Vq_Tp _ k_Tp_5)) (fun _ h9 => h9) rfl d_Tp_append_30 ?_
        refine lv_aload_n hx hb d_Tp_append_33 rfl (lv_at hl 0 rfl) ?_
        refine va_get (D := (dC, dI)) (ci := 3) (v := .int S.v_Tp_used) (C := R_Tp) (T := F_Tp) (N := 3) hx hb hts (fun w h => u_Vq_Tp w (i_Tp w h)) hown hK hP 2 rfl rfl 2 (by decide) (hts _ (u_Vq_Tp _ k_Tp_7)) (fun _ h9 => h9) rfl d_Tp_append_34 ?_
        refine lv_iload_n hx hb d_Tp_append_37 rfl (lv_at hl 1 rfl) ?_
        obtain ⟨g_4, h⟩ := lf_gE h
        refine va_copyi (ty := .byte) hx hb (by rw [hml]; exact hl.1.symm) hown (hts _ (u_Vq_Tp _ k_Tp_14)) (hts _ (u_Vq_J _ k_J_13)) (hts _ (u_Vq_J _ k_J_12)) (hts _ (u_Vq_J _ k_J_1)) hK hP hD hS 14 13 0 0 rfl rfl rfl rfl rfl g_4.1 g_4.2.1 g_4.2.2.1 g_4.2.2.2.1 g_4.2.2.2.2.1 g_4.2.2.2.2.2 (Nat.le_of_ble_eq_true rfl) (Nat.le_of_ble_eq_true rfl) d_Tp_append_38 (fun H locs hP hD hS => ?_)
        obtain ⟨S_5, eS_5, h⟩ := lf_lX h
        have hP := ly_newP eS_5 hP
        have hD := ly_newD eS_5 hD
        refine lv_aload_n hx hb d_Tp_append_41 rfl (lv_at hl 0 rfl) ?_
        refine va_get (D := (dC, dI)) (ci := 3) (v := .ref M.a_Tp_ready) (C := R_Tp) (T := F_Tp) (N := 3) hx hb hts (fun w h => u_Vq_Tp w (i_Tp w h)) hown hK hP 2 rfl rfl 1 (by decide) (hts _ (u_Vq_Tp _ k_Tp_6)) (fun _ h9 => h9) rfl d_Tp_append_42 ?_
        refine lv_iconst (v := 0) hx hb d_Tp_append_45 (by decide) ?_
        have hPc := hP.sub (ws' := [(M.a_Tp_ready, .inl (M.kB, 20, .inl S_5.w_Tp_ready))]) [14] rfl
        have hDc := hD.sub (ws' := [(M.a_Tp_ready, .inl (M.kB, 20, .inl S_5.w_Tp_ready))]) [14] (by decide) rfl
        have hKc := hK.sub (tys' := [(M.kB, .byte)]) [0] rfl
        have hFc := va_free (wc := [(M.a_Tp_ready, .inl (M.kB, 20, .inl S_5.w_Tp_ready))]) hD hS hA [14] rfl
        refine va_callv (va_runS (As := [.ref M.a_Tp_ready, .int 0]) (rest := []) ⟨hx, hb, hml, hown, hts⟩ (c_Ar_fillB l dC dI M.a_Tp_ready _ M.kB 20 S_5.w_Tp_ready (by decide) 0) (va_cwS 2 hts (gwS good_Vq (u_Vq_Tp _ k_Tp_15) (u_Vq_J _ k_J_14) (u_Vq_J _ k_J_2) (wcs (u_Vq_J _ k_J_15) u_Vq_J)) rfl rfl rfl (by decide +kernel) ⟨Nat.le_of_ble_eq_true rfl, Nat.le_of_ble_eq_true rfl⟩) (ps_of hPc hKc hDc) rfl rfl hl.1 rfl (lv_room (Nat.le_of_ble_eq_true rfl)) d_Tp_append_46 ⟨by decide, by decide⟩) hS (fun q _ h => hFc q h) hFc (fun u t H locs ht hvm hw hB hz1 hk1 hS => ?_)
        obtain ⟨hP1, -, -⟩ := hB
        rw [ht, hw] at hP1
        obtain ⟨hP, hD⟩ := lx_one hP hD (q := 14) rfl hk1 hP1
        obtain ⟨S_6, eS_6, h⟩ := lf_lX h
        have hP := ly_newP eS_6 hP
        have hD := ly_newD eS_6 hD
        refine lv_aload_n hx hb d_Tp_append_49 rfl (lv_at hl 0 rfl) ?_
        refine lv_dup hx hb d_Tp_append_50 rfl ?_
        refine va_get (D := (dC, dI)) (ci := 3) (v := .int S_6.v_Tp_used) (C := R_Tp) (T := F_Tp) (N := 3) hx hb hts (fun w h => u_Vq_Tp w (i_Tp w h)) hown hK hP 2 rfl rfl 2 (by decide) (hts _ (u_Vq_Tp _ k_Tp_7)) (fun _ h9 => h9) rfl d_Tp_append_51 ?_
        refine lv_iload_n hx hb d_Tp_append_54 rfl (lv_at hl 1 rfl) ?_
        refine lv_iadd hx hb d_Tp_append_55 ?_
        refine va_put (D := (dC, dI)) (ci := 3) (v := .int (S_6.v_Tp_used + p0)) (ty := .int) (C := R_Tp) (T := F_Tp) (N := 3) hx hb hts (fun w h => u_Vq_Tp w (i_Tp w h)) t_Tp t_Tp_ok n_Tp hown hK hP hD hS 2 rfl rfl 2 (by decide) (hts _ (u_Vq_Tp _ k_Tp_7)) (fun _ h9 => h9) rfl (by decide +kernel) rfl rfl (Nat.le_of_ble_eq_true rfl) d_Tp_append_56 (fun H locs hP hD hS => ?_)
        obtain ⟨S_7, eS_7, h⟩ := lf_lX h
        have hP := ly_newP eS_7 hP
        have hD := ly_newD eS_7 hD
        refine lv_aload_n hx hb d_Tp_append_59 rfl (lv_at hl 0 rfl) ?_
        refine va_get (D := (dC, dI)) (ci := 3) (v := .int S_7.v_Tp_used) (C := R_Tp) (T := F_Tp) (N := 3) hx hb hts (fun w h => u_Vq_Tp w (i_Tp w h)) hown hK hP 2 rfl rfl 2 (by decide) (hts _ (u_Vq_Tp _ k_Tp_7)) (fun _ h9 => h9) rfl d_Tp_append_60 ?_
        rw [hQ]
        have e1 : S_7.v_Tp_used = r := congrArg Prod.fst (Option.some.inj h)
        have e2 : S_7 = S' := congrArg Prod.snd (Option.some.inj h)
        have hP := ly_newP e2.symm hP
        have hD := ly_newD e2.symm hD
        exact W.iret (v := S_7.v_Tp_used) hx hb hr (fun t ht hW => ⟨⟨S_7.v_Tp_used, (), rfl, e1, by rw [ht]; exact hP, va_K.moved hW.alike hK, hD⟩, hS.F ht⟩) hS.2.2 d_Tp_append_63
      · have h := lf_f h c_3
        exact hB_22 S _ _ _ h hP hD hS (lv_sub hl [] rfl)
set_option maxHeartbeats 4000000 in
set_option maxRecDepth 100000 in
theorem l_Tp_useUp (l : Launch) (dC : Nat → ClassId) (dI : Nat → Nat → Nat) {K : Nat} {M : CA} {E : (Nat → Prop) → State → Prop} (X : ly_X l dC dI K M E) (sz : Nat) {Y : CT} {G : CG} {S S' : CS} {r : Int32} (h : f_Tp_useUp K G S = some (r, S')) : Met l y_Tp_useUp (.code y_Tp_useUp cb_Tp_useUp 2 (some .int) :: V_Vq) ({ frames := 0, cells := 0, slots := 0, locals := 0 }) (va_Pc [.ref M.o_Tp] (fun U => U.heap.size = sz ∧ at_ (dC, dI) (fun _ => True) (wV M Y G S) (tV M) U ∧ E (va_A (wV M Y G S) sz) U)) (va_Qi (fun (r_ : Int32) (u : Unit) => r_ = r) (fun (u : Unit) t => at_ (dC, dI) (va_A (wV M Y G S) sz) (wV M Y G S') (tV M) t) (va_A (wV M Y G S) sz)) 0 0 (va_A (wV M Y G S) sz) := by
  refine Met.ofW (cc := cb_Tp_useUp) (maxL := 2) (ret := (some .int)) (by decide) rfl ?_
  intro p e s m args below meth c s₁ B hml hv
  obtain ⟨rfl, hsz, ⟨hP, hK, hD0⟩, hE⟩ := hv
  have hx := B.exec
  have hb := B.bytes
  have hr := B.returns
  have hts0 := atoms_spec (ws := .code y_Tp_useUp cb_Tp_useUp 2 (some .int) :: V_Vq) B.pre
  have hts : ∀ w ∈ V_Vq, w.before ([.ref M.o_Tp] : List Value).toArray s = true := fun w h => hts0 w (List.mem_cons_of_mem _ h)
  have hown : s.vm.findClass R_Tp = some m.cls := findClass_of_methodNamed B.named
  subst hsz
  have hD := hD0.self (sz := s.heap.size)
  generalize hAe : va_A (wV M Y G S) s.heap.size = A at hD hE ⊢
  have hA : ∀ q : Nat, s.heap.size ≤ q → A q := fun q h => by rw [← hAe]; exact Or.inr h
  have hS : va_S A s.heap s.heap [] := va_S.rf
  have hP : va_P (dC, dI) classes (wV M Y G S) s.heap := hP
  have hK : va_K (dC, dI) classes (tV M) s := hK
  have hEw : ∀ (H : Heap) (locs : List Loc), va_S A s.heap H locs → ∀ U : State, U.heap = H → s.WarmedH U.vm → E A U := fun H locs hS U hU hW => X.kept A s U H locs hE hS hU hW
  have hl := lv_entry ([.ref M.o_Tp]) (n := 2) (Nat.le_of_ble_eq_true rfl)
  rw [lg_entry_eq]
  generalize (lg_sl ([.ref M.o_Tp]) ++ List.replicate (2 - (lg_sl ([.ref M.o_Tp])).length) Slot.unset).toArray = ls at hl ⊢
  have hl : lv_has ls 2 [(0, .ref M.o_Tp)] := hl
  refine qabs (fun Q hQ => ?_)
  rw [f_Tp_useUp] at h
  refine lv_aload_n hx hb d_Tp_useUp_0 rfl (lv_at hl 0 rfl) ?_
  refine va_get (D := (dC, dI)) (ci := 3) (v := .int S.v_Tp_used) (C := R_Tp) (T := F_Tp) (N := 3) hx hb hts (fun w h => u_Vq_Tp w (i_Tp w h)) hown hK hP 2 rfl rfl 2 (by decide) (hts _ (u_Vq_Tp _ k_Tp_7)) (fun _ h9 => h9) rfl d_Tp_useUp_1 ?_
  refine lv_topi (fun x_1 ex_1 => ?_)
  have h := lf_lE h ex_1
  refine lv_istore_n (lv' := [(1, .int x_1), (0, .ref M.o_Tp)]) hx hb d_Tp_useUp_4 rfl hl (by decide) rfl (fun ls hl => ?_)
  refine lv_aload_n hx hb d_Tp_useUp_5 rfl (lv_at hl 1 rfl) ?_
  refine lv_iconst (v := 0) hx hb d_Tp_useUp_6 (by decide) ?_
  refine va_put (D := (dC, dI)) (ci := 3) (v := .int 0) (ty := .int) (C := R_Tp) (T := F_Tp) (N := 3) hx hb hts (fun w h => u_Vq_Tp w (i_Tp w h)) t_Tp t_Tp_ok n_Tp hown hK hP hD hS 2 rfl rfl 2 (by decide) (hts _ (u_Vq_Tp _ k_Tp_7)) (fun _ h9 => h9) rfl (by decide +kernel) rfl rfl (Nat.le_of_ble_eq_true rfl) d_Tp_useUp_7 (fun H locs hP hD hS => ?_)
  obtain ⟨S_2, eS_2, h⟩ := lf_lX h
  have hP := ly_newP eS_2 hP
  have hD := ly_newD eS_2 hD
  refine lv_iload_n hx hb d_Tp_useUp_10 rfl (lv_at hl 0 rfl) ?_
  rw [hQ]
  have e1 : x_1 = r := congrArg Prod.fst (Option.some.inj h)
  have e2 : S_2 = S' := congrArg Prod.snd (Option.some.inj h)
  have hP := ly_newP e2.symm hP
  have hD := ly_newD e2.symm hD
  exact W.iret (v := x_1) hx hb hr (fun t ht hW => ⟨⟨x_1, (), rfl, e1, by rw [ht]; exact hP, va_K.moved hW.alike hK, hD⟩, hS.F ht⟩) hS.2.2 d_Tp_useUp_11
set_option maxHeartbeats 4000000 in
set_option maxRecDepth 100000 in
theorem l_Tp_one (l : Launch) (dC : Nat → ClassId) (dI : Nat → Nat → Nat) {K : Nat} {M : CA} {E : (Nat → Prop) → State → Prop} (X : ly_X l dC dI K M E) (sz : Nat) {Y : CT} {G : CG} {S S' : CS} {p0 : Int32} {r : Int32} (h : f_Tp_one K G S p0 = some (r, S')) : Met l y_Tp_one (.code y_Tp_one cb_Tp_one 2 (some .int) :: V_Vq) ({ frames := 0, cells := 0, slots := 0, locals := 0 }) (va_Pc [.ref M.o_Tp, .int p0] (fun U => U.heap.size = sz ∧ at_ (dC, dI) (fun _ => True) (wV M Y G S) (tV M) U ∧ E (va_A (wV M Y G S) sz) U)) (va_Qi (fun (r_ : Int32) (u : Unit) => r_ = r) (fun (u : Unit) t => at_ (dC, dI) (va_A (wV M Y G S) sz) (wV M Y G S') (tV M) t) (va_A (wV M Y G S) sz)) 0 0 (va_A (wV M Y G S) sz) := by
  refine Met.ofW (cc := cb_Tp_one) (maxL := 2) (ret := (some .int)) (by decide) rfl ?_
  intro p e s m args below meth c s₁ B hml hv
  obtain ⟨rfl, hsz, ⟨hP, hK, hD0⟩, hE⟩ := hv
  have hx := B.exec
  have hb := B.bytes
  have hr := B.returns
  have hts0 := atoms_spec (ws := .code y_Tp_one cb_Tp_one 2 (some .int) :: V_Vq) B.pre
  have hts : ∀ w ∈ V_Vq, w.before ([.ref M.o_Tp, .int p0] : List Value).toArray s = true := fun w h => hts0 w (List.mem_cons_of_mem _ h)
  have hown : s.vm.findClass R_Tp = some m.cls := findClass_of_methodNamed B.named
  subst hsz
  have hD := hD0.self (sz := s.heap.size)
  generalize hAe : va_A (wV M Y G S) s.heap.size = A at hD hE ⊢
  have hA : ∀ q : Nat, s.heap.size ≤ q → A q := fun q h => by rw [← hAe]; exact Or.inr h
  have hS : va_S A s.heap s.heap [] := va_S.rf
  have hP : va_P (dC, dI) classes (wV M Y G S) s.heap := hP
  have hK : va_K (dC, dI) classes (tV M) s := hK
  have hEw : ∀ (H : Heap) (locs : List Loc), va_S A s.heap H locs → ∀ U : State, U.heap = H → s.WarmedH U.vm → E A U := fun H locs hS U hU hW => X.kept A s U H locs hE hS hU hW
  have hl := lv_entry ([.ref M.o_Tp, .int p0]) (n := 2) (Nat.le_of_ble_eq_true rfl)
  rw [lg_entry_eq]
  generalize (lg_sl ([.ref M.o_Tp, .int p0]) ++ List.replicate (2 - (lg_sl ([.ref M.o_Tp, .int p0])).length) Slot.unset).toArray = ls at hl ⊢
  have hl : lv_has ls 2 [(0, .ref M.o_Tp), (1, .int p0)] := hl
  refine qabs (fun Q hQ => ?_)
  have hB_24 : ∀ (S : CS) (H : Heap) (locs : List Loc) (ls : Array Slot), f_Tp_one_24 K G S = some (r, S') → va_P (dC, dI) classes (wV M Y G S) H → va_D A (wV M Y G S) → va_S A s.heap H locs → lv_has ls 2 [] → W p l e ({ frames := 0, cells := 0, slots := 0, locals := 0 }) s m ([.ref M.o_Tp, .int p0] : List Value).toArray below meth c H locs 0 0 Q (F0 m 24 ls []) := by
    intro S H locs ls h hP hD hS hl
    rw [f_Tp_one_24] at h
    refine lv_iconst (v := 0) hx hb d_Tp_one_24 (by decide) ?_
    rw [hQ]
    have e1 : (0 : Int32) = r := congrArg Prod.fst (Option.some.inj h)
    have e2 : S = S' := congrArg Prod.snd (Option.some.inj h)
    have hP := ly_newP e2.symm hP
    have hD := ly_newD e2.symm hD
    exact W.iret (v := 0) hx hb hr (fun t ht hW => ⟨⟨0, (), rfl, e1, by rw [ht]; exact hP, va_K.moved hW.alike hK, hD⟩, hS.F ht⟩) hS.2.2 d_Tp_one_25
  rw [f_Tp_one] at h
  refine lv_iload_n hx hb d_Tp_one_0 rfl (lv_at hl 1 rfl) ?_
  refine lv_if_lt (tgt := 24) hx hb d_Tp_one_1 (by decide) (fun c_1 => ?_) (fun c_1 => ?_)
  · have h := lf_t h c_1
    exact hB_24 S _ _ _ h hP hD hS (lv_sub hl [] rfl)
  · have h := lf_f h c_1
    refine lv_iload_n hx hb d_Tp_one_4 rfl (lv_at hl 1 rfl) ?_
    refine lv_sipush (v := 4096) hx hb d_Tp_one_5 (by decide) ?_
    refine lv_icmp_ge (tgt := 24) hx hb d_Tp_one_8 (by decide) (fun c_2 => ?_) (fun c_2 => ?_)
    · have h := lf_t h c_2
      exact hB_24 S _ _ _ h hP hD hS (lv_sub hl [] rfl)
    · have h := lf_f h c_2
      refine lv_aload_n hx hb d_Tp_one_11 rfl (lv_at hl 0 rfl) ?_
      refine va_get (D := (dC, dI)) (ci := 3) (v := .ref M.a_Tp_bytes) (C := R_Tp) (T := F_Tp) (N := 3) hx hb hts (fun w h => u_Vq_Tp w (i_Tp w h)) hown hK hP 2 rfl rfl 0 (by decide) (hts _ (u_Vq_Tp _ k_Tp_5)) (fun _ h9 => h9) rfl d_Tp_one_12 ?_
      refine lv_iload_n hx hb d_Tp_one_15 rfl (lv_at hl 1 rfl) ?_
      obtain ⟨g_3, h⟩ := lf_gE h
      refine va_bald hx hb hK hP 13 0 rfl rfl g_3 d_Tp_one_16 ?_
      refine lv_sipush (v := 255) hx hb d_Tp_one_17 (by decide) ?_
      refine lv_iand hx hb d_Tp_one_20 ?_
      refine lv_goto (tgt := 25) hx hb d_Tp_one_21 (by decide) ?_
      rw [hQ]
      have e1 : ((S.w_Tp_bytes p0.toNatClampNeg) &&& 255) = r := congrArg Prod.fst (Option.some.inj h)
      have e2 : S = S' := congrArg Prod.snd (Option.some.inj h)
      have hP := ly_newP e2.symm hP
      have hD := ly_newD e2.symm hD
      exact W.iret (v := ((S.w_Tp_bytes p0.toNatClampNeg) &&& 255)) hx hb hr (fun t ht hW => ⟨⟨((S.w_Tp_bytes p0.toNatClampNeg) &&& 255), (), rfl, e1, by rw [ht]; exact hP, va_K.moved hW.alike hK, hD⟩, hS.F ht⟩) hS.2.2 d_Tp_one_25
set_option maxHeartbeats 4000000 in
set_option maxRecDepth 100000 in
theorem l_Tp_isLabel (l : Launch) (dC : Nat → ClassId) (dI : Nat → Nat → Nat) {K : Nat} {M : CA} {E : (Nat → Prop) → State → Prop} (X : ly_X l dC dI K M E) (sz : Nat) {Y : CT} {G : CG} {S S' : CS} {p0 : Int32} {r : Int32} (h : f_Tp_isLabel K G S p0 = some (r, S')) : Met l y_Tp_isLabel (.code y_Tp_isLabel cb_Tp_isLabel 3 (some .boolean) :: V_Vq) ({ frames := 1, cells := 0, slots := 0, locals := 21 }) (va_Pc [.ref M.o_Tp, .int p0] (fun U => U.heap.size = sz ∧ at_ (dC, dI) (fun _ => True) (wV M Y G S) (tV M) U ∧ E (va_A (wV M Y G S) sz) U)) (va_Qi (fun (r_ : Int32) (u : Unit) => r_ = r) (fun (u : Unit) t => at_ (dC, dI) (va_A (wV M Y G S) sz) (wV M Y G S') (tV M) t) (va_A (wV M Y G S) sz)) 0 0 (va_A (wV M Y G S) sz) := by
  refine Met.ofW (cc := cb_Tp_isLabel) (maxL := 3) (ret := (some .boolean)) (by decide) rfl ?_
  intro p e s m args below meth c s₁ B hml hv
  obtain ⟨rfl, hsz, ⟨hP, hK, hD0⟩, hE⟩ := hv
  have hx := B.exec
  have hb := B.bytes
  have hr := B.returns
  have hts0 := atoms_spec (ws := .code y_Tp_isLabel cb_Tp_isLabel 3 (some .boolean) :: V_Vq) B.pre
  have hts : ∀ w ∈ V_Vq, w.before ([.ref M.o_Tp, .int p0] : List Value).toArray s = true := fun w h => hts0 w (List.mem_cons_of_mem _ h)
  have hown : s.vm.findClass R_Tp = some m.cls := findClass_of_methodNamed B.named
  subst hsz
  have hD := hD0.self (sz := s.heap.size)
  generalize hAe : va_A (wV M Y G S) s.heap.size = A at hD hE ⊢
  have hA : ∀ q : Nat, s.heap.size ≤ q → A q := fun q h => by rw [← hAe]; exact Or.inr h
  have hS : va_S A s.heap s.heap [] := va_S.rf
  have hP : va_P (dC, dI) classes (wV M Y G S) s.heap := hP
  have hK : va_K (dC, dI) classes (tV M) s := hK
  have hEw : ∀ (H : Heap) (locs : List Loc), va_S A s.heap H locs → ∀ U : State, U.heap = H → s.WarmedH U.vm → E A U := fun H locs hS U hU hW => X.kept A s U H locs hE hS hU hW
  have hl := lv_entry ([.ref M.o_Tp, .int p0]) (n := 3) (Nat.le_of_ble_eq_true rfl)
  rw [lg_entry_eq]
  generalize (lg_sl ([.ref M.o_Tp, .int p0]) ++ List.replicate (3 - (lg_sl ([.ref M.o_Tp, .int p0])).length) Slot.unset).toArray = ls at hl ⊢
  have hl : lv_has ls 3 [(0, .ref M.o_Tp), (1, .int p0)] := hl
  refine qabs (fun Q hQ => ?_)
  have hB_20 : ∀ (S : CS) (H : Heap) (locs : List Loc) (ls : Array Slot), f_Tp_isLabel_20 K G S = some (r, S') → va_P (dC, dI) classes (wV M Y G S) H → va_D A (wV M Y G S) → va_S A s.heap H locs → lv_has ls 3 [] → W p l e ({ frames := 1, cells := 0, slots := 0, locals := 21 }) s m ([.ref M.o_Tp, .int p0] : List Value).toArray below meth c H locs 0 0 Q (F0 m 20 ls []) := by
    intro S H locs ls h hP hD hS hl
    rw [f_Tp_isLabel_20] at h
    refine lv_iconst (v := 0) hx hb d_Tp_isLabel_20 (by decide) ?_
    rw [hQ]
    have e1 : (0 : Int32) = r := congrArg Prod.fst (Option.some.inj h)
    have e2 : S = S' := congrArg Prod.snd (Option.some.inj h)
    have hP := ly_newP e2.symm hP
    have hD := ly_newD e2.symm hD
    exact W.zret (v := 0) hx hb hr rfl (fun t ht hW => ⟨⟨0, (), rfl, e1, by rw [ht]; exact hP, va_K.moved hW.alike hK, hD⟩, hS.F ht⟩) hS.2.2 d_Tp_isLabel_21
  have hB_52 : ∀ (rec_24 : Int32 → Int32 → CS → Option (Int32 × CS)) (hr_24 : ∀ (y_1 : Int32) (y_2 : Int32) (S : CS) (H : Heap) (locs : List Loc) (ls : Array Slot), rec_24 y_1 y_2 S = some (r, S') → va_P (dC, dI) classes (wV M Y G S) H → va_D A (wV M Y G S) → va_S A s.heap H locs → lv_has ls 3 [(0, .ref M.o_Tp), (1, .int y_1), (2, .int y_2)] → W p l e ({ frames := 1, cells := 0, slots := 0, locals := 21 }) s m ([.ref M.o_Tp, .int p0] : List Value).toArray below meth c H locs 0 0 Q (F0 m 24 ls [])), ∀ (y_1 : Int32) (y_2 : Int32) (S : CS) (H : Heap) (locs : List Loc) (ls : Array Slot), f_Tp_isLabel_52 K G rec_24 y_1 y_2 S = some (r, S') → va_P (dC, dI) classes (wV M Y G S) H → va_D A (wV M Y G S) → va_S A s.heap H locs → lv_has ls 3 [(0, .ref M.o_Tp), (1, .int y_1), (2, .int y_2)] → W p l e ({ frames := 1, cells := 0, slots := 0, locals := 21 }) s m ([.ref M.o_Tp, .int p0] : List Value).toArray below meth c H locs 0 0 Q (F0 m 52 ls []) := by
    intro rec_24 hr_24 y_1 y_2 S H locs ls h hP hD hS hl
    rw [f_Tp_isLabel_52] at h
    obtain ⟨x_11, ex_11, h⟩ := lf_lX h
    refine lv_iinc (v := x_11) (lv' := [(2, .int x_11), (0, .ref M.o_Tp), (1, .int y_1)]) hx hb d_Tp_isLabel_52 hl (k := 2) rfl (by rw [ex_11]; rfl) (by decide) rfl (fun ls hl => ?_)
    refine lv_goto (tgt := 24) hx hb d_Tp_isLabel_55 (by decide) ?_
    exact hr_24 y_1 x_11 S _ _ _ h hP hD hS (lv_sub hl [1, 2, 0] rfl)
  have hB_24 : ∀ (k : Nat), ∀ (y_1 : Int32) (y_2 : Int32) (S : CS) (H : Heap) (locs : List Loc) (ls : Array Slot), f_Tp_isLabel_24 K G k y_1 y_2 S = some (r, S') → va_P (dC, dI) classes (wV M Y G S) H → va_D A (wV M Y G S) → va_S A s.heap H locs → lv_has ls 3 [(0, .ref M.o_Tp), (1, .int y_1), (2, .int y_2)] → W p l e ({ frames := 1, cells := 0, slots := 0, locals := 21 }) s m ([.ref M.o_Tp, .int p0] : List Value).toArray below meth c H locs 0 0 Q (F0 m 24 ls []) := by
    intro k
    induction k with
    | zero => intro y_1 y_2 S H locs ls h; exact lf_no h
    | succ k hr_24 =>
      intro y_1 y_2 S H locs ls h hP hD hS hl
      rw [f_Tp_isLabel_24] at h
      refine lv_iload_n hx hb d_Tp_isLabel_24 rfl (lv_at hl 2 rfl) ?_
      refine lv_iload_n hx hb d_Tp_isLabel_25 rfl (lv_at hl 1 rfl) ?_
      refine lv_icmp_ge (tgt := 58) hx hb d_Tp_isLabel_26 (by decide) (fun c_5 => ?_) (fun c_5 => ?_)
      · have h := lf_t h c_5
        refine lv_iconst (v := 1) hx hb d_Tp_isLabel_58 (by decide) ?_
        rw [hQ]
        have e1 : (1 : Int32) = r := congrArg Prod.fst (Option.some.inj h)
        have e2 : S = S' := congrArg Prod.snd (Option.some.inj h)
        have hP := ly_newP e2.symm hP
        have hD := ly_newD e2.symm hD
        exact W.zret (v := 1) hx hb hr rfl (fun t ht hW => ⟨⟨1, (), rfl, e1, by rw [ht]; exact hP, va_K.moved hW.alike hK, hD⟩, hS.F ht⟩) hS.2.2 d_Tp_isLabel_59
      · have h := lf_f h c_5
        refine lv_aload_n hx hb d_Tp_isLabel_29 rfl (lv_at hl 0 rfl) ?_
        refine lv_iload_n hx hb d_Tp_isLabel_30 rfl (lv_at hl 2 rfl) ?_
        obtain ⟨r_6, S_6, hc_6, h⟩ := lf_cE h
        have hFc := lx_free hD hS hA
        refine va_calli (va_runV (As := [.int y_2]) (rest := []) ⟨hx, hb, hml, hown, hts⟩ (l_Tp_one l dC dI X _ hc_6) (cwV 1 hts (gwV good_Vq (u_Vq_Tp _ k_Tp_22) (u_Vq_Tp _ k_Tp_23) (u_Vq_Tp _ k_Tp_24) (u_Vq_Tp _ k_Tp_0) (wcs (u_Vq_Tp _ k_Tp_25) (fun _ h => h))) rfl rfl rfl (by decide +kernel) ⟨Nat.le_of_ble_eq_true rfl, Nat.le_of_ble_eq_true rfl⟩) (pv_ofE (X.same _) (fun U z1 z2 => X.mono _ _ U hFc (hEw _ _ hS U z1 z2)) hP hK hD (va_recv hK hP (ci := 3) (q0 := 2) rfl rfl)) rfl rfl hl.1 rfl (lv_room (Nat.le_of_ble_eq_true rfl)) d_Tp_isLabel_31 ⟨by decide, by decide⟩) hS (fun q _ h => hFc q h) hFc (fun r_ u t H locs ht hvm hw hB hz1 hk1 hS => ?_)
        rw [hw]
        obtain ⟨hP, -, hD⟩ := hB
        rw [ht] at hP
        have hD := lx_dj hD hFc
        refine lv_bipush (v := 32) hx hb d_Tp_isLabel_34 (by decide) ?_
        refine lv_icmp_eq (tgt := 52) hx hb d_Tp_isLabel_36 (by decide) (fun c_7 => ?_) (fun c_7 => ?_)
        · have h := lf_t h c_7
          exact hB_52 _ hr_24 y_1 y_2 S_6 _ _ _ h hP hD hS (lv_sub hl [0, 1, 2] rfl)
        · have h := lf_f h c_7
          refine lv_aload_n hx hb d_Tp_isLabel_39 rfl (lv_at hl 0 rfl) ?_
          refine lv_iload_n hx hb d_Tp_isLabel_40 rfl (lv_at hl 2 rfl) ?_
          obtain ⟨r_8, S_8, hc_8, h⟩ := lf_cE h
          have hFc := lx_free hD hS hA
          refine va_calli (va_runV (As := [.int y_2]) (rest := []) ⟨hx, hb, hml, hown, hts⟩ (l_Tp_one l dC dI X _ hc_8) (cwV 1 hts (gwV good_Vq (u_Vq_Tp _ k_Tp_22) (u_Vq_Tp _ k_Tp_23) (u_Vq_Tp _ k_Tp_24) (u_Vq_Tp _ k_Tp_0) (wcs (u_Vq_Tp _ k_Tp_25) (fun _ h => h))) rfl rfl rfl (by decide +kernel) ⟨Nat.le_of_ble_eq_true rfl, Nat.le_of_ble_eq_true rfl⟩) (pv_ofE (X.same _) (fun U z1 z2 => X.mono _ _ U hFc (hEw _ _ hS U z1 z2)) hP hK hD (va_recv hK hP (ci := 3) (q0 := 2) rfl rfl)) rfl rfl hl.1 rfl (lv_room (Nat.le_of_ble_eq_true rfl)) d_Tp_isLabel_41 ⟨by decide, by decide⟩) hS (fun q _ h => hFc q h) hFc (fun r_ u t H locs ht hvm hw hB hz1 hk1 hS => ?_)
          rw [hw]
          obtain ⟨hP, -, hD⟩ := hB
          rw [ht] at hP
          have hD := lx_dj hD hFc
          obtain ⟨r_9, hc_9, h⟩ := lf_bE h
          have hFc := lx_free0 hS hA
          refine va_calli (va_runS (As := [.int r_8]) (rest := []) ⟨hx, hb, hml, hown, hts⟩ (l_Wo_mayBeShort l dC dI  _ hc_9) (va_cwS 1 hts (gwS good_Vq (u_Vq_Tp _ k_Tp_26) (u_Vq_Wo _ k_Wo_5) (u_Vq_Wo _ k_Wo_0) (wcs (u_Vq_Wo _ k_Wo_6) (fun _ h => h))) rfl rfl rfl (by decide +kernel) ⟨Nat.le_of_ble_eq_true rfl, Nat.le_of_ble_eq_true rfl⟩) (ps_of (W := []) (tys := []) (hP.sub (ws' := []) [] rfl) (hK.sub [] rfl) (hD.sub (ws' := []) [] (by decide) rfl)) rfl rfl hl.1 rfl (lv_room (Nat.le_of_ble_eq_true rfl)) d_Tp_isLabel_44 ⟨by decide, by decide⟩) hS (fun q _ h => hFc q h) hFc (fun r_ u t H locs ht hvm hw hB hz1 hk1 hS => ?_)
          rw [hw]
          have hP := lx_stat (A := A) hP hk1
          refine lv_if_ne (tgt := 52) hx hb d_Tp_isLabel_47 (by decide) (fun c_10 => ?_) (fun c_10 => ?_)
          · have h := lf_f h c_10
            exact hB_52 _ hr_24 y_1 y_2 S_8 _ _ _ h hP hD hS (lv_sub hl [0, 1, 2] rfl)
          · have h := lf_t h c_10
            refine lv_iconst (v := 0) hx hb d_Tp_isLabel_50 (by decide) ?_
            rw [hQ]
            have e1 : (0 : Int32) = r := congrArg Prod.fst (Option.some.inj h)
            have e2 : S_8 = S' := congrArg Prod.snd (Option.some.inj h)
            have hP := ly_newP e2.symm hP
            have hD := ly_newD e2.symm hD
            exact W.zret (v := 0) hx hb hr rfl (fun t ht hW => ⟨⟨0, (), rfl, e1, by rw [ht]; exact hP, va_K.moved hW.alike hK, hD⟩, hS.F ht⟩) hS.2.2 d_Tp_isLabel_51
  have hB_22 : ∀ (y_1 : Int32) (S : CS) (H : Heap) (locs : List Loc) (ls : Array Slot), f_Tp_isLabel_22 K G y_1 S = some (r, S') → va_P (dC, dI) classes (wV M Y G S) H → va_D A (wV M Y G S) → va_S A s.heap H locs → lv_has ls 3 [(0, .ref M.o_Tp), (1, .int y_1)] → W p l e ({ frames := 1, cells := 0, slots := 0, locals := 21 }) s m ([.ref M.o_Tp, .int p0] : List Value).toArray below meth c H locs 0 0 Q (F0 m 22 ls []) := by
    intro y_1 S H locs ls h hP hD hS hl
    rw [f_Tp_isLabel_22] at h
    refine lv_iconst (v := 0) hx hb d_Tp_isLabel_22 (by decide) ?_
    refine lv_istore_n (lv' := [(2, .int 0), (0, .ref M.o_Tp), (1, .int y_1)]) hx hb d_Tp_isLabel_23 rfl hl (by decide) rfl (fun ls hl => ?_)
    exact hB_24 K y_1 0 S _ _ _ h hP hD hS (lv_sub hl [1, 2, 0] rfl)
  rw [f_Tp_isLabel] at h
  refine lv_iload_n hx hb d_Tp_isLabel_0 rfl (lv_at hl 1 rfl) ?_
  refine lv_bipush (v := 11) hx hb d_Tp_isLabel_1 (by decide) ?_
  refine lv_icmp_gt (tgt := 20) hx hb d_Tp_isLabel_3 (by decide) (fun c_1 => ?_) (fun c_1 => ?_)
  · have h := lf_t h c_1
    exact hB_20 S _ _ _ h hP hD hS (lv_sub hl [] rfl)
  · have h := lf_f h c_1
    refine lv_iload_n hx hb d_Tp_isLabel_6 rfl (lv_at hl 1 rfl) ?_
    refine lv_if_le (tgt := 22) hx hb d_Tp_isLabel_7 (by decide) (fun c_2 => ?_) (fun c_2 => ?_)
    · have h := lf_t h c_2
      exact hB_22 p0 S _ _ _ h hP hD hS (lv_sub hl [0, 1] rfl)
    · have h := lf_f h c_2
      refine lv_aload_n hx hb d_Tp_isLabel_10 rfl (lv_at hl 0 rfl) ?_
      refine lv_iconst (v := 0) hx hb d_Tp_isLabel_11 (by decide) ?_
      obtain ⟨r_3, S_3, hc_3, h⟩ := lf_cE h
      have hFc := lx_free hD hS hA
      refine va_calli (va_runV (As := [.int 0]) (rest := []) ⟨hx, hb, hml, hown, hts⟩ (l_Tp_one l dC dI X _ hc_3) (cwV 1 hts (gwV good_Vq (u_Vq_Tp _ k_Tp_22) (u_Vq_Tp _ k_Tp_23) (u_Vq_Tp _ k_Tp_24) (u_Vq_Tp _ k_Tp_0) (wcs (u_Vq_Tp _ k_Tp_25) (fun _ h => h))) rfl rfl rfl (by decide +kernel) ⟨Nat.le_of_ble_eq_true rfl, Nat.le_of_ble_eq_true rfl⟩) (pv_ofE (X.same _) (fun U z1 z2 => X.mono _ _ U hFc (hEw _ _ hS U z1 z2)) hP hK hD (va_recv hK hP (ci := 3) (q0 := 2) rfl rfl)) rfl rfl hl.1 rfl (lv_room (Nat.le_of_ble_eq_true rfl)) d_Tp_isLabel_12 ⟨by decide, by decide⟩) hS (fun q _ h => hFc q h) hFc (fun r_ u t H locs ht hvm hw hB hz1 hk1 hS => ?_)
      rw [hw]
      obtain ⟨hP, -, hD⟩ := hB
      rw [ht] at hP
      have hD := lx_dj hD hFc
      refine lv_bipush (v := 32) hx hb d_Tp_isLabel_15 (by decide) ?_
      refine lv_icmp_ne (tgt := 22) hx hb d_Tp_isLabel_17 (by decide) (fun c_4 => ?_) (fun c_4 => ?_)
      · have h := lf_f h c_4
        exact hB_22 p0 S_3 _ _ _ h hP hD hS (lv_sub hl [0, 1] rfl)
      · have h := lf_t h c_4
        exact hB_20 S_3 _ _ _ h hP hD hS (lv_sub hl [] rfl)
set_option maxHeartbeats 4000000 in
set_option maxRecDepth 100000 in
theorem l_Tb_numbersFit (l : Launch) (dC : Nat → ClassId) (dI : Nat → Nat → Nat) {K : Nat} (sz : Nat) {p0 : Int32} {p1 : Int32} {p2 : Int32} {p3 : Int32} {r : Int32} (h : f_Tb_numbersFit K p0 p1 p2 p3 = some r) : Met l y_Tb_numbersFit (.code y_Tb_numbersFit b_Tb_numbersFit 4 (some .boolean) :: V_Vq) ({ frames := 0, cells := 0, slots := 0, locals := 0 }) (va_Pc [.int p0, .int p1, .int p2, .int p3] (fun U => U.heap.size = sz ∧ at_ (dC, dI) (fun _ => True) [] [] U)) (va_Qi (fun (r_ : Int32) (u : Unit) => r_ = r) (fun (u : Unit) t => at_ (dC, dI) (va_A [] sz) [] [] t) (va_A [] sz)) 0 0 (va_A [] sz) := by
  refine Met.ofW (cc := b_Tb_numbersFit) (maxL := 4) (ret := (some .boolean)) (by decide) rfl ?_
  intro p e s m args below meth c s₁ B hml hv
  obtain ⟨rfl, hsz, hP, hK, hD0⟩ := hv
  have hx := B.exec
  have hb := B.bytes
  have hr := B.returns
  have hts0 := atoms_spec (ws := .code y_Tb_numbersFit b_Tb_numbersFit 4 (some .boolean) :: V_Vq) B.pre
  have hts : ∀ w ∈ V_Vq, w.before ([.int p0, .int p1, .int p2, .int p3] : List Value).toArray s = true := fun w h => hts0 w (List.mem_cons_of_mem _ h)
  have hown : s.vm.findClass R_Tb = some m.cls := findClass_of_methodNamed B.named
  subst hsz
  have hD := hD0.self (sz := s.heap.size)
  generalize hAe : va_A [] s.heap.size = A at hD ⊢
  have hA : ∀ q : Nat, s.heap.size ≤ q → A q := fun q h => by rw [← hAe]; exact Or.inr h
  have hS : va_S A s.heap s.heap [] := va_S.rf
  have hP : va_P (dC, dI) classes [] s.heap := hP
  have hK : va_K (dC, dI) classes [] s := hK
  have hl := lv_entry ([.int p0, .int p1, .int p2, .int p3]) (n := 4) (Nat.le_of_ble_eq_true rfl)
  rw [lg_entry_eq]
  generalize (lg_sl ([.int p0, .int p1, .int p2, .int p3]) ++ List.replicate (4 - (lg_sl ([.int p0, .int p1, .int p2, .int p3])).length) Slot.unset).toArray = ls at hl ⊢
  have hl : lv_has ls 4 [(0, .int p0), (1, .int p1), (2, .int p2), (3, .int p3)] := hl
  refine qabs (fun Q hQ => ?_)
  have hB_53 : ∀ (H : Heap) (locs : List Loc) (ls : Array Slot), f_Tb_numbersFit_53 K = some r → va_P (dC, dI) classes [] H → va_D A [] → va_S A s.heap H locs → lv_has ls 4 [] → W p l e ({ frames := 0, cells := 0, slots := 0, locals := 0 }) s m ([.int p0, .int p1, .int p2, .int p3] : List Value).toArray below meth c H locs 0 0 Q (F0 m 53 ls []) := by
    intro  H locs ls h hP hD hS hl
    rw [f_Tb_numbersFit_53] at h
    refine lv_iconst (v := 0) hx hb d_Tb_numbersFit_53 (by decide) ?_
    rw [hQ]
    have e1 : (0 : Int32) = r := Option.some.inj h
    exact W.zret (v := 0) hx hb hr rfl (fun t ht hW => ⟨⟨0, (), rfl, e1, by rw [ht]; exact hP, va_K.moved hW.alike hK, hD⟩, hS.F ht⟩) hS.2.2 d_Tb_numbersFit_54
  have hB_38 : ∀ (y_3 : Int32) (H : Heap) (locs : List Loc) (ls : Array Slot), f_Tb_numbersFit_38 K y_3 = some r → va_P (dC, dI) classes [] H → va_D A [] → va_S A s.heap H locs → lv_has ls 4 [(3, .int y_3)] → W p l e ({ frames := 0, cells := 0, slots := 0, locals := 0 }) s m ([.int p0, .int p1, .int p2, .int p3] : List Value).toArray below meth c H locs 0 0 Q (F0 m 38 ls []) := by
    intro y_3 H locs ls h hP hD hS hl
    rw [f_Tb_numbersFit_38] at h
    refine lv_iload_n hx hb d_Tb_numbersFit_38 rfl (lv_at hl 0 rfl) ?_
    refine lv_iconst (v := 1) hx hb d_Tb_numbersFit_39 (by decide) ?_
    refine lv_icmp_lt (tgt := 53) hx hb d_Tb_numbersFit_40 (by decide) (fun c_8 => ?_) (fun c_8 => ?_)
    · have h := lf_t h c_8
      exact hB_53 _ _ _ h hP hD hS (lv_sub hl [] rfl)
    · have h := lf_f h c_8
      refine lv_iload_n hx hb d_Tb_numbersFit_43 rfl (lv_at hl 0 rfl) ?_
      refine lv_bipush (v := 32) hx hb d_Tb_numbersFit_44 (by decide) ?_
      refine lv_icmp_gt (tgt := 53) hx hb d_Tb_numbersFit_46 (by decide) (fun c_9 => ?_) (fun c_9 => ?_)
      · have h := lf_t h c_9
        exact hB_53 _ _ _ h hP hD hS (lv_sub hl [] rfl)
      · have h := lf_f h c_9
        refine lv_iconst (v := 1) hx hb d_Tb_numbersFit_49 (by decide) ?_
        refine lv_goto (tgt := 54) hx hb d_Tb_numbersFit_50 (by decide) ?_
        rw [hQ]
        have e1 : (1 : Int32) = r := Option.some.inj h
        exact W.zret (v := 1) hx hb hr rfl (fun t ht hW => ⟨⟨1, (), rfl, e1, by rw [ht]; exact hP, va_K.moved hW.alike hK, hD⟩, hS.F ht⟩) hS.2.2 d_Tb_numbersFit_54
  have hB_16 : ∀ (y_1 : Int32) (y_2 : Int32) (y_3 : Int32) (H : Heap) (locs : List Loc) (ls : Array Slot), f_Tb_numbersFit_16 K y_1 y_2 y_3 = some r → va_P (dC, dI) classes [] H → va_D A [] → va_S A s.heap H locs → lv_has ls 4 [(1, .int y_1), (2, .int y_2), (3, .int y_3)] → W p l e ({ frames := 0, cells := 0, slots := 0, locals := 0 }) s m ([.int p0, .int p1, .int p2, .int p3] : List Value).toArray below meth c H locs 0 0 Q (F0 m 16 ls []) := by
    intro y_1 y_2 y_3 H locs ls h hP hD hS hl
    rw [f_Tb_numbersFit_16] at h
    refine lv_iload_n hx hb d_Tb_numbersFit_16 rfl (lv_at hl 0 rfl) ?_
    refine lv_bipush (v := 8) hx hb d_Tb_numbersFit_17 (by decide) ?_
    refine lv_icmp_lt (tgt := 53) hx hb d_Tb_numbersFit_19 (by decide) (fun c_4 => ?_) (fun c_4 => ?_)
    · have h := lf_t h c_4
      exact hB_53 _ _ _ h hP hD hS (lv_sub hl [] rfl)
    · have h := lf_f h c_4
      refine lv_iload_n hx hb d_Tb_numbersFit_22 rfl (lv_at hl 0 rfl) ?_
      refine lv_bipush (v := 64) hx hb d_Tb_numbersFit_23 (by decide) ?_
      refine lv_icmp_gt (tgt := 53) hx hb d_Tb_numbersFit_25 (by decide) (fun c_5 => ?_) (fun c_5 => ?_)
      · have h := lf_t h c_5
        exact hB_53 _ _ _ h hP hD hS (lv_sub hl [] rfl)
      · have h := lf_f h c_5
        refine lv_iload_n hx hb d_Tb_numbersFit_28 rfl (lv_at hl 1 rfl) ?_
        refine lv_iconst (v := 1) hx hb d_Tb_numbersFit_29 (by decide) ?_
        refine lv_icmp_eq (tgt := 38) hx hb d_Tb_numbersFit_30 (by decide) (fun c_6 => ?_) (fun c_6 => ?_)
        · have h := lf_t h c_6
          exact hB_38 y_3 _ _ _ h hP hD hS (lv_sub hl [2] rfl)
        · have h := lf_f h c_6
          refine lv_iload_n hx hb d_Tb_numbersFit_33 rfl (lv_at hl 1 rfl) ?_
          refine lv_iconst (v := 2) hx hb d_Tb_numbersFit_34 (by decide) ?_
          refine lv_icmp_ne (tgt := 53) hx hb d_Tb_numbersFit_35 (by decide) (fun c_7 => ?_) (fun c_7 => ?_)
          · have h := lf_f h c_7
            exact hB_53 _ _ _ h hP hD hS (lv_sub hl [] rfl)
          · have h := lf_t h c_7
            exact hB_38 y_3 _ _ _ h hP hD hS (lv_sub hl [2] rfl)
  rw [f_Tb_numbersFit] at h
  refine lv_iload_n hx hb d_Tb_numbersFit_0 rfl (lv_at hl 0 rfl) ?_
  refine lv_iconst (v := 2) hx hb d_Tb_numbersFit_1 (by decide) ?_
  refine lv_icmp_eq (tgt := 16) hx hb d_Tb_numbersFit_2 (by decide) (fun c_1 => ?_) (fun c_1 => ?_)
  · have h := lf_t h c_1
    exact hB_16 p1 p2 p3 _ _ _ h hP hD hS (lv_sub hl [1, 2, 3] rfl)
  · have h := lf_f h c_1
    refine lv_iload_n hx hb d_Tb_numbersFit_5 rfl (lv_at hl 0 rfl) ?_
    refine lv_iconst (v := 4) hx hb d_Tb_numbersFit_6 (by decide) ?_
    refine lv_icmp_eq (tgt := 16) hx hb d_Tb_numbersFit_7 (by decide) (fun c_2 => ?_) (fun c_2 => ?_)
    · have h := lf_t h c_2
      exact hB_16 p1 p2 p3 _ _ _ h hP hD hS (lv_sub hl [1, 2, 3] rfl)
    · have h := lf_f h c_2
      refine lv_iload_n hx hb d_Tb_numbersFit_10 rfl (lv_at hl 0 rfl) ?_
      refine lv_bipush (v := 8) hx hb d_Tb_numbersFit_11 (by decide) ?_
      refine lv_icmp_ne (tgt := 53) hx hb d_Tb_numbersFit_13 (by decide) (fun c_3 => ?_) (fun c_3 => ?_)
      · have h := lf_f h c_3
        exact hB_53 _ _ _ h hP hD hS (lv_sub hl [] rfl)
      · have h := lf_t h c_3
        exact hB_16 p1 p2 p3 _ _ _ h hP hD hS (lv_sub hl [1, 2, 3] rfl)
set_option maxHeartbeats 4000000 in
set_option maxRecDepth 100000 in
theorem l_Tb_clustersWith (l : Launch) (dC : Nat → ClassId) (dI : Nat → Nat → Nat) {K : Nat} {M : CA} {E : (Nat → Prop) → State → Prop} (X : ly_X l dC dI K M E) (sz : Nat) {Y : CT} {G : CG} {S S' : CS} {p0 : Int32} {p1 : Int32} {p2 : Int32} {p3 : Int32} {r : Int32} (h : f_Tb_clustersWith K G S p0 p1 p2 p3 = some (r, S')) : Met l y_Tb_clustersWith (.code y_Tb_clustersWith cb_Tb_clustersWith 5 (some .int) :: V_Vq) ({ frames := 0, cells := 0, slots := 0, locals := 0 }) (va_Pc [.ref M.o_Tb, .int p0, .int p1, .int p2, .int p3] (fun U => U.heap.size = sz ∧ at_ (dC, dI) (fun _ => True) (wV M Y G S) (tV M) U ∧ E (va_A (wV M Y G S) sz) U)) (va_Qi (fun (r_ : Int32) (u : Unit) => r_ = r) (fun (u : Unit) t => at_ (dC, dI) (va_A (wV M Y G S) sz) (wV M Y G S') (tV M) t) (va_A (wV M Y G S) sz)) 0 0 (va_A (wV M Y G S) sz) := by
  refine Met.ofW (cc := cb_Tb_clustersWith) (maxL := 5) (ret := (some .int)) (by decide) rfl ?_
  intro p e s m args below meth c s₁ B hml hv
  obtain ⟨rfl, hsz, ⟨hP, hK, hD0⟩, hE⟩ := hv
  have hx := B.exec
  have hb := B.bytes
  have hr := B.returns
  have hts0 := atoms_spec (ws := .code y_Tb_clustersWith cb_Tb_clustersWith 5 (some .int) :: V_Vq) B.pre
  have hts : ∀ w ∈ V_Vq, w.before ([.ref M.o_Tb, .int p0, .int p1, .int p2, .int p3] : List Value).toArray s = true := fun w h => hts0 w (List.mem_cons_of_mem _ h)
  have hown : s.vm.findClass R_Tb = some m.cls := findClass_of_methodNamed B.named
  subst hsz
  have hD := hD0.self (sz := s.heap.size)
  generalize hAe : va_A (wV M Y G S) s.heap.size = A at hD hE ⊢
  have hA : ∀ q : Nat, s.heap.size ≤ q → A q := fun q h => by rw [← hAe]; exact Or.inr h
  have hS : va_S A s.heap s.heap [] := va_S.rf
  have hP : va_P (dC, dI) classes (wV M Y G S) s.heap := hP
  have hK : va_K (dC, dI) classes (tV M) s := hK
  have hEw : ∀ (H : Heap) (locs : List Loc), va_S A s.heap H locs → ∀ U : State, U.heap = H → s.WarmedH U.vm → E A U := fun H locs hS U hU hW => X.kept A s U H locs hE hS hU hW
  have hl := lv_entry ([.ref M.o_Tb, .int p0, .int p1, .int p2, .int p3]) (n := 5) (Nat.le_of_ble_eq_true rfl)
  rw [lg_entry_eq]
  generalize (lg_sl ([.ref M.o_Tb, .int p0, .int p1, .int p2, .int p3]) ++ List.replicate (5 - (lg_sl ([.ref M.o_Tb, .int p0, .int p1, .int p2, .int p3])).length) Slot.unset).toArray = ls at hl ⊢
  have hl : lv_has ls 5 [(0, .ref M.o_Tb), (1, .int p0), (2, .int p1), (3, .int p2), (4, .int p3)] := hl
  refine qabs (fun Q hQ => ?_)
  rw [f_Tb_clustersWith] at h
  refine lv_iload_n hx hb d_Tb_clustersWith_0 rfl (lv_at hl 1 rfl) ?_
  refine lv_iconst (v := 1) hx hb d_Tb_clustersWith_1 (by decide) ?_
  refine lv_icmp_ge (tgt := 9) hx hb d_Tb_clustersWith_2 (by decide) (fun c_1 => ?_) (fun c_1 => ?_)
  · have h := lf_t h c_1
    refine lv_aload_n hx hb d_Tb_clustersWith_9 rfl (lv_at hl 0 rfl) ?_
    refine va_get (D := (dC, dI)) (ci := 4) (v := .ref M.o_Dk) (C := R_Tb) (T := F_Tb) (N := 10) hx hb hts (fun w h => u_Vq_Tb w (i_Tb w h)) hown hK hP 3 rfl rfl 0 (by decide) (hts _ (u_Vq_Tb _ k_Tb_6)) (fun _ h9 => h9) rfl d_Tb_clustersWith_10 ?_
    refine va_get (D := (dC, dI)) (ci := 0) (v := .int S.v_Dk_sectors) (C := R_Dk) (T := F_Dk) (N := 3) hx hb hts (fun w h => u_Vq_Dk w (i_Dk w h)) hown hK hP 1 rfl rfl 0 (by decide) (hts _ (u_Vq_Tb _ k_Tb_1)) (fun _ h9 => h9) rfl d_Tb_clustersWith_13 ?_
    refine lv_iload_n hx hb d_Tb_clustersWith_16 rfl (lv_at hl 2 rfl) ?_
    refine lv_isub hx hb d_Tb_clustersWith_17 ?_
    refine lv_iload_n hx hb d_Tb_clustersWith_18 rfl (lv_at hl 3 rfl) ?_
    refine lv_iload hx hb d_Tb_clustersWith_19 (lv_at hl 4 rfl) ?_
    refine lv_imul hx hb d_Tb_clustersWith_21 ?_
    refine lv_isub hx hb d_Tb_clustersWith_22 ?_
    refine lv_iload_n hx hb d_Tb_clustersWith_23 rfl (lv_at hl 1 rfl) ?_
    obtain ⟨g_2, h⟩ := lf_gE h
    refine lv_idiv hx hb d_Tb_clustersWith_24 g_2 ?_
    rw [hQ]
    have e1 : (((S.v_Dk_sectors - p1) - (p2 * p3)) / p0) = r := congrArg Prod.fst (Option.some.inj h)
    have e2 : S = S' := congrArg Prod.snd (Option.some.inj h)
    have hP := ly_newP e2.symm hP
    have hD := ly_newD e2.symm hD
    exact W.iret (v := (((S.v_Dk_sectors - p1) - (p2 * p3)) / p0)) hx hb hr (fun t ht hW => ⟨⟨(((S.v_Dk_sectors - p1) - (p2 * p3)) / p0), (), rfl, e1, by rw [ht]; exact hP, va_K.moved hW.alike hK, hD⟩, hS.F ht⟩) hS.2.2 d_Tb_clustersWith_25
  · have h := lf_f h c_1
    refine lv_iconst (v := 0) hx hb d_Tb_clustersWith_5 (by decide) ?_
    refine lv_goto (tgt := 25) hx hb d_Tb_clustersWith_6 (by decide) ?_
    rw [hQ]
    have e1 : (0 : Int32) = r := congrArg Prod.fst (Option.some.inj h)
    have e2 : S = S' := congrArg Prod.snd (Option.some.inj h)
    have hP := ly_newP e2.symm hP
    have hD := ly_newD e2.symm hD
    exact W.iret (v := 0) hx hb hr (fun t ht hW => ⟨⟨0, (), rfl, e1, by rw [ht]; exact hP, va_K.moved hW.alike hK, hD⟩, hS.F ht⟩) hS.2.2 d_Tb_clustersWith_25
set_option maxHeartbeats 4000000 in
set_option maxRecDepth 100000 in
theorem l_Tb_isEnough (l : Launch) (dC : Nat → ClassId) (dI : Nat → Nat → Nat) {K : Nat} (sz : Nat) {p0 : Int32} {p1 : Int32} {r : Int32} (h : f_Tb_isEnough K p0 p1 = some r) : Met l y_Tb_isEnough (.code y_Tb_isEnough b_Tb_isEnough 2 (some .boolean) :: V_Vq) ({ frames := 0, cells := 0, slots := 0, locals := 0 }) (va_Pc [.int p0, .int p1] (fun U => U.heap.size = sz ∧ at_ (dC, dI) (fun _ => True) [] [] U)) (va_Qi (fun (r_ : Int32) (u : Unit) => r_ = r) (fun (u : Unit) t => at_ (dC, dI) (va_A [] sz) [] [] t) (va_A [] sz)) 0 0 (va_A [] sz) := by
  refine Met.ofW (cc := b_Tb_isEnough) (maxL := 2) (ret := (some .boolean)) (by decide) rfl ?_
  intro p e s m args below meth c s₁ B hml hv
  obtain ⟨rfl, hsz, hP, hK, hD0⟩ := hv
  have hx := B.exec
  have hb := B.bytes
  have hr := B.returns
  have hts0 := atoms_spec (ws := .code y_Tb_isEnough b_Tb_isEnough 2 (some .boolean) :: V_Vq) B.pre
  have hts : ∀ w ∈ V_Vq, w.before ([.int p0, .int p1] : List Value).toArray s = true := fun w h => hts0 w (List.mem_cons_of_mem _ h)
  have hown : s.vm.findClass R_Tb = some m.cls := findClass_of_methodNamed B.named
  subst hsz
  have hD := hD0.self (sz := s.heap.size)
  generalize hAe : va_A [] s.heap.size = A at hD ⊢
  have hA : ∀ q : Nat, s.heap.size ≤ q → A q := fun q h => by rw [← hAe]; exact Or.inr h
  have hS : va_S A s.heap s.heap [] := va_S.rf
  have hP : va_P (dC, dI) classes [] s.heap := hP
  have hK : va_K (dC, dI) classes [] s := hK
  have hl := lv_entry ([.int p0, .int p1]) (n := 2) (Nat.le_of_ble_eq_true rfl)
  rw [lg_entry_eq]
  generalize (lg_sl ([.int p0, .int p1]) ++ List.replicate (2 - (lg_sl ([.int p0, .int p1])).length) Slot.unset).toArray = ls at hl ⊢
  have hl : lv_has ls 2 [(0, .int p0), (1, .int p1)] := hl
  refine qabs (fun Q hQ => ?_)
  have hB_20 : ∀ (H : Heap) (locs : List Loc) (ls : Array Slot), f_Tb_isEnough_20 K = some r → va_P (dC, dI) classes [] H → va_D A [] → va_S A s.heap H locs → lv_has ls 2 [] → W p l e ({ frames := 0, cells := 0, slots := 0, locals := 0 }) s m ([.int p0, .int p1] : List Value).toArray below meth c H locs 0 0 Q (F0 m 20 ls []) := by
    intro  H locs ls h hP hD hS hl
    rw [f_Tb_isEnough_20] at h
    refine lv_iconst (v := 0) hx hb d_Tb_isEnough_20 (by decide) ?_
    rw [hQ]
    have e1 : (0 : Int32) = r := Option.some.inj h
    exact W.zret (v := 0) hx hb hr rfl (fun t ht hW => ⟨⟨0, (), rfl, e1, by rw [ht]; exact hP, va_K.moved hW.alike hK, hD⟩, hS.F ht⟩) hS.2.2 d_Tb_isEnough_21
  rw [f_Tb_isEnough] at h
  refine lv_iload_n hx hb d_Tb_isEnough_0 rfl (lv_at hl 0 rfl) ?_
  refine lv_iconst (v := 4) hx hb d_Tb_isEnough_1 (by decide) ?_
  refine lv_icmp_lt (tgt := 20) hx hb d_Tb_isEnough_2 (by decide) (fun c_1 => ?_) (fun c_1 => ?_)
  · have h := lf_t h c_1
    exact hB_20 _ _ _ h hP hD hS (lv_sub hl [] rfl)
  · have h := lf_f h c_1
    refine lv_sipush (v := 128) hx hb d_Tb_isEnough_5 (by decide) ?_
    refine lv_iload_n hx hb d_Tb_isEnough_8 rfl (lv_at hl 1 rfl) ?_
    refine lv_imul hx hb d_Tb_isEnough_9 ?_
    refine lv_iload_n hx hb d_Tb_isEnough_10 rfl (lv_at hl 0 rfl) ?_
    refine lv_iconst (v := 2) hx hb d_Tb_isEnough_11 (by decide) ?_
    refine lv_iadd hx hb d_Tb_isEnough_12 ?_
    refine lv_icmp_lt (tgt := 20) hx hb d_Tb_isEnough_13 (by decide) (fun c_2 => ?_) (fun c_2 => ?_)
    · have h := lf_t h c_2
      exact hB_20 _ _ _ h hP hD hS (lv_sub hl [] rfl)
    · have h := lf_f h c_2
      refine lv_iconst (v := 1) hx hb d_Tb_isEnough_16 (by decide) ?_
      refine lv_goto (tgt := 21) hx hb d_Tb_isEnough_17 (by decide) ?_
      rw [hQ]
      have e1 : (1 : Int32) = r := Option.some.inj h
      exact W.zret (v := 1) hx hb hr rfl (fun t ht hW => ⟨⟨1, (), rfl, e1, by rw [ht]; exact hP, va_K.moved hW.alike hK, hD⟩, hS.F ht⟩) hS.2.2 d_Tb_isEnough_21
set_option maxHeartbeats 4000000 in
set_option maxRecDepth 100000 in
theorem l_Tb_leastLength (l : Launch) (dC : Nat → ClassId) (dI : Nat → Nat → Nat) {K : Nat} {M : CA} {E : (Nat → Prop) → State → Prop} (X : ly_X l dC dI K M E) (sz : Nat) {Y : CT} {G : CG} {S S' : CS} {p0 : Int32} {p1 : Int32} {p2 : Int32} {r : Int32} (h : f_Tb_leastLength K G S p0 p1 p2 = some (r, S')) : Met l y_Tb_leastLength (.code y_Tb_leastLength cb_Tb_leastLength 5 (some .int) :: V_Vq) ({ frames := 1, cells := 0, slots := 0, locals := 24 }) (va_Pc [.ref M.o_Tb, .int p0, .int p1, .int p2] (fun U => U.heap.size = sz ∧ at_ (dC, dI) (fun _ => True) (wV M Y G S) (tV M) U ∧ E (va_A (wV M Y G S) sz) U)) (va_Qi (fun (r_ : Int32) (u : Unit) => r_ = r) (fun (u : Unit) t => at_ (dC, dI) (va_A (wV M Y G S) sz) (wV M Y G S') (tV M) t) (va_A (wV M Y G S) sz)) 0 0 (va_A (wV M Y G S) sz) := by
  refine Met.ofW (cc := cb_Tb_leastLength) (maxL := 5) (ret := (some .int)) (by decide) rfl ?_
  intro p e s m args below meth c s₁ B hml hv
  obtain ⟨rfl, hsz, ⟨hP, hK, hD0⟩, hE⟩ := hv
  have hx := B.exec
  have hb := B.bytes
  have hr := B.returns
  have hts0 := atoms_spec (ws := .code y_Tb_leastLength cb_Tb_leastLength 5 (some .int) :: V_Vq) B.pre
  have hts : ∀ w ∈ V_Vq, w.before ([.ref M.o_Tb, .int p0, .int p1, .int p2] : List Value).toArray s = true := fun w h => hts0 w (List.mem_cons_of_mem _ h)
  have hown : s.vm.findClass R_Tb = some m.cls := findClass_of_methodNamed B.named
  subst hsz
  have hD := hD0.self (sz := s.heap.size)
  generalize hAe : va_A (wV M Y G S) s.heap.size = A at hD hE ⊢
  have hA : ∀ q : Nat, s.heap.size ≤ q → A q := fun q h => by rw [← hAe]; exact Or.inr h
  have hS : va_S A s.heap s.heap [] := va_S.rf
  have hP : va_P (dC, dI) classes (wV M Y G S) s.heap := hP
  have hK : va_K (dC, dI) classes (tV M) s := hK
  have hEw : ∀ (H : Heap) (locs : List Loc), va_S A s.heap H locs → ∀ U : State, U.heap = H → s.WarmedH U.vm → E A U := fun H locs hS U hU hW => X.kept A s U H locs hE hS hU hW
  have hl := lv_entry ([.ref M.o_Tb, .int p0, .int p1, .int p2]) (n := 5) (Nat.le_of_ble_eq_true rfl)
  rw [lg_entry_eq]
  generalize (lg_sl ([.ref M.o_Tb, .int p0, .int p1, .int p2]) ++ List.replicate (5 - (lg_sl ([.ref M.o_Tb, .int p0, .int p1, .int p2])).length) Slot.unset).toArray = ls at hl ⊢
  have hl : lv_has ls 5 [(0, .ref M.o_Tb), (1, .int p0), (2, .int p1), (3, .int p2)] := hl
  refine qabs (fun Q hQ => ?_)
  have hB_41 : ∀ (rec_3 : Int32 → Int32 → Int32 → Int32 → CS → Option (Int32 × CS)) (hr_3 : ∀ (y_1 : Int32) (y_2 : Int32) (y_3 : Int32) (y_4 : Int32) (S : CS) (H : Heap) (locs : List Loc) (ls : Array Slot), rec_3 y_1 y_2 y_3 y_4 S = some (r, S') → va_P (dC, dI) classes (wV M Y G S) H → va_D A (wV M Y G S) → va_S A s.heap H locs → lv_has ls 5 [(0, .ref M.o_Tb), (1, .int y_1), (2, .int y_2), (3, .int y_3), (4, .int y_4)] → W p l e ({ frames := 1, cells := 0, slots := 0, locals := 24 }) s m ([.ref M.o_Tb, .int p0, .int p1, .int p2] : List Value).toArray below meth c H locs 0 0 Q (F0 m 3 ls [])), ∀ (y_1 : Int32) (y_2 : Int32) (y_3 : Int32) (y_4 : Int32) (S : CS) (H : Heap) (locs : List Loc) (ls : Array Slot), f_Tb_leastLength_41 K G rec_3 y_1 y_2 y_3 y_4 S = some (r, S') → va_P (dC, dI) classes (wV M Y G S) H → va_D A (wV M Y G S) → va_S A s.heap H locs → lv_has ls 5 [(0, .ref M.o_Tb), (1, .int y_1), (2, .int y_2), (3, .int y_3), (4, .int y_4)] → W p l e ({ frames := 1, cells := 0, slots := 0, locals := 24 }) s m ([.ref M.o_Tb, .int p0, .int p1, .int p2] : List Value).toArray below meth c H locs 0 0 Q (F0 m 41 ls []) := by
    intro rec_3 hr_3 y_1 y_2 y_3 y_4 S H locs ls h hP hD hS hl
    rw [f_Tb_leastLength_41] at h
    obtain ⟨x_7, ex_7, h⟩ := lf_lX h
    refine lv_iinc (v := x_7) (lv' := [(4, .int x_7), (0, .ref M.o_Tb), (1, .int y_1), (2, .int y_2), (3, .int y_3)]) hx hb d_Tb_leastLength_41 hl (k := 4) rfl (by rw [ex_7]; rfl) (by decide) rfl (fun ls hl => ?_)
    refine lv_goto (tgt := 3) hx hb d_Tb_leastLength_44 (by decide) ?_
    exact hr_3 y_1 y_2 y_3 x_7 S _ _ _ h hP hD hS (lv_sub hl [1, 2, 3, 4, 0] rfl)
  have hB_3 : ∀ (k : Nat), ∀ (y_1 : Int32) (y_2 : Int32) (y_3 : Int32) (y_4 : Int32) (S : CS) (H : Heap) (locs : List Loc) (ls : Array Slot), f_Tb_leastLength_3 K G k y_1 y_2 y_3 y_4 S = some (r, S') → va_P (dC, dI) classes (wV M Y G S) H → va_D A (wV M Y G S) → va_S A s.heap H locs → lv_has ls 5 [(0, .ref M.o_Tb), (1, .int y_1), (2, .int y_2), (3, .int y_3), (4, .int y_4)] → W p l e ({ frames := 1, cells := 0, slots := 0, locals := 24 }) s m ([.ref M.o_Tb, .int p0, .int p1, .int p2] : List Value).toArray below meth c H locs 0 0 Q (F0 m 3 ls []) := by
    intro k
    induction k with
    | zero => intro y_1 y_2 y_3 y_4 S H locs ls h; exact lf_no h
    | succ k hr_3 =>
      intro y_1 y_2 y_3 y_4 S H locs ls h hP hD hS hl
      rw [f_Tb_leastLength_3] at h
      refine lv_iload hx hb d_Tb_leastLength_3 (lv_at hl 4 rfl) ?_
      refine lv_bipush (v := 32) hx hb d_Tb_leastLength_5 (by decide) ?_
      refine lv_icmp_gt (tgt := 47) hx hb d_Tb_leastLength_7 (by decide) (fun c_1 => ?_) (fun c_1 => ?_)
      · have h := lf_t h c_1
        refine lv_iconst (v := (-1)) hx hb d_Tb_leastLength_47 (by decide) ?_
        rw [hQ]
        have e1 : ((-1)) = r := congrArg Prod.fst (Option.some.inj h)
        have e2 : S = S' := congrArg Prod.snd (Option.some.inj h)
        have hP := ly_newP e2.symm hP
        have hD := ly_newD e2.symm hD
        exact W.iret (v := ((-1))) hx hb hr (fun t ht hW => ⟨⟨((-1)), (), rfl, e1, by rw [ht]; exact hP, va_K.moved hW.alike hK, hD⟩, hS.F ht⟩) hS.2.2 d_Tb_leastLength_48
      · have h := lf_f h c_1
        refine lv_iload_n hx hb d_Tb_leastLength_10 rfl (lv_at hl 1 rfl) ?_
        refine lv_iload_n hx hb d_Tb_leastLength_11 rfl (lv_at hl 2 rfl) ?_
        refine lv_iload_n hx hb d_Tb_leastLength_12 rfl (lv_at hl 3 rfl) ?_
        refine lv_iload hx hb d_Tb_leastLength_13 (lv_at hl 4 rfl) ?_
        obtain ⟨r_2, hc_2, h⟩ := lf_bE h
        have hFc := lx_free0 hS hA
        refine va_calli (va_runS (As := [.int y_1, .int y_2, .int y_3, .int y_4]) (rest := []) ⟨hx, hb, hml, hown, hts⟩ (l_Tb_numbersFit l dC dI  _ hc_2) (va_cwS 4 hts (gwS good_Vq (u_Vq_Tb _ k_Tb_29) (u_Vq_Tb _ k_Tb_30) (u_Vq_Tb _ k_Tb_0) (wcs (u_Vq_Tb _ k_Tb_31) (fun _ h => h))) rfl rfl rfl (by decide +kernel) ⟨Nat.le_of_ble_eq_true rfl, Nat.le_of_ble_eq_true rfl⟩) (ps_of (W := []) (tys := []) (hP.sub (ws' := []) [] rfl) (hK.sub [] rfl) (hD.sub (ws' := []) [] (by decide) rfl)) rfl rfl hl.1 rfl (lv_room (Nat.le_of_ble_eq_true rfl)) d_Tb_leastLength_15 ⟨by decide, by decide⟩) hS (fun q _ h => hFc q h) hFc (fun r_ u t H locs ht hvm hw hB hz1 hk1 hS => ?_)
        rw [hw]
        have hP := lx_stat (A := A) hP hk1
        refine lv_if_eq (tgt := 41) hx hb d_Tb_leastLength_18 (by decide) (fun c_3 => ?_) (fun c_3 => ?_)
        · have h := lf_t h c_3
          exact hB_41 _ hr_3 y_1 y_2 y_3 y_4 S _ _ _ h hP hD hS (lv_sub hl [0, 1, 2, 3, 4] rfl)
        · have h := lf_f h c_3
          refine lv_aload_n hx hb d_Tb_leastLength_21 rfl (lv_at hl 0 rfl) ?_
          refine lv_iload_n hx hb d_Tb_leastLength_22 rfl (lv_at hl 1 rfl) ?_
          refine lv_iload_n hx hb d_Tb_leastLength_23 rfl (lv_at hl 2 rfl) ?_
          refine lv_iload_n hx hb d_Tb_leastLength_24 rfl (lv_at hl 3 rfl) ?_
          refine lv_iload hx hb d_Tb_leastLength_25 (lv_at hl 4 rfl) ?_
          obtain ⟨r_4, S_4, hc_4, h⟩ := lf_cE h
          have hFc := lx_free hD hS hA
          refine va_calli (va_runV (As := [.int y_1, .int y_2, .int y_3, .int y_4]) (rest := []) ⟨hx, hb, hml, hown, hts⟩ (l_Tb_clustersWith l dC dI X _ hc_4) (cwV 4 hts (gwV good_Vq (u_Vq_Tb _ k_Tb_32) (u_Vq_Tb _ k_Tb_33) (u_Vq_Tb _ k_Tb_109) (u_Vq_Tb _ k_Tb_0) (wcs (u_Vq_Tb _ k_Tb_34) (fun _ h => h))) rfl rfl rfl (by decide +kernel) ⟨Nat.le_of_ble_eq_true rfl, Nat.le_of_ble_eq_true rfl⟩) (pv_ofE (X.same _) (fun U z1 z2 => X.mono _ _ U hFc (hEw _ _ hS U z1 z2)) hP hK hD (va_recv hK hP (ci := 4) (q0 := 3) rfl rfl)) rfl rfl hl.1 rfl (lv_room (Nat.le_of_ble_eq_true rfl)) d_Tb_leastLength_27 ⟨by decide, by decide⟩) hS (fun q _ h => hFc q h) hFc (fun r_ u t H locs ht hvm hw hB hz1 hk1 hS => ?_)
          rw [hw]
          obtain ⟨hP, -, hD⟩ := hB
          rw [ht] at hP
          have hD := lx_dj hD hFc
          refine lv_iload hx hb d_Tb_leastLength_30 (lv_at hl 4 rfl) ?_
          obtain ⟨r_5, hc_5, h⟩ := lf_bE h
          have hFc := lx_free0 hS hA
          refine va_calli (va_runS (As := [.int r_4, .int y_4]) (rest := []) ⟨hx, hb, hml, hown, hts⟩ (l_Tb_isEnough l dC dI  _ hc_5) (va_cwS 2 hts (gwS good_Vq (u_Vq_Tb _ k_Tb_35) (u_Vq_Tb _ k_Tb_36) (u_Vq_Tb _ k_Tb_0) (wcs (u_Vq_Tb _ k_Tb_37) (fun _ h => h))) rfl rfl rfl (by decide +kernel) ⟨Nat.le_of_ble_eq_true rfl, Nat.le_of_ble_eq_true rfl⟩) (ps_of (W := []) (tys := []) (hP.sub (ws' := []) [] rfl) (hK.sub [] rfl) (hD.sub (ws' := []) [] (by decide) rfl)) rfl rfl hl.1 rfl (lv_room (Nat.le_of_ble_eq_true rfl)) d_Tb_leastLength_32 ⟨by decide, by decide⟩) hS (fun q _ h => hFc q h) hFc (fun r_ u t H locs ht hvm hw hB hz1 hk1 hS => ?_)
          rw [hw]
          have hP := lx_stat (A := A) hP hk1
          refine lv_if_eq (tgt := 41) hx hb d_Tb_leastLength_35 (by decide) (fun c_6 => ?_) (fun c_6 => ?_)
          · have h := lf_t h c_6
            exact hB_41 _ hr_3 y_1 y_2 y_3 y_4 S_4 _ _ _ h hP hD hS (lv_sub hl [0, 1, 2, 3, 4] rfl)
          · have h := lf_f h c_6
            refine lv_iload hx hb d_Tb_leastLength_38 (lv_at hl 4 rfl) ?_
            rw [hQ]
            have e1 : y_4 = r := congrArg Prod.fst (Option.some.inj h)
            have e2 : S_4 = S' := congrArg Prod.snd (Option.some.inj h)
            have hP := ly_newP e2.symm hP
            have hD := ly_newD e2.symm hD
            exact W.iret (v := y_4) hx hb hr (fun t ht hW => ⟨⟨y_4, (), rfl, e1, by rw [ht]; exact hP, va_K.moved hW.alike hK, hD⟩, hS.F ht⟩) hS.2.2 d_Tb_leastLength_40
  rw [f_Tb_leastLength] at h
  refine lv_iconst (v := 1) hx hb d_Tb_leastLength_0 (by decide) ?_
  refine lv_istore (lv' := [(4, .int 1), (0, .ref M.o_Tb), (1, .int p0), (2, .int p1), (3, .int p2)]) hx hb d_Tb_leastLength_1 hl (by decide) rfl (fun ls hl => ?_)
  exact hB_3 K p0 p1 p2 1 S _ _ _ h hP hD hS (lv_sub hl [1, 2, 3, 4, 0] rfl)
set_option maxHeartbeats 4000000 in
set_option maxRecDepth 100000 in
theorem l_Tb_writeFirstSectors (l : Launch) (dC : Nat → ClassId) (dI : Nat → Nat → Nat) {K : Nat} {M : CA} {E : (Nat → Prop) → State → Prop} (X : ly_X l dC dI K M E) (sz : Nat) {Y : CT} {G : CG} {S S' : CS} {p0 : Int32} {p1 : Int32} {p2 : Int32} {p3 : Int32} {p4 : Int32} (h : f_Tb_writeFirstSectors K G S p0 p1 p2 p3 p4 = some S') : Met l y_Tb_writeFirstSectors (.code y_Tb_writeFirstSectors cb_Tb_writeFirstSectors 8 none :: V_Vq) ({ frames := 1, cells := 0, slots := 0, locals := 22 }) (va_Pc [.ref M.o_Tb, .int p0, .int p1, .int p2, .int p3, .int p4] (fun U => U.heap.size = sz ∧ at_ (dC, dI) (fun _ => True) (wV M Y G S) (tV M) U ∧ E (va_A (wV M Y G S) sz) U)) (va_Qv (fun (u : Unit) => True) (fun (u : Unit) t => at_ (dC, dI) (va_A (wV M Y G S) sz) (wV M Y G S') (tV M) t) (va_A (wV M Y G S) sz)) 0 0 (va_A (wV M Y G S) sz) := by
  refine Met.ofW (cc := cb_Tb_writeFirstSectors) (maxL := 8) (ret := none) (by decide) rfl ?_
  intro p e s m args below meth c s₁ B hml hv
  obtain ⟨rfl, hsz, ⟨hP, hK, hD0⟩, hE⟩ := hv
  have hx := B.exec
  have hb := B.bytes
  have hr := B.returns
  have hts0 := atoms_spec (ws := .code y_Tb_writeFirstSectors cb_Tb_writeFirstSectors 8 none :: V_Vq) B.pre
  have hts : ∀ w ∈ V_Vq, w.before ([.ref M.o_Tb, .int p0, .int p1, .int p2, .int p3, .int p4] : List Value).toArray s = true := fun w h => hts0 w (List.mem_cons_of_mem _ h)
  have hown : s.vm.findClass R_Tb = some m.cls := findClass_of_methodNamed B.named
  subst hsz
  have hD := hD0.self (sz := s.heap.size)
  generalize hAe : va_A (wV M Y G S) s.heap.size = A at hD hE ⊢
  have hA : ∀ q : Nat, s.heap.size ≤ q → A q := fun q h => by rw [← hAe]; exact Or.inr h
  have hS : va_S A s.heap s.heap [] := va_S.rf
  have hP : va_P (dC, dI) classes (wV M Y G S) s.heap := hP
  have hK : va_K (dC, dI) classes (tV M) s := hK
  have hEw : ∀ (H : Heap) (locs : List Loc), va_S A s.heap H locs → ∀ U : State, U.heap = H → s.WarmedH U.vm → E A U := fun H locs hS U hU hW => X.kept A s U H locs hE hS hU hW
  have hl := lv_entry ([.ref M.o_Tb, .int p0, .int p1, .int p2, .int p3, .int p4]) (n := 8) (Nat.le_of_ble_eq_true rfl)
  rw [lg_entry_eq]
  generalize (lg_sl ([.ref M.o_Tb, .int p0, .int p1, .int p2, .int p3, .int p4]) ++ List.replicate (8 - (lg_sl ([.ref M.o_Tb, .int p0, .int p1, .int p2, .int p3, .int p4])).length) Slot.unset).toArray = ls at hl ⊢
  have hl : lv_has ls 8 [(0, .ref M.o_Tb), (1, .int p0), (2, .int p1), (3, .int p2), (4, .int p3), (5, .int p4)] := hl
  refine qabs (fun Q hQ => ?_)
  have hB_14 : ∀ (rec_3 : Int32 → Int32 → Int32 → Int32 → Int32 → Int32 → CS → Option (CS)) (hr_3 : ∀ (y_1 : Int32) (y_2 : Int32) (y_3 : Int32) (y_4 : Int32) (y_5 : Int32) (y_6 : Int32) (S : CS) (H : Heap) (locs : List Loc) (ls : Array Slot), rec_3 y_1 y_2 y_3 y_4 y_5 y_6 S = some S' → va_P (dC, dI) classes (wV M Y G S) H → va_D A (wV M Y G S) → va_S A s.heap H locs → lv_has ls 8 [(0, .ref M.o_Tb), (1, .int y_1), (2, .int y_2), (3, .int y_3), (4, .int y_4), (5, .int y_5), (6, .int y_6)] → W p l e ({ frames := 1, cells := 0, slots := 0, locals := 22 }) s m ([.ref M.o_Tb, .int p0, .int p1, .int p2, .int p3, .int p4] : List Value).toArray below meth c H locs 0 0 Q (F0 m 3 ls [])) (k : Nat), ∀ (y_1 : Int32) (y_2 : Int32) (y_3 : Int32) (y_4 : Int32) (y_5 : Int32) (y_6 : Int32) (y_7 : Int32) (S : CS) (H : Heap) (locs : List Loc) (ls : Array Slot), f_Tb_writeFirstSectors_14 K G rec_3 k y_1 y_2 y_3 y_4 y_5 y_6 y_7 S = some S' → va_P (dC, dI) classes (wV M Y G S) H → va_D A (wV M Y G S) → va_S A s.heap H locs → lv_has ls 8 [(0, .ref M.o_Tb), (1, .int y_1), (2, .int y_2), (3, .int y_3), (4, .int y_4), (5, .int y_5), (6, .int y_6), (7, .int y_7)] → W p l e ({ frames := 1, cells := 0, slots := 0, locals := 22 }) s m ([.ref M.o_Tb, .int p0, .int p1, .int p2, .int p3, .int p4] : List Value).toArray below meth c H locs 0 0 Q (F0 m 14 ls []) := by
    intro rec_3 hr_3 k
    induction k with
    | zero => intro y_1 y_2 y_3 y_4 y_5 y_6 y_7 S H locs ls h; exact lf_no h
    | succ k hr_14 =>
      intro y_1 y_2 y_3 y_4 y_5 y_6 y_7 S H locs ls h hP hD hS hl
      rw [f_Tb_writeFirstSectors_14] at h
      refine lv_iload hx hb d_Tb_writeFirstSectors_14 (lv_at hl 7 rfl) ?_
      refine lv_bipush (v := 11) hx hb d_Tb_writeFirstSectors_16 (by decide) ?_
      refine lv_icmp_ge (tgt := 41) hx hb d_Tb_writeFirstSectors_18 (by decide) (fun c_7 => ?_) (fun c_7 => ?_)
      · have h := lf_t h c_7
        refine lv_aload_n hx hb d_Tb_writeFirstSectors_41 rfl (lv_at hl 0 rfl) ?_
        refine va_get (D := (dC, dI)) (ci := 4) (v := .ref M.o_Dk) (C := R_Tb) (T := F_Tb) (N := 10) hx hb hts (fun w h => u_Vq_Tb w (i_Tb w h)) hown hK hP 3 rfl rfl 0 (by decide) (hts _ (u_Vq_Tb _ k_Tb_6)) (fun _ h9 => h9) rfl d_Tb_writeFirstSectors_42 ?_
        refine lv_iload hx hb d_Tb_writeFirstSectors_45 (lv_at hl 6 rfl) ?_
        refine lv_bipush (v := 11) hx hb d_Tb_writeFirstSectors_47 (by decide) ?_
        refine lv_iadd hx hb d_Tb_writeFirstSectors_49 ?_
        refine lv_sipush (v := 512) hx hb d_Tb_writeFirstSectors_50 (by decide) ?_
        obtain ⟨S_8, hc_8, h⟩ := lf_bE h
        have hFc := lx_free hD hS hA
        refine va_callv (va_runV (As := [.int (y_6 + 11), .int 512]) (rest := []) ⟨hx, hb, hml, hown, hts⟩ (l_Dk_putTwo l dC dI X _ hc_8) (cwV 2 hts (gwV good_Vq (u_Vq_Tb _ k_Tb_83) (u_Vq_Dk _ k_Dk_27) (u_Vq_Dk _ k_Dk_28) (u_Vq_Dk _ k_Dk_0) (wcs (u_Vq_Dk _ k_Dk_29) (fun _ h => h))) rfl rfl rfl (by decide +kernel) ⟨Nat.le_of_ble_eq_true rfl, Nat.le_of_ble_eq_true rfl⟩) (pv_ofE (X.same _) (fun U z1 z2 => X.mono _ _ U hFc (hEw _ _ hS U z1 z2)) hP hK hD (va_recv hK hP (ci := 0) (q0 := 1) rfl rfl)) rfl rfl hl.1 rfl (lv_room (Nat.le_of_ble_eq_true rfl)) d_Tb_writeFirstSectors_53 ⟨by decide, by decide⟩) hS (fun q _ h => hFc q h) hFc (fun u t H locs ht hvm hw hB hz1 hk1 hS => ?_)
        obtain ⟨hP, -, hD⟩ := hB
        rw [ht] at hP
        have hD := lx_dj hD hFc
        refine lv_aload_n hx hb d_Tb_writeFirstSectors_56 rfl (lv_at hl 0 rfl) ?_
        refine va_get (D := (dC, dI)) (ci := 4) (v := .ref M.o_Dk) (C := R_Tb) (T := F_Tb) (N := 10) hx hb hts (fun w h => u_Vq_Tb w (i_Tb w h)) hown hK hP 3 rfl rfl 0 (by decide) (hts _ (u_Vq_Tb _ k_Tb_6)) (fun _ h9 => h9) rfl d_Tb_writeFirstSectors_57 ?_
        refine lv_iload hx hb d_Tb_writeFirstSectors_60 (lv_at hl 6 rfl) ?_
        refine lv_bipush (v := 13) hx hb d_Tb_writeFirstSectors_62 (by decide) ?_
        refine lv_iadd hx hb d_Tb_writeFirstSectors_64 ?_
        refine lv_iload_n hx hb d_Tb_writeFirstSectors_65 rfl (lv_at hl 1 rfl) ?_
        obtain ⟨S_9, hc_9, h⟩ := lf_bE h
        have hFc := lx_free hD hS hA
        refine va_callv (va_runV (As := [.int (y_6 + 13), .int y_1]) (rest := []) ⟨hx, hb, hml, hown, hts⟩ (l_Dk_putOne l dC dI X _ hc_9) (cwV 2 hts (gwV good_Vq (u_Vq_Tb _ k_Tb_82) (u_Vq_Dk _ k_Dk_11) (u_Vq_Dk _ k_Dk_12) (u_Vq_Dk _ k_Dk_0) (wcs (u_Vq_Dk _ k_Dk_13) (fun _ h => h))) rfl rfl rfl (by decide +kernel) ⟨Nat.le_of_ble_eq_true rfl, Nat.le_of_ble_eq_true rfl⟩) (pv_ofE (X.same _) (fun U z1 z2 => X.mono _ _ U hFc (hEw _ _ hS U z1 z2)) hP hK hD (va_recv hK hP (ci := 0) (q0 := 1) rfl rfl)) rfl rfl hl.1 rfl (lv_room (Nat.le_of_ble_eq_true rfl)) d_Tb_writeFirstSectors_66 ⟨by decide, by decide⟩) hS (fun q _ h => hFc q h) hFc (fun u t H locs ht hvm hw hB hz1 hk1 hS => ?_)
        obtain ⟨hP, -, hD⟩ := hB
        rw [ht] at hP
        have hD := lx_dj hD hFc
        refine lv_aload_n hx hb d_Tb_writeFirstSectors_69 rfl (lv_at hl 0 rfl) ?_
        refine va_get (D := (dC, dI)) (ci := 4) (v := .ref M.o_Dk) (C := R_Tb) (T := F_Tb) (N := 10) hx hb hts (fun w h => u_Vq_Tb w (i_Tb w h)) hown hK hP 3 rfl rfl 0 (by decide) (hts _ (u_Vq_Tb _ k_Tb_6)) (fun _ h9 => h9) rfl d_Tb_writeFirstSectors_70 ?_
        refine lv_iload hx hb d_Tb_writeFirstSectors_73 (lv_at hl 6 rfl) ?_
        refine lv_bipush (v := 14) hx hb d_Tb_writeFirstSectors_75 (by decide) ?_
        refine lv_iadd hx hb d_Tb_writeFirstSectors_77 ?_
        refine lv_iload_n hx hb d_Tb_writeFirstSectors_78 rfl (lv_at hl 2 rfl) ?_
        obtain ⟨S_10, hc_10, h⟩ := lf_bE h
        have hFc := lx_free hD hS hA
        refine va_callv (va_runV (As := [.int (y_6 + 14), .int y_2]) (rest := []) ⟨hx, hb, hml, hown, hts⟩ (l_Dk_putTwo l dC dI X _ hc_10) (cwV 2 hts (gwV good_Vq (u_Vq_Tb _ k_Tb_83) (u_Vq_Dk _ k_Dk_27) (u_Vq_Dk _ k_Dk_28) (u_Vq_Dk _ k_Dk_0) (wcs (u_Vq_Dk _ k_Dk_29) (fun _ h => h))) rfl rfl rfl (by decide +kernel) ⟨Nat.le_of_ble_eq_true rfl, Nat.le_of_ble_eq_true rfl⟩) (pv_ofE (X.same _) (fun U z1 z2 => X.mono _ _ U hFc (hEw _ _ hS U z1 z2)) hP hK hD (va_recv hK hP (ci := 0) (q0 := 1) rfl rfl)) rfl rfl hl.1 rfl (lv_room (Nat.le_of_ble_eq_true rfl)) d_Tb_writeFirstSectors_79 ⟨by decide, by decide⟩) hS (fun q _ h => hFc q h) hFc (fun u t H locs ht hvm hw hB hz1 hk1 hS => ?_)
        obtain ⟨hP, -, hD⟩ := hB
        rw [ht] at hP
        have hD := lx_dj hD hFc
        refine lv_aload_n hx hb d_Tb_writeFirstSectors_82 rfl (lv_at hl 0 rfl) ?_
        refine va_get (D := (dC, dI)) (ci := 4) (v := .ref M.o_Dk) (C := R_Tb) (T := F_Tb) (N := 10) hx hb hts (fun w h => u_Vq_Tb w (i_Tb w h)) hown hK hP 3 rfl rfl 0 (by decide) (hts _ (u_Vq_Tb _ k_Tb_6)) (fun _ h9 => h9) rfl d_Tb_writeFirstSectors_83 ?_
        refine lv_iload hx hb d_Tb_writeFirstSectors_86 (lv_at hl 6 rfl) ?_
        refine lv_bipush (v := 16) hx hb d_Tb_writeFirstSectors_88 (by decide) ?_
        refine lv_iadd hx hb d_Tb_writeFirstSectors_90 ?_
        refine lv_iload_n hx hb d_Tb_writeFirstSectors_91 rfl (lv_at hl 3 rfl) ?_
        obtain ⟨S_11, hc_11, h⟩ := lf_bE h
        have hFc := lx_free hD hS hA
        refine va_callv (va_runV (As := [.int (y_6 + 16), .int y_3]) (rest := []) ⟨hx, hb, hml, hown, hts⟩ (l_Dk_putOne l dC dI X _ hc_11) (cwV 2 hts (gwV good_Vq (u_Vq_Tb _ k_Tb_82) (u_Vq_Dk _ k_Dk_11) (u_Vq_Dk _ k_Dk_12) (u_Vq_Dk _ k_Dk_0) (wcs (u_Vq_Dk _ k_Dk_13) (fun _ h => h))) rfl rfl rfl (by decide +kernel) ⟨Nat.le_of_ble_eq_true rfl, Nat.le_of_ble_eq_true rfl⟩) (pv_ofE (X.same _) (fun U z1 z2 => X.mono _ _ U hFc (hEw _ _ hS U z1 z2)) hP hK hD (va_recv hK hP (ci := 0) (q0 := 1) rfl rfl)) rfl rfl hl.1 rfl (lv_room (Nat.le_of_ble_eq_true rfl)) d_Tb_writeFirstSectors_92 ⟨by decide, by decide⟩) hS (fun q _ h => hFc q h) hFc (fun u t H locs ht hvm hw hB hz1 hk1 hS => ?_)
        obtain ⟨hP, -, hD⟩ := hB
        rw [ht] at hP
        have hD := lx_dj hD hFc
        refine lv_aload_n hx hb d_Tb_writeFirstSectors_95 rfl (lv_at hl 0 rfl) ?_
        refine va_get (D := (dC, dI)) (ci := 4) (v := .ref M.o_Dk) (C := R_Tb) (T := F_Tb) (N := 10) hx hb hts (fun w h => u_Vq_Tb w (i_Tb w h)) hown hK hP 3 rfl rfl 0 (by decide) (hts _ (u_Vq_Tb _ k_Tb_6)) (fun _ h9 => h9) rfl d_Tb_writeFirstSectors_96 ?_
        refine lv_iload hx hb d_Tb_writeFirstSectors_99 (lv_at hl 6 rfl) ?_
        refine lv_bipush (v := 32) hx hb d_Tb_writeFirstSectors_101 (by decide) ?_
        refine lv_iadd hx hb d_Tb_writeFirstSectors_103 ?_
        refine lv_aload_n hx hb d_Tb_writeFirstSectors_104 rfl (lv_at hl 0 rfl) ?_
        refine va_get (D := (dC, dI)) (ci := 4) (v := .ref M.o_Dk) (C := R_Tb) (T := F_Tb) (N := 10) hx hb hts (fun w h => u_Vq_Tb w (i_Tb w h)) hown hK hP 3 rfl rfl 0 (by decide) (hts _ (u_Vq_Tb _ k_Tb_6)) (fun _ h9 => h9) rfl d_Tb_writeFirstSectors_105 ?_
        refine va_get (D := (dC, dI)) (ci := 0) (v := .int S_11.v_Dk_sectors) (C := R_Dk) (T := F_Dk) (N := 3) hx hb hts (fun w h => u_Vq_Dk w (i_Dk w h)) hown hK hP 1 rfl rfl 0 (by decide) (hts _ (u_Vq_Tb _ k_Tb_1)) (fun _ h9 => h9) rfl d_Tb_writeFirstSectors_108 ?_
        obtain ⟨S_12, hc_12, h⟩ := lf_bE h
        have hFc := lx_free hD hS hA
        refine va_callv (va_runV (As := [.int (y_6 + 32), .int S_11.v_Dk_sectors]) (rest := []) ⟨hx, hb, hml, hown, hts⟩ (l_Dk_putFour l dC dI X _ hc_12) (cwV 2 hts (gwV good_Vq (u_Vq_Tb _ k_Tb_84) (u_Vq_Dk _ k_Dk_30) (u_Vq_Dk _ k_Dk_31) (u_Vq_Dk _ k_Dk_0) (wcs (u_Vq_Dk _ k_Dk_32) (fun _ h => h))) rfl rfl rfl (by decide +kernel) ⟨Nat.le_of_ble_eq_true rfl, Nat.le_of_ble_eq_true rfl⟩) (pv_ofE (X.same _) (fun U z1 z2 => X.mono _ _ U hFc (hEw _ _ hS U z1 z2)) hP hK hD (va_recv hK hP (ci := 0) (q0 := 1) rfl rfl)) rfl rfl hl.1 rfl (lv_room (Nat.le_of_ble_eq_true rfl)) d_Tb_writeFirstSectors_111 ⟨by decide, by decide⟩) hS (fun q _ h => hFc q h) hFc (fun u t H locs ht hvm hw hB hz1 hk1 hS => ?_)
        obtain ⟨hP, -, hD⟩ := hB
        rw [ht] at hP
        have hD := lx_dj hD hFc
        refine lv_aload_n hx hb d_Tb_writeFirstSectors_114 rfl (lv_at hl 0 rfl) ?_
        refine va_get (D := (dC, dI)) (ci := 4) (v := .ref M.o_Dk) (C := R_Tb) (T := F_Tb) (N := 10) hx hb hts (fun w h => u_Vq_Tb w (i_Tb w h)) hown hK hP 3 rfl rfl 0 (by decide) (hts _ (u_Vq_Tb _ k_Tb_6)) (fun _ h9 => h9) rfl d_Tb_writeFirstSectors_115 ?_
        refine lv_iload hx hb d_Tb_writeFirstSectors_118 (lv_at hl 6 rfl) ?_
        refine lv_bipush (v := 36) hx hb d_Tb_writeFirstSectors_120 (by decide) ?_
        refine lv_iadd hx hb d_Tb_writeFirstSectors_122 ?_
        refine lv_iload hx hb d_Tb_writeFirstSectors_123 (lv_at hl 4 rfl) ?_
        obtain ⟨S_13, hc_13, h⟩ := lf_bE h
        have hFc := lx_free hD hS hA
        refine va_callv (va_runV (As := [.int (y_6 + 36), .int y_4]) (rest := []) ⟨hx, hb, hml, hown, hts⟩ (l_Dk_putFour l dC dI X _ hc_13) (cwV 2 hts (gwV good_Vq (u_Vq_Tb _ k_Tb_84) (u_Vq_Dk _ k_Dk_30) (u_Vq_Dk _ k_Dk_31) (u_Vq_Dk _ k_Dk_0) (wcs (u_Vq_Dk _ k_Dk_32) (fun _ h => h))) rfl rfl rfl (by decide +kernel) ⟨Nat.le_of_ble_eq_true rfl, Nat.le_of_ble_eq_true rfl⟩) (pv_ofE (X.same _) (fun U z1 z2 => X.mono _ _ U hFc (hEw _ _ hS U z1 z2)) hP hK hD (va_recv hK hP (ci := 0) (q0 := 1) rfl rfl)) rfl rfl hl.1 rfl (lv_room (Nat.le_of_ble_eq_true rfl)) d_Tb_writeFirstSectors_125 ⟨by decide, by decide⟩) hS (fun q _ h => hFc q h) hFc (fun u t H locs ht hvm hw hB hz1 hk1 hS => ?_)
        obtain ⟨hP, -, hD⟩ := hB
        rw [ht] at hP
        have hD := lx_dj hD hFc
        refine lv_aload_n hx hb d_Tb_writeFirstSectors_128 rfl (lv_at hl 0 rfl) ?_
        refine va_get (D := (dC, dI)) (ci := 4) (v := .ref M.o_Dk) (C := R_Tb) (T := F_Tb) (N := 10) hx hb hts (fun w h => u_Vq_Tb w (i_Tb w h)) hown hK hP 3 rfl rfl 0 (by decide) (hts _ (u_Vq_Tb _ k_Tb_6)) (fun _ h9 => h9) rfl d_Tb_writeFirstSectors_129 ?_
        refine lv_iload hx hb d_Tb_writeFirstSectors_132 (lv_at hl 6 rfl) ?_
        refine lv_bipush (v := 44) hx hb d_Tb_writeFirstSectors_134 (by decide) ?_
        refine lv_iadd hx hb d_Tb_writeFirstSectors_136 ?_
        refine lv_iconst (v := 2) hx hb d_Tb_writeFirstSectors_137 (by decide) ?_
        obtain ⟨S_14, hc_14, h⟩ := lf_bE h
        have hFc := lx_free hD hS hA
        refine va_callv (va_runV (As := [.int (y_6 + 44), .int 2]) (rest := []) ⟨hx, hb, hml, hown, hts⟩ (l_Dk_putFour l dC dI X _ hc_14) (cwV 2 hts (gwV good_Vq (u_Vq_Tb _ k_Tb_84) (u_Vq_Dk _ k_Dk_30) (u_Vq_Dk _ k_Dk_31) (u_Vq_Dk _ k_Dk_0) (wcs (u_Vq_Dk _ k_Dk_32) (fun _ h => h))) rfl rfl rfl (by decide +kernel) ⟨Nat.le_of_ble_eq_true rfl, Nat.le_of_ble_eq_true rfl⟩) (pv_ofE (X.same _) (fun U z1 z2 => X.mono _ _ U hFc (hEw _ _ hS U z1 z2)) hP hK hD (va_recv hK hP (ci := 0) (q0 := 1) rfl rfl)) rfl rfl hl.1 rfl (lv_room (Nat.le_of_ble_eq_true rfl)) d_Tb_writeFirstSectors_138 ⟨by decide, by decide⟩) hS (fun q _ h => hFc q h) hFc (fun u t H locs ht hvm hw hB hz1 hk1 hS => ?_)
        obtain ⟨hP, -, hD⟩ := hB
        rw [ht] at hP
        have hD := lx_dj hD hFc
        refine lv_aload_n hx hb d_Tb_writeFirstSectors_141 rfl (lv_at hl 0 rfl) ?_
        refine va_get (D := (dC, dI)) (ci := 4) (v := .ref M.o_Dk) (C := R_Tb) (T := F_Tb) (N := 10) hx hb hts (fun w h => u_Vq_Tb w (i_Tb w h)) hown hK hP 3 rfl rfl 0 (by decide) (hts _ (u_Vq_Tb _ k_Tb_6)) (fun _ h9 => h9) rfl d_Tb_writeFirstSectors_142 ?_
        refine lv_iload hx hb d_Tb_writeFirstSectors_145 (lv_at hl 6 rfl) ?_
        refine lv_bipush (v := 48) hx hb d_Tb_writeFirstSectors_147 (by decide) ?_
        refine lv_iadd hx hb d_Tb_writeFirstSectors_149 ?_
        refine lv_iconst (v := 1) hx hb d_Tb_writeFirstSectors_150 (by decide) ?_
        obtain ⟨S_15, hc_15, h⟩ := lf_bE h
        have hFc := lx_free hD hS hA
        refine va_callv (va_runV (As := [.int (y_6 + 48), .int 1]) (rest := []) ⟨hx, hb, hml, hown, hts⟩ (l_Dk_putTwo l dC dI X _ hc_15) (cwV 2 hts (gwV good_Vq (u_Vq_Tb _ k_Tb_83) (u_Vq_Dk _ k_Dk_27) (u_Vq_Dk _ k_Dk_28) (u_Vq_Dk _ k_Dk_0) (wcs (u_Vq_Dk _ k_Dk_29) (fun _ h => h))) rfl rfl rfl (by decide +kernel) ⟨Nat.le_of_ble_eq_true rfl, Nat.le_of_ble_eq_true rfl⟩) (pv_ofE (X.same _) (fun U z1 z2 => X.mono _ _ U hFc (hEw _ _ hS U z1 z2)) hP hK hD (va_recv hK hP (ci := 0) (q0 := 1) rfl rfl)) rfl rfl hl.1 rfl (lv_room (Nat.le_of_ble_eq_true rfl)) d_Tb_writeFirstSectors_151 ⟨by decide, by decide⟩) hS (fun q _ h => hFc q h) hFc (fun u t H locs ht hvm hw hB hz1 hk1 hS => ?_)
        obtain ⟨hP, -, hD⟩ := hB
        rw [ht] at hP
        have hD := lx_dj hD hFc
        refine lv_aload_n hx hb d_Tb_writeFirstSectors_154 rfl (lv_at hl 0 rfl) ?_
        refine va_get (D := (dC, dI)) (ci := 4) (v := .ref M.o_Dk) (C := R_Tb) (T := F_Tb) (N := 10) hx hb hts (fun w h => u_Vq_Tb w (i_Tb w h)) hown hK hP 3 rfl rfl 0 (by decide) (hts _ (u_Vq_Tb _ k_Tb_6)) (fun _ h9 => h9) rfl d_Tb_writeFirstSectors_155 ?_
        refine lv_iload hx hb d_Tb_writeFirstSectors_158 (lv_at hl 6 rfl) ?_
        refine lv_bipush (v := 50) hx hb d_Tb_writeFirstSectors_160 (by decide) ?_
        refine lv_iadd hx hb d_Tb_writeFirstSectors_162 ?_
        refine lv_bipush (v := 6) hx hb d_Tb_writeFirstSectors_163 (by decide) ?_
        obtain ⟨S_16, hc_16, h⟩ := lf_bE h
        have hFc := lx_free hD hS hA
        refine va_callv (va_runV (As := [.int (y_6 + 50), .int 6]) (rest := []) ⟨hx, hb, hml, hown, hts⟩ (l_Dk_putTwo l dC dI X _ hc_16) (cwV 2 hts (gwV good_Vq (u_Vq_Tb _ k_Tb_83) (u_Vq_Dk _ k_Dk_27) (u_Vq_Dk _ k_Dk_28) (u_Vq_Dk _ k_Dk_0) (wcs (u_Vq_Dk _ k_Dk_29) (fun _ h => h))) rfl rfl rfl (by decide +kernel) ⟨Nat.le_of_ble_eq_true rfl, Nat.le_of_ble_eq_true rfl⟩) (pv_ofE (X.same _) (fun U z1 z2 => X.mono _ _ U hFc (hEw _ _ hS U z1 z2)) hP hK hD (va_recv hK hP (ci := 0) (q0 := 1) rfl rfl)) rfl rfl hl.1 rfl (lv_room (Nat.le_of_ble_eq_true rfl)) d_Tb_writeFirstSectors_165 ⟨by decide, by decide⟩) hS (fun q _ h => hFc q h) hFc (fun u t H locs ht hvm hw hB hz1 hk1 hS => ?_)
        obtain ⟨hP, -, hD⟩ := hB
        rw [ht] at hP
        have hD := lx_dj hD hFc
        refine lv_aload_n hx hb d_Tb_writeFirstSectors_168 rfl (lv_at hl 0 rfl) ?_
        refine va_get (D := (dC, dI)) (ci := 4) (v := .ref M.o_Dk) (C := R_Tb) (T := F_Tb) (N := 10) hx hb hts (fun w h => u_Vq_Tb w (i_Tb w h)) hown hK hP 3 rfl rfl 0 (by decide) (hts _ (u_Vq_Tb _ k_Tb_6)) (fun _ h9 => h9) rfl d_Tb_writeFirstSectors_169 ?_
        refine lv_iload hx hb d_Tb_writeFirstSectors_172 (lv_at hl 6 rfl) ?_
        refine lv_bipush (v := 67) hx hb d_Tb_writeFirstSectors_174 (by decide) ?_
        refine lv_iadd hx hb d_Tb_writeFirstSectors_176 ?_
        refine lv_iload hx hb d_Tb_writeFirstSectors_177 (lv_at hl 5 rfl) ?_
        obtain ⟨S_17, hc_17, h⟩ := lf_bE h
        have hFc := lx_free hD hS hA
        refine va_callv (va_runV (As := [.int (y_6 + 67), .int y_5]) (rest := []) ⟨hx, hb, hml, hown, hts⟩ (l_Dk_putFour l dC dI X _ hc_17) (cwV 2 hts (gwV good_Vq (u_Vq_Tb _ k_Tb_84) (u_Vq_Dk _ k_Dk_30) (u_Vq_Dk _ k_Dk_31) (u_Vq_Dk _ k_Dk_0) (wcs (u_Vq_Dk _ k_Dk_32) (fun _ h => h))) rfl rfl rfl (by decide +kernel) ⟨Nat.le_of_ble_eq_true rfl, Nat.le_of_ble_eq_true rfl⟩) (pv_ofE (X.same _) (fun U z1 z2 => X.mono _ _ U hFc (hEw _ _ hS U z1 z2)) hP hK hD (va_recv hK hP (ci := 0) (q0 := 1) rfl rfl)) rfl rfl hl.1 rfl (lv_room (Nat.le_of_ble_eq_true rfl)) d_Tb_writeFirstSectors_179 ⟨by decide, by decide⟩) hS (fun q _ h => hFc q h) hFc (fun u t H locs ht hvm hw hB hz1 hk1 hS => ?_)
        obtain ⟨hP, -, hD⟩ := hB
        rw [ht] at hP
        have hD := lx_dj hD hFc
        refine lv_aload_n hx hb d_Tb_writeFirstSectors_182 rfl (lv_at hl 0 rfl) ?_
        refine va_get (D := (dC, dI)) (ci := 4) (v := .ref M.o_Dk) (C := R_Tb) (T := F_Tb) (N := 10) hx hb hts (fun w h => u_Vq_Tb w (i_Tb w h)) hown hK hP 3 rfl rfl 0 (by decide) (hts _ (u_Vq_Tb _ k_Tb_6)) (fun _ h9 => h9) rfl d_Tb_writeFirstSectors_183 ?_
        refine lv_iload hx hb d_Tb_writeFirstSectors_186 (lv_at hl 6 rfl) ?_
        refine lv_sipush (v := 510) hx hb d_Tb_writeFirstSectors_188 (by decide) ?_
        refine lv_iadd hx hb d_Tb_writeFirstSectors_191 ?_
        refine lv_ldc (v := 43605) hx hb hown (hts _ (u_Vq_Tb _ k_Tb_28)) d_Tb_writeFirstSectors_192 ?_
        obtain ⟨S_18, hc_18, h⟩ := lf_bE h
        have hFc := lx_free hD hS hA
        refine va_callv (va_runV (As := [.int (y_6 + 510), .int 43605]) (rest := []) ⟨hx, hb, hml, hown, hts⟩ (l_Dk_putTwo l dC dI X _ hc_18) (cwV 2 hts (gwV good_Vq (u_Vq_Tb _ k_Tb_83) (u_Vq_Dk _ k_Dk_27) (u_Vq_Dk _ k_Dk_28) (u_Vq_Dk _ k_Dk_0) (wcs (u_Vq_Dk _ k_Dk_29) (fun _ h => h))) rfl rfl rfl (by decide +kernel) ⟨Nat.le_of_ble_eq_true rfl, Nat.le_of_ble_eq_true rfl⟩) (pv_ofE (X.same _) (fun U z1 z2 => X.mono _ _ U hFc (hEw _ _ hS U z1 z2)) hP hK hD (va_recv hK hP (ci := 0) (q0 := 1) rfl rfl)) rfl rfl hl.1 rfl (lv_room (Nat.le_of_ble_eq_true rfl)) d_Tb_writeFirstSectors_194 ⟨by decide, by decide⟩) hS (fun q _ h => hFc q h) hFc (fun u t H locs ht hvm hw hB hz1 hk1 hS => ?_)
        obtain ⟨hP, -, hD⟩ := hB
        rw [ht] at hP
        have hD := lx_dj hD hFc
        obtain ⟨x_19, ex_19, h⟩ := lf_lX h
        refine lv_iincW (v := x_19) (lv' := [(6, .int x_19), (0, .ref M.o_Tb), (1, .int y_1), (2, .int y_2), (3, .int y_3), (4, .int y_4), (5, .int y_5), (7, .int y_7)]) hx hb d_Tb_writeFirstSectors_197 hl (k := 6) rfl (by rw [ex_19]; rfl) (by decide) rfl (fun ls hl => ?_)
        refine lv_goto (tgt := 3) hx hb d_Tb_writeFirstSectors_203 (by decide) ?_
        exact hr_3 y_1 y_2 y_3 y_4 y_5 x_19 S_18 _ _ _ h hP hD hS (lv_sub hl [1, 2, 3, 4, 5, 6, 0] rfl)
      · have h := lf_f h c_7
        refine lv_aload_n hx hb d_Tb_writeFirstSectors_21 rfl (lv_at hl 0 rfl) ?_
        refine va_get (D := (dC, dI)) (ci := 4) (v := .ref M.o_Dk) (C := R_Tb) (T := F_Tb) (N := 10) hx hb hts (fun w h => u_Vq_Tb w (i_Tb w h)) hown hK hP 3 rfl rfl 0 (by decide) (hts _ (u_Vq_Tb _ k_Tb_6)) (fun _ h9 => h9) rfl d_Tb_writeFirstSectors_22 ?_
        refine lv_iload hx hb d_Tb_writeFirstSectors_25 (lv_at hl 6 rfl) ?_
        refine lv_iload hx hb d_Tb_writeFirstSectors_27 (lv_at hl 7 rfl) ?_
        refine lv_iadd hx hb d_Tb_writeFirstSectors_29 ?_
        refine lv_bipush (v := 32) hx hb d_Tb_writeFirstSectors_30 (by decide) ?_
        obtain ⟨S_20, hc_20, h⟩ := lf_bE h
        have hFc := lx_free hD hS hA
        refine va_callv (va_runV (As := [.int (y_6 + y_7), .int 32]) (rest := []) ⟨hx, hb, hml, hown, hts⟩ (l_Dk_putOne l dC dI X _ hc_20) (cwV 2 hts (gwV good_Vq (u_Vq_Tb _ k_Tb_82) (u_Vq_Dk _ k_Dk_11) (u_Vq_Dk _ k_Dk_12) (u_Vq_Dk _ k_Dk_0) (wcs (u_Vq_Dk _ k_Dk_13) (fun _ h => h))) rfl rfl rfl (by decide +kernel) ⟨Nat.le_of_ble_eq_true rfl, Nat.le_of_ble_eq_true rfl⟩) (pv_ofE (X.same _) (fun U z1 z2 => X.mono _ _ U hFc (hEw _ _ hS U z1 z2)) hP hK hD (va_recv hK hP (ci := 0) (q0 := 1) rfl rfl)) rfl rfl hl.1 rfl (lv_room (Nat.le_of_ble_eq_true rfl)) d_Tb_writeFirstSectors_32 ⟨by decide, by decide⟩) hS (fun q _ h => hFc q h) hFc (fun u t H locs ht hvm hw hB hz1 hk1 hS => ?_)
        obtain ⟨hP, -, hD⟩ := hB
        rw [ht] at hP
        have hD := lx_dj hD hFc
        obtain ⟨x_21, ex_21, h⟩ := lf_lX h
        refine lv_iinc (v := x_21) (lv' := [(7, .int x_21), (0, .ref M.o_Tb), (1, .int y_1), (2, .int y_2), (3, .int y_3), (4, .int y_4), (5, .int y_5), (6, .int y_6)]) hx hb d_Tb_writeFirstSectors_35 hl (k := 7) rfl (by rw [ex_21]; rfl) (by decide) rfl (fun ls hl => ?_)
        refine lv_goto (tgt := 14) hx hb d_Tb_writeFirstSectors_38 (by decide) ?_
        exact hr_14 y_1 y_2 y_3 y_4 y_5 y_6 x_21 S_20 _ _ _ h hP hD hS (lv_sub hl [1, 2, 3, 4, 5, 6, 7, 0] rfl)
  have hB_3 : ∀ (k : Nat), ∀ (y_1 : Int32) (y_2 : Int32) (y_3 : Int32) (y_4 : Int32) (y_5 : Int32) (y_6 : Int32) (S : CS) (H : Heap) (locs : List Loc) (ls : Array Slot), f_Tb_writeFirstSectors_3 K G k y_1 y_2 y_3 y_4 y_5 y_6 S = some S' → va_P (dC, dI) classes (wV M Y G S) H → va_D A (wV M Y G S) → va_S A s.heap H locs → lv_has ls 8 [(0, .ref M.o_Tb), (1, .int y_1), (2, .int y_2), (3, .int y_3), (4, .int y_4), (5, .int y_5), (6, .int y_6)] → W p l e ({ frames := 1, cells := 0, slots := 0, locals := 22 }) s m ([.ref M.o_Tb, .int p0, .int p1, .int p2, .int p3, .int p4] : List Value).toArray below meth c H locs 0 0 Q (F0 m 3 ls []) := by
    intro k
    induction k with
    | zero => intro y_1 y_2 y_3 y_4 y_5 y_6 S H locs ls h; exact lf_no h
    | succ k hr_3 =>
      intro y_1 y_2 y_3 y_4 y_5 y_6 S H locs ls h hP hD hS hl
      rw [f_Tb_writeFirstSectors_3] at h
      refine lv_iload hx hb d_Tb_writeFirstSectors_3 (lv_at hl 6 rfl) ?_
      refine lv_sipush (v := 3072) hx hb d_Tb_writeFirstSectors_5 (by decide) ?_
      refine lv_icmp_gt (tgt := 206) hx hb d_Tb_writeFirstSectors_8 (by decide) (fun c_1 => ?_) (fun c_1 => ?_)
      · have h := lf_t h c_1
        refine lv_aload_n hx hb d_Tb_writeFirstSectors_206 rfl (lv_at hl 0 rfl) ?_
        refine va_get (D := (dC, dI)) (ci := 4) (v := .ref M.o_Dk) (C := R_Tb) (T := F_Tb) (N := 10) hx hb hts (fun w h => u_Vq_Tb w (i_Tb w h)) hown hK hP 3 rfl rfl 0 (by decide) (hts _ (u_Vq_Tb _ k_Tb_6)) (fun _ h9 => h9) rfl d_Tb_writeFirstSectors_207 ?_
        refine lv_sipush (v := 512) hx hb d_Tb_writeFirstSectors_210 (by decide) ?_
        refine lv_ldc (v := 1096897106) hx hb hown (hts _ (u_Vq_Tb _ k_Tb_85)) d_Tb_writeFirstSectors_213 ?_
        obtain ⟨S_2, hc_2, h⟩ := lf_bE h
        have hFc := lx_free hD hS hA
        refine va_callv (va_runV (As := [.int 512, .int 1096897106]) (rest := []) ⟨hx, hb, hml, hown, hts⟩ (l_Dk_putFour l dC dI X _ hc_2) (cwV 2 hts (gwV good_Vq (u_Vq_Tb _ k_Tb_84) (u_Vq_Dk _ k_Dk_30) (u_Vq_Dk _ k_Dk_31) (u_Vq_Dk _ k_Dk_0) (wcs (u_Vq_Dk _ k_Dk_32) (fun _ h => h))) rfl rfl rfl (by decide +kernel) ⟨Nat.le_of_ble_eq_true rfl, Nat.le_of_ble_eq_true rfl⟩) (pv_ofE (X.same _) (fun U z1 z2 => X.mono _ _ U hFc (hEw _ _ hS U z1 z2)) hP hK hD (va_recv hK hP (ci := 0) (q0 := 1) rfl rfl)) rfl rfl hl.1 rfl (lv_room (Nat.le_of_ble_eq_true rfl)) d_Tb_writeFirstSectors_215 ⟨by decide, by decide⟩) hS (fun q _ h => hFc q h) hFc (fun u t H locs ht hvm hw hB hz1 hk1 hS => ?_)
        obtain ⟨hP, -, hD⟩ := hB
        rw [ht] at hP
        have hD := lx_dj hD hFc
        refine lv_aload_n hx hb d_Tb_writeFirstSectors_218 rfl (lv_at hl 0 rfl) ?_
        refine va_get (D := (dC, dI)) (ci := 4) (v := .ref M.o_Dk) (C := R_Tb) (T := F_Tb) (N := 10) hx hb hts (fun w h => u_Vq_Tb w (i_Tb w h)) hown hK hP 3 rfl rfl 0 (by decide) (hts _ (u_Vq_Tb _ k_Tb_6)) (fun _ h9 => h9) rfl d_Tb_writeFirstSectors_219 ?_
        refine lv_sipush (v := 996) hx hb d_Tb_writeFirstSectors_222 (by decide) ?_
        refine lv_ldc (v := 1631679090) hx hb hown (hts _ (u_Vq_Tb _ k_Tb_86)) d_Tb_writeFirstSectors_225 ?_
        obtain ⟨S_3, hc_3, h⟩ := lf_bE h
        have hFc := lx_free hD hS hA
        refine va_callv (va_runV (As := [.int 996, .int 1631679090]) (rest := []) ⟨hx, hb, hml, hown, hts⟩ (l_Dk_putFour l dC dI X _ hc_3) (cwV 2 hts (gwV good_Vq (u_Vq_Tb _ k_Tb_84) (u_Vq_Dk _ k_Dk_30) (u_Vq_Dk _ k_Dk_31) (u_Vq_Dk _ k_Dk_0) (wcs (u_Vq_Dk _ k_Dk_32) (fun _ h => h))) rfl rfl rfl (by decide +kernel) ⟨Nat.le_of_ble_eq_true rfl, Nat.le_of_ble_eq_true rfl⟩) (pv_ofE (X.same _) (fun U z1 z2 => X.mono _ _ U hFc (hEw _ _ hS U z1 z2)) hP hK hD (va_recv hK hP (ci := 0) (q0 := 1) rfl rfl)) rfl rfl hl.1 rfl (lv_room (Nat.le_of_ble_eq_true rfl)) d_Tb_writeFirstSectors_227 ⟨by decide, by decide⟩) hS (fun q _ h => hFc q h) hFc (fun u t H locs ht hvm hw hB hz1 hk1 hS => ?_)
        obtain ⟨hP, -, hD⟩ := hB
        rw [ht] at hP
        have hD := lx_dj hD hFc
        refine lv_aload_n hx hb d_Tb_writeFirstSectors_230 rfl (lv_at hl 0 rfl) ?_
        refine va_get (D := (dC, dI)) (ci := 4) (v := .ref M.o_Dk) (C := R_Tb) (T := F_Tb) (N := 10) hx hb hts (fun w h => u_Vq_Tb w (i_Tb w h)) hown hK hP 3 rfl rfl 0 (by decide) (hts _ (u_Vq_Tb _ k_Tb_6)) (fun _ h9 => h9) rfl d_Tb_writeFirstSectors_231 ?_
        refine lv_sipush (v := 1000) hx hb d_Tb_writeFirstSectors_234 (by decide) ?_
        refine lv_iconst (v := (-1)) hx hb d_Tb_writeFirstSectors_237 (by decide) ?_
        obtain ⟨S_4, hc_4, h⟩ := lf_bE h
        have hFc := lx_free hD hS hA
        refine va_callv (va_runV (As := [.int 1000, .int ((-1))]) (rest := []) ⟨hx, hb, hml, hown, hts⟩ (l_Dk_putFour l dC dI X _ hc_4) (cwV 2 hts (gwV good_Vq (u_Vq_Tb _ k_Tb_84) (u_Vq_Dk _ k_Dk_30) (u_Vq_Dk _ k_Dk_31) (u_Vq_Dk _ k_Dk_0) (wcs (u_Vq_Dk _ k_Dk_32) (fun _ h => h))) rfl rfl rfl (by decide +kernel) ⟨Nat.le_of_ble_eq_true rfl, Nat.le_of_ble_eq_true rfl⟩) (pv_ofE (X.same _) (fun U z1 z2 => X.mono _ _ U hFc (hEw _ _ hS U z1 z2)) hP hK hD (va_recv hK hP (ci := 0) (q0 := 1) rfl rfl)) rfl rfl hl.1 rfl (lv_room (Nat.le_of_ble_eq_true rfl)) d_Tb_writeFirstSectors_238 ⟨by decide, by decide⟩) hS (fun q _ h => hFc q h) hFc (fun u t H locs ht hvm hw hB hz1 hk1 hS => ?_)
        obtain ⟨hP, -, hD⟩ := hB
        rw [ht] at hP
        have hD := lx_dj hD hFc
        refine lv_aload_n hx hb d_Tb_writeFirstSectors_241 rfl (lv_at hl 0 rfl) ?_
        refine va_get (D := (dC, dI)) (ci := 4) (v := .ref M.o_Dk) (C := R_Tb) (T := F_Tb) (N := 10) hx hb hts (fun w h => u_Vq_Tb w (i_Tb w h)) hown hK hP 3 rfl rfl 0 (by decide) (hts _ (u_Vq_Tb _ k_Tb_6)) (fun _ h9 => h9) rfl d_Tb_writeFirstSectors_242 ?_
        refine lv_sipush (v := 1004) hx hb d_Tb_writeFirstSectors_245 (by decide) ?_
        refine lv_iconst (v := (-1)) hx hb d_Tb_writeFirstSectors_248 (by decide) ?_
        obtain ⟨S_5, hc_5, h⟩ := lf_bE h
        have hFc := lx_free hD hS hA
        refine va_callv (va_runV (As := [.int 1004, .int ((-1))]) (rest := []) ⟨hx, hb, hml, hown, hts⟩ (l_Dk_putFour l dC dI X _ hc_5) (cwV 2 hts (gwV good_Vq (u_Vq_Tb _ k_Tb_84) (u_Vq_Dk _ k_Dk_30) (u_Vq_Dk _ k_Dk_31) (u_Vq_Dk _ k_Dk_0) (wcs (u_Vq_Dk _ k_Dk_32) (fun _ h => h))) rfl rfl rfl (by decide +kernel) ⟨Nat.le_of_ble_eq_true rfl, Nat.le_of_ble_eq_true rfl⟩) (pv_ofE (X.same _) (fun U z1 z2 => X.mono _ _ U hFc (hEw _ _ hS U z1 z2)) hP hK hD (va_recv hK hP (ci := 0) (q0 := 1) rfl rfl)) rfl rfl hl.1 rfl (lv_room (Nat.le_of_ble_eq_true rfl)) d_Tb_writeFirstSectors_249 ⟨by decide, by decide⟩) hS (fun q _ h => hFc q h) hFc (fun u t H locs ht hvm hw hB hz1 hk1 hS => ?_)
        obtain ⟨hP, -, hD⟩ := hB
        rw [ht] at hP
        have hD := lx_dj hD hFc
        refine lv_aload_n hx hb d_Tb_writeFirstSectors_252 rfl (lv_at hl 0 rfl) ?_
        refine va_get (D := (dC, dI)) (ci := 4) (v := .ref M.o_Dk) (C := R_Tb) (T := F_Tb) (N := 10) hx hb hts (fun w h => u_Vq_Tb w (i_Tb w h)) hown hK hP 3 rfl rfl 0 (by decide) (hts _ (u_Vq_Tb _ k_Tb_6)) (fun _ h9 => h9) rfl d_Tb_writeFirstSectors_253 ?_
        refine lv_sipush (v := 1020) hx hb d_Tb_writeFirstSectors_256 (by decide) ?_
        refine lv_ldc (v := (-1437270016)) hx hb hown (hts _ (u_Vq_Tb _ k_Tb_87)) d_Tb_writeFirstSectors_259 ?_
        obtain ⟨S_6, hc_6, h⟩ := lf_bE h
        have hFc := lx_free hD hS hA
        refine va_callv (va_runV (As := [.int 1020, .int ((-1437270016))]) (rest := []) ⟨hx, hb, hml, hown, hts⟩ (l_Dk_putFour l dC dI X _ hc_6) (cwV 2 hts (gwV good_Vq (u_Vq_Tb _ k_Tb_84) (u_Vq_Dk _ k_Dk_30) (u_Vq_Dk _ k_Dk_31) (u_Vq_Dk _ k_Dk_0) (wcs (u_Vq_Dk _ k_Dk_32) (fun _ h => h))) rfl rfl rfl (by decide +kernel) ⟨Nat.le_of_ble_eq_true rfl, Nat.le_of_ble_eq_true rfl⟩) (pv_ofE (X.same _) (fun U z1 z2 => X.mono _ _ U hFc (hEw _ _ hS U z1 z2)) hP hK hD (va_recv hK hP (ci := 0) (q0 := 1) rfl rfl)) rfl rfl hl.1 rfl (lv_room (Nat.le_of_ble_eq_true rfl)) d_Tb_writeFirstSectors_261 ⟨by decide, by decide⟩) hS (fun q _ h => hFc q h) hFc (fun u t H locs ht hvm hw hB hz1 hk1 hS => ?_)
        obtain ⟨hP, -, hD⟩ := hB
        rw [ht] at hP
        have hD := lx_dj hD hFc
        rw [hQ]
        have e2 : S_6 = S' := Option.some.inj h
        have hP := ly_newP e2.symm hP
        have hD := ly_newD e2.symm hD
        exact W.vret hx hb hr (fun t ht hW => ⟨⟨(), rfl, trivial, by rw [ht]; exact hP, va_K.moved hW.alike hK, hD⟩, hS.F ht⟩) hS.2.2 d_Tb_writeFirstSectors_264
      · have h := lf_f h c_1
        refine lv_iconst (v := 3) hx hb d_Tb_writeFirstSectors_11 (by decide) ?_
        refine lv_istore (lv' := [(7, .int 3), (0, .ref M.o_Tb), (1, .int y_1), (2, .int y_2), (3, .int y_3), (4, .int y_4), (5, .int y_5), (6, .int y_6)]) hx hb d_Tb_writeFirstSectors_12 hl (by decide) rfl (fun ls hl => ?_)
        exact hB_14 _ hr_3 K y_1 y_2 y_3 y_4 y_5 y_6 3 S _ _ _ h hP hD hS (lv_sub hl [1, 2, 3, 4, 5, 6, 7, 0] rfl)
  rw [f_Tb_writeFirstSectors] at h
  refine lv_iconst (v := 0) hx hb d_Tb_writeFirstSectors_0 (by decide) ?_
  refine lv_istore (lv' := [(6, .int 0), (0, .ref M.o_Tb), (1, .int p0), (2, .int p1), (3, .int p2), (4, .int p3), (5, .int p4)]) hx hb d_Tb_writeFirstSectors_1 hl (by decide) rfl (fun ls hl => ?_)
  exact hB_3 K p0 p1 p2 p3 p4 0 S _ _ _ h hP hD hS (lv_sub hl [1, 2, 3, 4, 5, 6, 0] rfl)
set_option maxHeartbeats 4000000 in
set_option maxRecDepth 100000 in
theorem l_Tb_link (l : Launch) (dC : Nat → ClassId) (dI : Nat → Nat → Nat) {K : Nat} {M : CA} {E : (Nat → Prop) → State → Prop} (X : ly_X l dC dI K M E) (sz : Nat) {Y : CT} {G : CG} {S S' : CS} {p0 : Int32} {p1 : Int32} (h : f_Tb_link K G S p0 p1 = some S') : Met l y_Tb_link (.code y_Tb_link cb_Tb_link 5 none :: V_Vq) ({ frames := 1, cells := 0, slots := 0, locals := 22 }) (va_Pc [.ref M.o_Tb, .int p0, .int p1] (fun U => U.heap.size = sz ∧ at_ (dC, dI) (fun _ => True) (wV M Y G S) (tV M) U ∧ E (va_A (wV M Y G S) sz) U)) (va_Qv (fun (u : Unit) => True) (fun (u : Unit) t => at_ (dC, dI) (va_A (wV M Y G S) sz) (wV M Y G S') (tV M) t) (va_A (wV M Y G S) sz)) 0 0 (va_A (wV M Y G S) sz) := by
  refine Met.ofW (cc := cb_Tb_link) (maxL := 5) (ret := none) (by decide) rfl ?_
  intro p e s m args below meth c s₁ B hml hv
  obtain ⟨rfl, hsz, ⟨hP, hK, hD0⟩, hE⟩ := hv
  have hx := B.exec
  have hb := B.bytes
  have hr := B.returns
  have hts0 := atoms_spec (ws := .code y_Tb_link cb_Tb_link 5 none :: V_Vq) B.pre
  have hts : ∀ w ∈ V_Vq, w.before ([.ref M.o_Tb, .int p0, .int p1] : List Value).toArray s = true := fun w h => hts0 w (List.mem_cons_of_mem _ h)
  have hown : s.vm.findClass R_Tb = some m.cls := findClass_of_methodNamed B.named
  subst hsz
  have hD := hD0.self (sz := s.heap.size)
  generalize hAe : va_A (wV M Y G S) s.heap.size = A at hD hE ⊢
  have hA : ∀ q : Nat, s.heap.size ≤ q → A q := fun q h => by rw [← hAe]; exact Or.inr h
  have hS : va_S A s.heap s.heap [] := va_S.rf
  have hP : va_P (dC, dI) classes (wV M Y G S) s.heap := hP
  have hK : va_K (dC, dI) classes (tV M) s := hK
  have hEw : ∀ (H : Heap) (locs : List Loc), va_S A s.heap H locs → ∀ U : State, U.heap = H → s.WarmedH U.vm → E A U := fun H locs hS U hU hW => X.kept A s U H locs hE hS hU hW
  have hl := lv_entry ([.ref M.o_Tb, .int p0, .int p1]) (n := 5) (Nat.le_of_ble_eq_true rfl)
  rw [lg_entry_eq]
  generalize (lg_sl ([.ref M.o_Tb, .int p0, .int p1]) ++ List.replicate (5 - (lg_sl ([.ref M.o_Tb, .int p0, .int p1])).length) Slot.unset).toArray = ls at hl ⊢
  have hl : lv_has ls 5 [(0, .ref M.o_Tb), (1, .int p0), (2, .int p1)] := hl
  refine qabs (fun Q hQ => ?_)
  have hB_33 : ∀ (k : Nat), ∀ (y_1 : Int32) (y_2 : Int32) (y_3 : Int32) (S : CS) (H : Heap) (locs : List Loc) (ls : Array Slot), f_Tb_link_33 K G k y_1 y_2 y_3 S = some S' → va_P (dC, dI) classes (wV M Y G S) H → va_D A (wV M Y G S) → va_S A s.heap H locs → lv_has ls 5 [(0, .ref M.o_Tb), (1, .int y_1), (2, .int y_2), (3, .int y_3)] → W p l e ({ frames := 1, cells := 0, slots := 0, locals := 22 }) s m ([.ref M.o_Tb, .int p0, .int p1] : List Value).toArray below meth c H locs 0 0 Q (F0 m 33 ls []) := by
    intro k
    induction k with
    | zero => intro y_1 y_2 y_3 S H locs ls h; exact lf_no h
    | succ k hr_33 =>
      intro y_1 y_2 y_3 S H locs ls h hP hD hS hl
      rw [f_Tb_link_33] at h
      refine lv_iload_n hx hb d_Tb_link_33 rfl (lv_at hl 3 rfl) ?_
      refine lv_aload_n hx hb d_Tb_link_34 rfl (lv_at hl 0 rfl) ?_
      refine va_get (D := (dC, dI)) (ci := 4) (v := .int S.v_Tb_copies) (C := R_Tb) (T := F_Tb) (N := 10) hx hb hts (fun w h => u_Vq_Tb w (i_Tb w h)) hown hK hP 3 rfl rfl 3 (by decide) (hts _ (u_Vq_Tb _ k_Tb_9)) (fun _ h9 => h9) rfl d_Tb_link_35 ?_
      refine lv_icmp_ge (tgt := 91) hx hb d_Tb_link_38 (by decide) (fun c_6 => ?_) (fun c_6 => ?_)
      · have h := lf_t h c_6
        rw [hQ]
        have e2 : S = S' := Option.some.inj h
        have hP := ly_newP e2.symm hP
        have hD := ly_newD e2.symm hD
        exact W.vret hx hb hr (fun t ht hW => ⟨⟨(), rfl, trivial, by rw [ht]; exact hP, va_K.moved hW.alike hK, hD⟩, hS.F ht⟩) hS.2.2 d_Tb_link_91
      · have h := lf_f h c_6
        refine lv_aload_n hx hb d_Tb_link_41 rfl (lv_at hl 0 rfl) ?_
        refine va_get (D := (dC, dI)) (ci := 4) (v := .int S.v_Tb_before) (C := R_Tb) (T := F_Tb) (N := 10) hx hb hts (fun w h => u_Vq_Tb w (i_Tb w h)) hown hK hP 3 rfl rfl 2 (by decide) (hts _ (u_Vq_Tb _ k_Tb_8)) (fun _ h9 => h9) rfl d_Tb_link_42 ?_
        refine lv_iload_n hx hb d_Tb_link_45 rfl (lv_at hl 3 rfl) ?_
        refine lv_aload_n hx hb d_Tb_link_46 rfl (lv_at hl 0 rfl) ?_
        refine va_get (D := (dC, dI)) (ci := 4) (v := .int S.v_Tb_length) (C := R_Tb) (T := F_Tb) (N := 10) hx hb hts (fun w h => u_Vq_Tb w (i_Tb w h)) hown hK hP 3 rfl rfl 4 (by decide) (hts _ (u_Vq_Tb _ k_Tb_10)) (fun _ h9 => h9) rfl d_Tb_link_47 ?_
        refine lv_imul hx hb d_Tb_link_50 ?_
        refine lv_iadd hx hb d_Tb_link_51 ?_
        refine lv_sipush (v := 512) hx hb d_Tb_link_52 (by decide) ?_
        refine lv_imul hx hb d_Tb_link_55 ?_
        refine lv_iconst (v := 4) hx hb d_Tb_link_56 (by decide) ?_
        refine lv_iload_n hx hb d_Tb_link_57 rfl (lv_at hl 1 rfl) ?_
        refine lv_imul hx hb d_Tb_link_58 ?_
        refine lv_iadd hx hb d_Tb_link_59 ?_
        refine lv_topi (fun x_7 ex_7 => ?_)
        have h := lf_lE h ex_7
        refine lv_istore (lv' := [(4, .int x_7), (0, .ref M.o_Tb), (1, .int y_1), (2, .int y_2), (3, .int y_3)]) hx hb d_Tb_link_60 hl (by decide) rfl (fun ls hl => ?_)
        refine lv_aload_n hx hb d_Tb_link_62 rfl (lv_at hl 1 rfl) ?_
        refine va_get (D := (dC, dI)) (ci := 4) (v := .ref M.o_Dk) (C := R_Tb) (T := F_Tb) (N := 10) hx hb hts (fun w h => u_Vq_Tb w (i_Tb w h)) hown hK hP 3 rfl rfl 0 (by decide) (hts _ (u_Vq_Tb _ k_Tb_6)) (fun _ h9 => h9) rfl d_Tb_link_63 ?_
        refine lv_iload hx hb d_Tb_link_66 (lv_at hl 0 rfl) ?_
        refine lv_aload_n hx hb d_Tb_link_68 rfl (lv_at hl 1 rfl) ?_
        refine va_get (D := (dC, dI)) (ci := 4) (v := .ref M.o_Dk) (C := R_Tb) (T := F_Tb) (N := 10) hx hb hts (fun w h => u_Vq_Tb w (i_Tb w h)) hown hK hP 3 rfl rfl 0 (by decide) (hts _ (u_Vq_Tb _ k_Tb_6)) (fun _ h9 => h9) rfl d_Tb_link_69 ?_
        refine lv_iload hx hb d_Tb_link_72 (lv_at hl 0 rfl) ?_
        obtain ⟨r_8, S_8, hc_8, h⟩ := lf_cE h
        have hFc := lx_free hD hS hA
        refine va_calli (va_runV (As := [.int x_7]) (rest := [.int x_7, .ref M.o_Dk]) ⟨hx, hb, hml, hown, hts⟩ (l_Dk_four l dC dI X _ hc_8) (cwV 1 hts (gwV good_Vq (u_Vq_Tb _ k_Tb_24) (u_Vq_Dk _ k_Dk_14) (u_Vq_Dk _ k_Dk_15) (u_Vq_Dk _ k_Dk_0) (wcs (u_Vq_Dk _ k_Dk_16) (fun _ h => h))) rfl rfl rfl (by decide +kernel) ⟨Nat.le_of_ble_eq_true rfl, Nat.le_of_ble_eq_true rfl⟩) (pv_ofE (X.same _) (fun U z1 z2 => X.mono _ _ U hFc (hEw _ _ hS U z1 z2)) hP hK hD (va_recv hK hP (ci := 0) (q0 := 1) rfl rfl)) rfl rfl hl.1 rfl (lv_room (Nat.le_of_ble_eq_true rfl)) d_Tb_link_74 ⟨by decide, by decide⟩) hS (fun q _ h => hFc q h) hFc (fun r_ u t H locs ht hvm hw hB hz1 hk1 hS => ?_)
        rw [hw]
        obtain ⟨hP, -, hD⟩ := hB
        rw [ht] at hP
        have hD := lx_dj hD hFc
        refine lv_ldc (v := (-268435456)) hx hb hown (hts _ (u_Vq_Tb _ k_Tb_95)) d_Tb_link_77 ?_
        refine lv_iand hx hb d_Tb_link_79 ?_
        refine lv_iload_n hx hb d_Tb_link_80 rfl (lv_at hl 3 rfl) ?_
        refine lv_ior hx hb d_Tb_link_81 ?_
        obtain ⟨S_9, hc_9, h⟩ := lf_bE h
        have hFc := lx_free hD hS hA
        refine va_callv (va_runV (As := [.int x_7, .int ((r_8 &&& ((-268435456))) ||| y_2)]) (rest := []) ⟨hx, hb, hml, hown, hts⟩ (l_Dk_putFour l dC dI X _ hc_9) (cwV 2 hts (gwV good_Vq (u_Vq_Tb _ k_Tb_84) (u_Vq_Dk _ k_Dk_30) (u_Vq_Dk _ k_Dk_31) (u_Vq_Dk _ k_Dk_0) (wcs (u_Vq_Dk _ k_Dk_32) (fun _ h => h))) rfl rfl rfl (by decide +kernel) ⟨Nat.le_of_ble_eq_true rfl, Nat.le_of_ble_eq_true rfl⟩) (pv_ofE (X.same _) (fun U z1 z2 => X.mono _ _ U hFc (hEw _ _ hS U z1 z2)) hP hK hD (va_recv hK hP (ci := 0) (q0 := 1) rfl rfl)) rfl rfl hl.1 rfl (lv_room (Nat.le_of_ble_eq_true rfl)) d_Tb_link_82 ⟨by decide, by decide⟩) hS (fun q _ h => hFc q h) hFc (fun u t H locs ht hvm hw hB hz1 hk1 hS => ?_)
        obtain ⟨hP, -, hD⟩ := hB
        rw [ht] at hP
        have hD := lx_dj hD hFc
        obtain ⟨x_10, ex_10, h⟩ := lf_lX h
        refine lv_iinc (v := x_10) (lv' := [(3, .int x_10), (4, .int x_7), (0, .ref M.o_Tb), (1, .int y_1), (2, .int y_2)]) hx hb d_Tb_link_85 hl (k := 4) rfl (by rw [ex_10]; rfl) (by decide) rfl (fun ls hl => ?_)
        refine lv_goto (tgt := 33) hx hb d_Tb_link_88 (by decide) ?_
        exact hr_33 y_1 y_2 x_10 S_9 _ _ _ h hP hD hS (lv_sub hl [2, 3, 4, 0] rfl)
  rw [f_Tb_link] at h
  refine lv_iload_n hx hb d_Tb_link_0 rfl (lv_at hl 1 rfl) ?_
  refine lv_if_lt (tgt := 23) hx hb d_Tb_link_1 (by decide) (fun c_1 => ?_) (fun c_1 => ?_)
  · have h := lf_t h c_1
    rw [hQ]
    have e2 : S = S' := Option.some.inj h
    have hP := ly_newP e2.symm hP
    have hD := ly_newD e2.symm hD
    exact W.vret hx hb hr (fun t ht hW => ⟨⟨(), rfl, trivial, by rw [ht]; exact hP, va_K.moved hW.alike hK, hD⟩, hS.F ht⟩) hS.2.2 d_Tb_link_23
  · have h := lf_f h c_1
    refine lv_iload_n hx hb d_Tb_link_4 rfl (lv_at hl 1 rfl) ?_
    refine lv_aload_n hx hb d_Tb_link_5 rfl (lv_at hl 0 rfl) ?_
    refine va_get (D := (dC, dI)) (ci := 4) (v := .int S.v_Tb_clusters) (C := R_Tb) (T := F_Tb) (N := 10) hx hb hts (fun w h => u_Vq_Tb w (i_Tb w h)) hown hK hP 3 rfl rfl 7 (by decide) (hts _ (u_Vq_Tb _ k_Tb_13)) (fun _ h9 => h9) rfl d_Tb_link_6 ?_
    refine lv_iconst (v := 2) hx hb d_Tb_link_9 (by decide) ?_
    refine lv_iadd hx hb d_Tb_link_10 ?_
    refine lv_icmp_ge (tgt := 23) hx hb d_Tb_link_11 (by decide) (fun c_2 => ?_) (fun c_2 => ?_)
    · have h := lf_t h c_2
      rw [hQ]
      have e2 : S = S' := Option.some.inj h
      have hP := ly_newP e2.symm hP
      have hD := ly_newD e2.symm hD
      exact W.vret hx hb hr (fun t ht hW => ⟨⟨(), rfl, trivial, by rw [ht]; exact hP, va_K.moved hW.alike hK, hD⟩, hS.F ht⟩) hS.2.2 d_Tb_link_23
    · have h := lf_f h c_2
      refine lv_iload_n hx hb d_Tb_link_14 rfl (lv_at hl 1 rfl) ?_
      refine lv_aload_n hx hb d_Tb_link_15 rfl (lv_at hl 0 rfl) ?_
      refine va_get (D := (dC, dI)) (ci := 4) (v := .ref M.a_Tb_next) (C := R_Tb) (T := F_Tb) (N := 10) hx hb hts (fun w h => u_Vq_Tb w (i_Tb w h)) hown hK hP 3 rfl rfl 8 (by decide) (hts _ (u_Vq_Tb _ k_Tb_14)) (fun _ h9 => h9) rfl d_Tb_link_16 ?_
      refine va_alen (v := nI (G.n / 2 + 2)) hx hb hK hP 15 2 rfl rfl rfl d_Tb_link_19 ?_
      refine lv_icmp_lt (tgt := 24) hx hb d_Tb_link_20 (by decide) (fun c_3 => ?_) (fun c_3 => ?_)
      · have h := lf_t h c_3
        refine lv_aload_n hx hb d_Tb_link_24 rfl (lv_at hl 0 rfl) ?_
        refine va_get (D := (dC, dI)) (ci := 4) (v := .ref M.a_Tb_next) (C := R_Tb) (T := F_Tb) (N := 10) hx hb hts (fun w h => u_Vq_Tb w (i_Tb w h)) hown hK hP 3 rfl rfl 8 (by decide) (hts _ (u_Vq_Tb _ k_Tb_14)) (fun _ h9 => h9) rfl d_Tb_link_25 ?_
        refine lv_iload_n hx hb d_Tb_link_28 rfl (lv_at hl 1 rfl) ?_
        refine lv_iload_n hx hb d_Tb_link_29 rfl (lv_at hl 2 rfl) ?_
        obtain ⟨g_4, h⟩ := lf_gE h
        refine va_iast hx hb hK hP hD hS 15 2 rfl rfl g_4 d_Tb_link_30 (fun H locs hP hD hS => ?_)
        obtain ⟨S_5, eS_5, h⟩ := lf_lX h
        have hP := ly_newP eS_5 hP
        have hD := ly_newD eS_5 hD
        refine lv_iconst (v := 0) hx hb d_Tb_link_31 (by decide) ?_
        refine lv_istore_n (lv' := [(3, .int 0), (0, .ref M.o_Tb), (1, .int p0), (2, .int p1)]) hx hb d_Tb_link_32 rfl hl (by decide) rfl (fun ls hl => ?_)
        exact hB_33 K p0 p1 0 S_5 _ _ _ h hP hD hS (lv_sub hl [1, 2, 3, 0] rfl)
      · have h := lf_f h c_3
        rw [hQ]
        have e2 : S = S' := Option.some.inj h
        have hP := ly_newP e2.symm hP
        have hD := ly_newD e2.symm hD
        exact W.vret hx hb hr (fun t ht hW => ⟨⟨(), rfl, trivial, by rw [ht]; exact hP, va_K.moved hW.alike hK, hD⟩, hS.F ht⟩) hS.2.2 d_Tb_link_23
set_option maxHeartbeats 4000000 in
set_option maxRecDepth 100000 in
theorem l_Tb_startTables (l : Launch) (dC : Nat → ClassId) (dI : Nat → Nat → Nat) {K : Nat} {M : CA} {E : (Nat → Prop) → State → Prop} (X : ly_X l dC dI K M E) (sz : Nat) {Y : CT} {G : CG} {S S' : CS} (h : f_Tb_startTables K G S = some S') : Met l y_Tb_startTables (.code y_Tb_startTables cb_Tb_startTables 1 none :: V_Vq) ({ frames := 2, cells := 0, slots := 0, locals := 46 }) (va_Pc [.ref M.o_Tb] (fun U => U.heap.size = sz ∧ at_ (dC, dI) (fun _ => True) (wV M Y G S) (tV M) U ∧ E (va_A (wV M Y G S) sz) U)) (va_Qv (fun (u : Unit) => True) (fun (u : Unit) t => at_ (dC, dI) (va_A (wV M Y G S) sz) (wV M Y G S') (tV M) t) (va_A (wV M Y G S) sz)) 0 0 (va_A (wV M Y G S) sz) := by
  refine Met.ofW (cc := cb_Tb_startTables) (maxL := 1) (ret := none) (by decide) rfl ?_
  intro p e s m args below meth c s₁ B hml hv
  obtain ⟨rfl, hsz, ⟨hP, hK, hD0⟩, hE⟩ := hv
  have hx := B.exec
  have hb := B.bytes
  have hr := B.returns
  have hts0 := atoms_spec (ws := .code y_Tb_startTables cb_Tb_startTables 1 none :: V_Vq) B.pre
  have hts : ∀ w ∈ V_Vq, w.before ([.ref M.o_Tb] : List Value).toArray s = true := fun w h => hts0 w (List.mem_cons_of_mem _ h)
  have hown : s.vm.findClass R_Tb = some m.cls := findClass_of_methodNamed B.named
  subst hsz
  have hD := hD0.self (sz := s.heap.size)
  generalize hAe : va_A (wV M Y G S) s.heap.size = A at hD hE ⊢
  have hA : ∀ q : Nat, s.heap.size ≤ q → A q := fun q h => by rw [← hAe]; exact Or.inr h
  have hS : va_S A s.heap s.heap [] := va_S.rf
  have hP : va_P (dC, dI) classes (wV M Y G S) s.heap := hP
  have hK : va_K (dC, dI) classes (tV M) s := hK
  have hEw : ∀ (H : Heap) (locs : List Loc), va_S A s.heap H locs → ∀ U : State, U.heap = H → s.WarmedH U.vm → E A U := fun H locs hS U hU hW => X.kept A s U H locs hE hS hU hW
  have hl := lv_entry ([.ref M.o_Tb]) (n := 1) (Nat.le_of_ble_eq_true rfl)
  rw [lg_entry_eq]
  generalize (lg_sl ([.ref M.o_Tb]) ++ List.replicate (1 - (lg_sl ([.ref M.o_Tb])).length) Slot.unset).toArray = ls at hl ⊢
  have hl : lv_has ls 1 [(0, .ref M.o_Tb)] := hl
  refine qabs (fun Q hQ => ?_)
  rw [f_Tb_startTables] at h
  refine lv_aload_n hx hb d_Tb_startTables_0 rfl (lv_at hl 0 rfl) ?_
  refine lv_iconst (v := 0) hx hb d_Tb_startTables_1 (by decide) ?_
  refine lv_ldc (v := 268435448) hx hb hown (hts _ (u_Vq_Tb _ k_Tb_42)) d_Tb_startTables_2 ?_
  obtain ⟨S_1, hc_1, h⟩ := lf_bE h
  have hFc := lx_free hD hS hA
  refine va_callv (va_runV (As := [.int 0, .int 268435448]) (rest := []) ⟨hx, hb, hml, hown, hts⟩ (l_Tb_link l dC dI X _ hc_1) (cwV 2 hts (gwV good_Vq (u_Vq_Tb _ k_Tb_91) (u_Vq_Tb _ k_Tb_92) (u_Vq_Tb _ k_Tb_93) (u_Vq_Tb _ k_Tb_0) (wcs (u_Vq_Tb _ k_Tb_94) (fun _ h => h))) rfl rfl rfl (by decide +kernel) ⟨Nat.le_of_ble_eq_true rfl, Nat.le_of_ble_eq_true rfl⟩) (pv_ofE (X.same _) (fun U z1 z2 => X.mono _ _ U hFc (hEw _ _ hS U z1 z2)) hP hK hD (va_recv hK hP (ci := 4) (q0 := 3) rfl rfl)) rfl rfl hl.1 rfl (lv_room (Nat.le_of_ble_eq_true rfl)) d_Tb_startTables_4 ⟨by decide, by decide⟩) hS (fun q _ h => hFc q h) hFc (fun u t H locs ht hvm hw hB hz1 hk1 hS => ?_)
  obtain ⟨hP, -, hD⟩ := hB
  rw [ht] at hP
  have hD := lx_dj hD hFc
  refine lv_aload_n hx hb d_Tb_startTables_7 rfl (lv_at hl 0 rfl) ?_
  refine lv_iconst (v := 1) hx hb d_Tb_startTables_8 (by decide) ?_
  refine lv_ldc (v := 268435455) hx hb hown (hts _ (u_Vq_Tb _ k_Tb_38)) d_Tb_startTables_9 ?_
  obtain ⟨S_2, hc_2, h⟩ := lf_bE h
  have hFc := lx_free hD hS hA
  refine va_callv (va_runV (As := [.int 1, .int 268435455]) (rest := []) ⟨hx, hb, hml, hown, hts⟩ (l_Tb_link l dC dI X _ hc_2) (cwV 2 hts (gwV good_Vq (u_Vq_Tb _ k_Tb_91) (u_Vq_Tb _ k_Tb_92) (u_Vq_Tb _ k_Tb_93) (u_Vq_Tb _ k_Tb_0) (wcs (u_Vq_Tb _ k_Tb_94) (fun _ h => h))) rfl rfl rfl (by decide +kernel) ⟨Nat.le_of_ble_eq_true rfl, Nat.le_of_ble_eq_true rfl⟩) (pv_ofE (X.same _) (fun U z1 z2 => X.mono _ _ U hFc (hEw _ _ hS U z1 z2)) hP hK hD (va_recv hK hP (ci := 4) (q0 := 3) rfl rfl)) rfl rfl hl.1 rfl (lv_room (Nat.le_of_ble_eq_true rfl)) d_Tb_startTables_11 ⟨by decide, by decide⟩) hS (fun q _ h => hFc q h) hFc (fun u t H locs ht hvm hw hB hz1 hk1 hS => ?_)
  obtain ⟨hP, -, hD⟩ := hB
  rw [ht] at hP
  have hD := lx_dj hD hFc
  refine lv_aload_n hx hb d_Tb_startTables_14 rfl (lv_at hl 0 rfl) ?_
  refine lv_aload_n hx hb d_Tb_startTables_15 rfl (lv_at hl 0 rfl) ?_
  refine va_get (D := (dC, dI)) (ci := 4) (v := .int S_2.v_Tb_root) (C := R_Tb) (T := F_Tb) (N := 10) hx hb hts (fun w h => u_Vq_Tb w (i_Tb w h)) hown hK hP 3 rfl rfl 5 (by decide) (hts _ (u_Vq_Tb _ k_Tb_11)) (fun _ h9 => h9) rfl d_Tb_startTables_16 ?_
  refine lv_ldc (v := 268435455) hx hb hown (hts _ (u_Vq_Tb _ k_Tb_38)) d_Tb_startTables_19 ?_
  obtain ⟨S_3, hc_3, h⟩ := lf_bE h
  have hFc := lx_free hD hS hA
  refine va_callv (va_runV (As := [.int S_2.v_Tb_root, .int 268435455]) (rest := []) ⟨hx, hb, hml, hown, hts⟩ (l_Tb_link l dC dI X _ hc_3) (cwV 2 hts (gwV good_Vq (u_Vq_Tb _ k_Tb_91) (u_Vq_Tb _ k_Tb_92) (u_Vq_Tb _ k_Tb_93) (u_Vq_Tb _ k_Tb_0) (wcs (u_Vq_Tb _ k_Tb_94) (fun _ h => h))) rfl rfl rfl (by decide +kernel) ⟨Nat.le_of_ble_eq_true rfl, Nat.le_of_ble_eq_true rfl⟩) (pv_ofE (X.same _) (fun U z1 z2 => X.mono _ _ U hFc (hEw _ _ hS U z1 z2)) hP hK hD (va_recv hK hP (ci := 4) (q0 := 3) rfl rfl)) rfl rfl hl.1 rfl (lv_room (Nat.le_of_ble_eq_true rfl)) d_Tb_startTables_21 ⟨by decide, by decide⟩) hS (fun q _ h => hFc q h) hFc (fun u t H locs ht hvm hw hB hz1 hk1 hS => ?_)
  obtain ⟨hP, -, hD⟩ := hB
  rw [ht] at hP
  have hD := lx_dj hD hFc
  rw [hQ]
  have e2 : S_3 = S' := Option.some.inj h
  have hP := ly_newP e2.symm hP
  have hD := ly_newD e2.symm hD
  exact W.vret hx hb hr (fun t ht hW => ⟨⟨(), rfl, trivial, by rw [ht]; exact hP, va_K.moved hW.alike hK, hD⟩, hS.F ht⟩) hS.2.2 d_Tb_startTables_24
set_option maxHeartbeats 4000000 in
set_option maxRecDepth 100000 in
theorem l_Tb_constantsFit (l : Launch) (dC : Nat → ClassId) (dI : Nat → Nat → Nat) {K : Nat} {M : CA} {E : (Nat → Prop) → State → Prop} (X : ly_X l dC dI K M E) (sz : Nat) {Y : CT} {G : CG} {S S' : CS} {r : Int32} (h : f_Tb_constantsFit K G S = some (r, S')) : Met l y_Tb_constantsFit (.code y_Tb_constantsFit cb_Tb_constantsFit 1 (some .boolean) :: V_Vq) ({ frames := 1, cells := 0, slots := 0, locals := 21 }) (va_Pc [.ref M.o_Tb] (fun U => U.heap.size = sz ∧ at_ (dC, dI) (fun _ => True) (wV M Y G S) (tV M) U ∧ E (va_A (wV M Y G S) sz) U)) (va_Qi (fun (r_ : Int32) (u : Unit) => r_ = r) (fun (u : Unit) t => at_ (dC, dI) (va_A (wV M Y G S) sz) (wV M Y G S') (tV M) t) (va_A (wV M Y G S) sz)) 0 0 (va_A (wV M Y G S) sz) := by
  refine Met.ofW (cc := cb_Tb_constantsFit) (maxL := 1) (ret := (some .boolean)) (by decide) rfl ?_
  intro p e s m args below meth c s₁ B hml hv
  obtain ⟨rfl, hsz, ⟨hP, hK, hD0⟩, hE⟩ := hv
  have hx := B.exec
  have hb := B.bytes
  have hr := B.returns
  have hts0 := atoms_spec (ws := .code y_Tb_constantsFit cb_Tb_constantsFit 1 (some .boolean) :: V_Vq) B.pre
  have hts : ∀ w ∈ V_Vq, w.before ([.ref M.o_Tb] : List Value).toArray s = true := fun w h => hts0 w (List.mem_cons_of_mem _ h)
  have hown : s.vm.findClass R_Tb = some m.cls := findClass_of_methodNamed B.named
  subst hsz
  have hD := hD0.self (sz := s.heap.size)
  generalize hAe : va_A (wV M Y G S) s.heap.size = A at hD hE ⊢
  have hA : ∀ q : Nat, s.heap.size ≤ q → A q := fun q h => by rw [← hAe]; exact Or.inr h
  have hS : va_S A s.heap s.heap [] := va_S.rf
  have hP : va_P (dC, dI) classes (wV M Y G S) s.heap := hP
  have hK : va_K (dC, dI) classes (tV M) s := hK
  have hEw : ∀ (H : Heap) (locs : List Loc), va_S A s.heap H locs → ∀ U : State, U.heap = H → s.WarmedH U.vm → E A U := fun H locs hS U hU hW => X.kept A s U H locs hE hS hU hW
  have hl := lv_entry ([.ref M.o_Tb]) (n := 1) (Nat.le_of_ble_eq_true rfl)
  rw [lg_entry_eq]
  generalize (lg_sl ([.ref M.o_Tb]) ++ List.replicate (1 - (lg_sl ([.ref M.o_Tb])).length) Slot.unset).toArray = ls at hl ⊢
  have hl : lv_has ls 1 [(0, .ref M.o_Tb)] := hl
  refine qabs (fun Q hQ => ?_)
  have hB_116 : ∀ (S : CS) (H : Heap) (locs : List Loc) (ls : Array Slot), f_Tb_constantsFit_116 K G S = some (r, S') → va_P (dC, dI) classes (wV M Y G S) H → va_D A (wV M Y G S) → va_S A s.heap H locs → lv_has ls 1 [] → W p l e ({ frames := 1, cells := 0, slots := 0, locals := 21 }) s m ([.ref M.o_Tb] : List Value).toArray below meth c H locs 0 0 Q (F0 m 116 ls []) := by
    intro S H locs ls h hP hD hS hl
    rw [f_Tb_constantsFit_116] at h
    refine lv_iconst (v := 0) hx hb d_Tb_constantsFit_116 (by decide) ?_
    rw [hQ]
    have e1 : (0 : Int32) = r := congrArg Prod.fst (Option.some.inj h)
    have e2 : S = S' := congrArg Prod.snd (Option.some.inj h)
    have hP := ly_newP e2.symm hP
    have hD := ly_newD e2.symm hD
    exact W.zret (v := 0) hx hb hr rfl (fun t ht hW => ⟨⟨0, (), rfl, e1, by rw [ht]; exact hP, va_K.moved hW.alike hK, hD⟩, hS.F ht⟩) hS.2.2 d_Tb_constantsFit_117
  rw [f_Tb_constantsFit] at h
  refine lv_aload_n hx hb d_Tb_constantsFit_0 rfl (lv_at hl 0 rfl) ?_
  refine va_get (D := (dC, dI)) (ci := 4) (v := .ref M.o_Dk) (C := R_Tb) (T := F_Tb) (N := 10) hx hb hts (fun w h => u_Vq_Tb w (i_Tb w h)) hown hK hP 3 rfl rfl 0 (by decide) (hts _ (u_Vq_Tb _ k_Tb_6)) (fun _ h9 => h9) rfl d_Tb_constantsFit_1 ?_
  refine lv_bipush (v := 11) hx hb d_Tb_constantsFit_4 (by decide) ?_
  obtain ⟨r_1, S_1, hc_1, h⟩ := lf_cE h
  have hFc := lx_free hD hS hA
  refine va_calli (va_runV (As := [.int 11]) (rest := []) ⟨hx, hb, hml, hown, hts⟩ (l_Dk_two l dC dI X _ hc_1) (cwV 1 hts (gwV good_Vq (u_Vq_Tb _ k_Tb_23) (u_Vq_Dk _ k_Dk_17) (u_Vq_Dk _ k_Dk_18) (u_Vq_Dk _ k_Dk_0) (wcs (u_Vq_Dk _ k_Dk_19) (fun _ h => h))) rfl rfl rfl (by decide +kernel) ⟨Nat.le_of_ble_eq_true rfl, Nat.le_of_ble_eq_true rfl⟩) (pv_ofE (X.same _) (fun U z1 z2 => X.mono _ _ U hFc (hEw _ _ hS U z1 z2)) hP hK hD (va_recv hK hP (ci := 0) (q0 := 1) rfl rfl)) rfl rfl hl.1 rfl (lv_room (Nat.le_of_ble_eq_true rfl)) d_Tb_constantsFit_6 ⟨by decide, by decide⟩) hS (fun q _ h => hFc q h) hFc (fun r_ u t H locs ht hvm hw hB hz1 hk1 hS => ?_)
  rw [hw]
  obtain ⟨hP, -, hD⟩ := hB
  rw [ht] at hP
  have hD := lx_dj hD hFc
  refine lv_sipush (v := 512) hx hb d_Tb_constantsFit_9 (by decide) ?_
  refine lv_icmp_ne (tgt := 116) hx hb d_Tb_constantsFit_12 (by decide) (fun c_2 => ?_) (fun c_2 => ?_)
  · have h := lf_f h c_2
    exact hB_116 S_1 _ _ _ h hP hD hS (lv_sub hl [] rfl)
  · have h := lf_t h c_2
    refine lv_aload_n hx hb d_Tb_constantsFit_15 rfl (lv_at hl 0 rfl) ?_
    refine va_get (D := (dC, dI)) (ci := 4) (v := .ref M.o_Dk) (C := R_Tb) (T := F_Tb) (N := 10) hx hb hts (fun w h => u_Vq_Tb w (i_Tb w h)) hown hK hP 3 rfl rfl 0 (by decide) (hts _ (u_Vq_Tb _ k_Tb_6)) (fun _ h9 => h9) rfl d_Tb_constantsFit_16 ?_
    refine lv_bipush (v := 17) hx hb d_Tb_constantsFit_19 (by decide) ?_
    obtain ⟨r_3, S_3, hc_3, h⟩ := lf_cE h
    have hFc := lx_free hD hS hA
    refine va_calli (va_runV (As := [.int 17]) (rest := []) ⟨hx, hb, hml, hown, hts⟩ (l_Dk_two l dC dI X _ hc_3) (cwV 1 hts (gwV good_Vq (u_Vq_Tb _ k_Tb_23) (u_Vq_Dk _ k_Dk_17) (u_Vq_Dk _ k_Dk_18) (u_Vq_Dk _ k_Dk_0) (wcs (u_Vq_Dk _ k_Dk_19) (fun _ h => h))) rfl rfl rfl (by decide +kernel) ⟨Nat.le_of_ble_eq_true rfl, Nat.le_of_ble_eq_true rfl⟩) (pv_ofE (X.same _) (fun U z1 z2 => X.mono _ _ U hFc (hEw _ _ hS U z1 z2)) hP hK hD (va_recv hK hP (ci := 0) (q0 := 1) rfl rfl)) rfl rfl hl.1 rfl (lv_room (Nat.le_of_ble_eq_true rfl)) d_Tb_constantsFit_21 ⟨by decide, by decide⟩) hS (fun q _ h => hFc q h) hFc (fun r_ u t H locs ht hvm hw hB hz1 hk1 hS => ?_)
    rw [hw]
    obtain ⟨hP, -, hD⟩ := hB
    rw [ht] at hP
    have hD := lx_dj hD hFc
    refine lv_if_ne (tgt := 116) hx hb d_Tb_constantsFit_24 (by decide) (fun c_4 => ?_) (fun c_4 => ?_)
    · have h := lf_f h c_4
      exact hB_116 S_3 _ _ _ h hP hD hS (lv_sub hl [] rfl)
    · have h := lf_t h c_4
      refine lv_aload_n hx hb d_Tb_constantsFit_27 rfl (lv_at hl 0 rfl) ?_
      refine va_get (D := (dC, dI)) (ci := 4) (v := .ref M.o_Dk) (C := R_Tb) (T := F_Tb) (N := 10) hx hb hts (fun w h => u_Vq_Tb w (i_Tb w h)) hown hK hP 3 rfl rfl 0 (by decide) (hts _ (u_Vq_Tb _ k_Tb_6)) (fun _ h9 => h9) rfl d_Tb_constantsFit_28 ?_
      refine lv_bipush (v := 19) hx hb d_Tb_constantsFit_31 (by decide) ?_
      obtain ⟨r_5, S_5, hc_5, h⟩ := lf_cE h
      have hFc := lx_free hD hS hA
      refine va_calli (va_runV (As := [.int 19]) (rest := []) ⟨hx, hb, hml, hown, hts⟩ (l_Dk_two l dC dI X _ hc_5) (cwV 1 hts (gwV good_Vq (u_Vq_Tb _ k_Tb_23) (u_Vq_Dk _ k_Dk_17) (u_Vq_Dk _ k_Dk_18) (u_Vq_Dk _ k_Dk_0) (wcs (u_Vq_Dk _ k_Dk_19) (fun _ h => h))) rfl rfl rfl (by decide +kernel) ⟨Nat.le_of_ble_eq_true rfl, Nat.le_of_ble_eq_true rfl⟩) (pv_ofE (X.same _) (fun U z1 z2 => X.mono _ _ U hFc (hEw _ _ hS U z1 z2)) hP hK hD (va_recv hK hP (ci := 0) (q0 := 1) rfl rfl)) rfl rfl hl.1 rfl (lv_room (Nat.le_of_ble_eq_true rfl)) d_Tb_constantsFit_33 ⟨by decide, by decide⟩) hS (fun q _ h => hFc q h) hFc (fun r_ u t H locs ht hvm hw hB hz1 hk1 hS => ?_)
      rw [hw]
      obtain ⟨hP, -, hD⟩ := hB
      rw [ht] at hP
      have hD := lx_dj hD hFc
      refine lv_if_ne (tgt := 116) hx hb d_Tb_constantsFit_36 (by decide) (fun c_6 => ?_) (fun c_6 => ?_)
      · have h := lf_f h c_6
        exact hB_116 S_5 _ _ _ h hP hD hS (lv_sub hl [] rfl)
      · have h := lf_t h c_6
        refine lv_aload_n hx hb d_Tb_constantsFit_39 rfl (lv_at hl 0 rfl) ?_
        refine va_get (D := (dC, dI)) (ci := 4) (v := .ref M.o_Dk) (C := R_Tb) (T := F_Tb) (N := 10) hx hb hts (fun w h => u_Vq_Tb w (i_Tb w h)) hown hK hP 3 rfl rfl 0 (by decide) (hts _ (u_Vq_Tb _ k_Tb_6)) (fun _ h9 => h9) rfl d_Tb_constantsFit_40 ?_
        refine lv_bipush (v := 22) hx hb d_Tb_constantsFit_43 (by decide) ?_
        obtain ⟨r_7, S_7, hc_7, h⟩ := lf_cE h
        have hFc := lx_free hD hS hA
        refine va_calli (va_runV (As := [.int 22]) (rest := []) ⟨hx, hb, hml, hown, hts⟩ (l_Dk_two l dC dI X _ hc_7) (cwV 1 hts (gwV good_Vq (u_Vq_Tb _ k_Tb_23) (u_Vq_Dk _ k_Dk_17) (u_Vq_Dk _ k_Dk_18) (u_Vq_Dk _ k_Dk_0) (wcs (u_Vq_Dk _ k_Dk_19) (fun _ h => h))) rfl rfl rfl (by decide +kernel) ⟨Nat.le_of_ble_eq_true rfl, Nat.le_of_ble_eq_true rfl⟩) (pv_ofE (X.same _) (fun U z1 z2 => X.mono _ _ U hFc (hEw _ _ hS U z1 z2)) hP hK hD (va_recv hK hP (ci := 0) (q0 := 1) rfl rfl)) rfl rfl hl.1 rfl (lv_room (Nat.le_of_ble_eq_true rfl)) d_Tb_constantsFit_45 ⟨by decide, by decide⟩) hS (fun q _ h => hFc q h) hFc (fun r_ u t H locs ht hvm hw hB hz1 hk1 hS => ?_)
        rw [hw]
        obtain ⟨hP, -, hD⟩ := hB
        rw [ht] at hP
        have hD := lx_dj hD hFc
        refine lv_if_ne (tgt := 116) hx hb d_Tb_constantsFit_48 (by decide) (fun c_8 => ?_) (fun c_8 => ?_)
        · have h := lf_f h c_8
          exact hB_116 S_7 _ _ _ h hP hD hS (lv_sub hl [] rfl)
        · have h := lf_t h c_8
          refine lv_aload_n hx hb d_Tb_constantsFit_51 rfl (lv_at hl 0 rfl) ?_
          refine va_get (D := (dC, dI)) (ci := 4) (v := .ref M.o_Dk) (C := R_Tb) (T := F_Tb) (N := 10) hx hb hts (fun w h => u_Vq_Tb w (i_Tb w h)) hown hK hP 3 rfl rfl 0 (by decide) (hts _ (u_Vq_Tb _ k_Tb_6)) (fun _ h9 => h9) rfl d_Tb_constantsFit_52 ?_
          refine lv_bipush (v := 32) hx hb d_Tb_constantsFit_55 (by decide) ?_
          obtain ⟨r_9, S_9, hc_9, h⟩ := lf_cE h
          have hFc := lx_free hD hS hA
          refine va_calli (va_runV (As := [.int 32]) (rest := []) ⟨hx, hb, hml, hown, hts⟩ (l_Dk_four l dC dI X _ hc_9) (cwV 1 hts (gwV good_Vq (u_Vq_Tb _ k_Tb_24) (u_Vq_Dk _ k_Dk_14) (u_Vq_Dk _ k_Dk_15) (u_Vq_Dk _ k_Dk_0) (wcs (u_Vq_Dk _ k_Dk_16) (fun _ h => h))) rfl rfl rfl (by decide +kernel) ⟨Nat.le_of_ble_eq_true rfl, Nat.le_of_ble_eq_true rfl⟩) (pv_ofE (X.same _) (fun U z1 z2 => X.mono _ _ U hFc (hEw _ _ hS U z1 z2)) hP hK hD (va_recv hK hP (ci := 0) (q0 := 1) rfl rfl)) rfl rfl hl.1 rfl (lv_room (Nat.le_of_ble_eq_true rfl)) d_Tb_constantsFit_57 ⟨by decide, by decide⟩) hS (fun q _ h => hFc q h) hFc (fun r_ u t H locs ht hvm hw hB hz1 hk1 hS => ?_)
          rw [hw]
          obtain ⟨hP, -, hD⟩ := hB
          rw [ht] at hP
          have hD := lx_dj hD hFc
          refine lv_aload_n hx hb d_Tb_constantsFit_60 rfl (lv_at hl 0 rfl) ?_
          refine va_get (D := (dC, dI)) (ci := 4) (v := .ref M.o_Dk) (C := R_Tb) (T := F_Tb) (N := 10) hx hb hts (fun w h => u_Vq_Tb w (i_Tb w h)) hown hK hP 3 rfl rfl 0 (by decide) (hts _ (u_Vq_Tb _ k_Tb_6)) (fun _ h9 => h9) rfl d_Tb_constantsFit_61 ?_
          refine va_get (D := (dC, dI)) (ci := 0) (v := .int S_9.v_Dk_sectors) (C := R_Dk) (T := F_Dk) (N := 3) hx hb hts (fun w h => u_Vq_Dk w (i_Dk w h)) hown hK hP 1 rfl rfl 0 (by decide) (hts _ (u_Vq_Tb _ k_Tb_1)) (fun _ h9 => h9) rfl d_Tb_constantsFit_64 ?_
          refine lv_icmp_ne (tgt := 116) hx hb d_Tb_constantsFit_67 (by decide) (fun c_10 => ?_) (fun c_10 => ?_)
          · have h := lf_f h c_10
            exact hB_116 S_9 _ _ _ h hP hD hS (lv_sub hl [] rfl)
          · have h := lf_t h c_10
            refine lv_aload_n hx hb d_Tb_constantsFit_70 rfl (lv_at hl 0 rfl) ?_
            refine va_get (D := (dC, dI)) (ci := 4) (v := .ref M.o_Dk) (C := R_Tb) (T := F_Tb) (N := 10) hx hb hts (fun w h => u_Vq_Tb w (i_Tb w h)) hown hK hP 3 rfl rfl 0 (by decide) (hts _ (u_Vq_Tb _ k_Tb_6)) (fun _ h9 => h9) rfl d_Tb_constantsFit_71 ?_
            refine lv_bipush (v := 48) hx hb d_Tb_constantsFit_74 (by decide) ?_
            obtain ⟨r_11, S_11, hc_11, h⟩ := lf_cE h
            have hFc := lx_free hD hS hA
            refine va_calli (va_runV (As := [.int 48]) (rest := []) ⟨hx, hb, hml, hown, hts⟩ (l_Dk_two l dC dI X _ hc_11) (cwV 1 hts (gwV good_Vq (u_Vq_Tb _ k_Tb_23) (u_Vq_Dk _ k_Dk_17) (u_Vq_Dk _ k_Dk_18) (u_Vq_Dk _ k_Dk_0) (wcs (u_Vq_Dk _ k_Dk_19) (fun _ h => h))) rfl rfl rfl (by decide +kernel) ⟨Nat.le_of_ble_eq_true rfl, Nat.le_of_ble_eq_true rfl⟩) (pv_ofE (X.same _) (fun U z1 z2 => X.mono _ _ U hFc (hEw _ _ hS U z1 z2)) hP hK hD (va_recv hK hP (ci := 0) (q0 := 1) rfl rfl)) rfl rfl hl.1 rfl (lv_room (Nat.le_of_ble_eq_true rfl)) d_Tb_constantsFit_76 ⟨by decide, by decide⟩) hS (fun q _ h => hFc q h) hFc (fun r_ u t H locs ht hvm hw hB hz1 hk1 hS => ?_)
            rw [hw]
            obtain ⟨hP, -, hD⟩ := hB
            rw [ht] at hP
            have hD := lx_dj hD hFc
            refine lv_iconst (v := 1) hx hb d_Tb_constantsFit_79 (by decide) ?_
            refine lv_icmp_ne (tgt := 116) hx hb d_Tb_constantsFit_80 (by decide) (fun c_12 => ?_) (fun c_12 => ?_)
            · have h := lf_f h c_12
              exact hB_116 S_11 _ _ _ h hP hD hS (lv_sub hl [] rfl)
            · have h := lf_t h c_12
              refine lv_aload_n hx hb d_Tb_constantsFit_83 rfl (lv_at hl 0 rfl) ?_
              refine va_get (D := (dC, dI)) (ci := 4) (v := .ref M.o_Dk) (C := R_Tb) (T := F_Tb) (N := 10) hx hb hts (fun w h => u_Vq_Tb w (i_Tb w h)) hown hK hP 3 rfl rfl 0 (by decide) (hts _ (u_Vq_Tb _ k_Tb_6)) (fun _ h9 => h9) rfl d_Tb_constantsFit_84 ?_
              refine lv_bipush (v := 50) hx hb d_Tb_constantsFit_87 (by decide) ?_
              obtain ⟨r_13, S_13, hc_13, h⟩ := lf_cE h
              have hFc := lx_free hD hS hA
              refine va_calli (va_runV (As := [.int 50]) (rest := []) ⟨hx, hb, hml, hown, hts⟩ (l_Dk_two l dC dI X _ hc_13) (cwV 1 hts (gwV good_Vq (u_Vq_Tb _ k_Tb_23) (u_Vq_Dk _ k_Dk_17) (u_Vq_Dk _ k_Dk_18) (u_Vq_Dk _ k_Dk_0) (wcs (u_Vq_Dk _ k_Dk_19) (fun _ h => h))) rfl rfl rfl (by decide +kernel) ⟨Nat.le_of_ble_eq_true rfl, Nat.le_of_ble_eq_true rfl⟩) (pv_ofE (X.same _) (fun U z1 z2 => X.mono _ _ U hFc (hEw _ _ hS U z1 z2)) hP hK hD (va_recv hK hP (ci := 0) (q0 := 1) rfl rfl)) rfl rfl hl.1 rfl (lv_room (Nat.le_of_ble_eq_true rfl)) d_Tb_constantsFit_89 ⟨by decide, by decide⟩) hS (fun q _ h => hFc q h) hFc (fun r_ u t H locs ht hvm hw hB hz1 hk1 hS => ?_)
              rw [hw]
              obtain ⟨hP, -, hD⟩ := hB
              rw [ht] at hP
              have hD := lx_dj hD hFc
              refine lv_bipush (v := 6) hx hb d_Tb_constantsFit_92 (by decide) ?_
              refine lv_icmp_ne (tgt := 116) hx hb d_Tb_constantsFit_94 (by decide) (fun c_14 => ?_) (fun c_14 => ?_)
              · have h := lf_f h c_14
                exact hB_116 S_13 _ _ _ h hP hD hS (lv_sub hl [] rfl)
              · have h := lf_t h c_14
                refine lv_aload_n hx hb d_Tb_constantsFit_97 rfl (lv_at hl 0 rfl) ?_
                refine va_get (D := (dC, dI)) (ci := 4) (v := .ref M.o_Dk) (C := R_Tb) (T := F_Tb) (N := 10) hx hb hts (fun w h => u_Vq_Tb w (i_Tb w h)) hown hK hP 3 rfl rfl 0 (by decide) (hts _ (u_Vq_Tb _ k_Tb_6)) (fun _ h9 => h9) rfl d_Tb_constantsFit_98 ?_
                refine lv_sipush (v := 510) hx hb d_Tb_constantsFit_101 (by decide) ?_
                obtain ⟨r_15, S_15, hc_15, h⟩ := lf_cE h
                have hFc := lx_free hD hS hA
                refine va_calli (va_runV (As := [.int 510]) (rest := []) ⟨hx, hb, hml, hown, hts⟩ (l_Dk_two l dC dI X _ hc_15) (cwV 1 hts (gwV good_Vq (u_Vq_Tb _ k_Tb_23) (u_Vq_Dk _ k_Dk_17) (u_Vq_Dk _ k_Dk_18) (u_Vq_Dk _ k_Dk_0) (wcs (u_Vq_Dk _ k_Dk_19) (fun _ h => h))) rfl rfl rfl (by decide +kernel) ⟨Nat.le_of_ble_eq_true rfl, Nat.le_of_ble_eq_true rfl⟩) (pv_ofE (X.same _) (fun U z1 z2 => X.mono _ _ U hFc (hEw _ _ hS U z1 z2)) hP hK hD (va_recv hK hP (ci := 0) (q0 := 1) rfl rfl)) rfl rfl hl.1 rfl (lv_room (Nat.le_of_ble_eq_true rfl)) d_Tb_constantsFit_104 ⟨by decide, by decide⟩) hS (fun q _ h => hFc q h) hFc (fun r_ u t H locs ht hvm hw hB hz1 hk1 hS => ?_)
                rw [hw]
                obtain ⟨hP, -, hD⟩ := hB
                rw [ht] at hP
                have hD := lx_dj hD hFc
                refine lv_ldc (v := 43605) hx hb hown (hts _ (u_Vq_Tb _ k_Tb_28)) d_Tb_constantsFit_107 ?_
                refine lv_icmp_ne (tgt := 116) hx hb d_Tb_constantsFit_109 (by decide) (fun c_16 => ?_) (fun c_16 => ?_)
                · have h := lf_f h c_16
                  exact hB_116 S_15 _ _ _ h hP hD hS (lv_sub hl [] rfl)
                · have h := lf_t h c_16
                  refine lv_iconst (v := 1) hx hb d_Tb_constantsFit_112 (by decide) ?_
                  refine lv_goto (tgt := 117) hx hb d_Tb_constantsFit_113 (by decide) ?_
                  rw [hQ]
                  have e1 : (1 : Int32) = r := congrArg Prod.fst (Option.some.inj h)
                  have e2 : S_15 = S' := congrArg Prod.snd (Option.some.inj h)
                  have hP := ly_newP e2.symm hP
                  have hD := ly_newD e2.symm hD
                  exact W.zret (v := 1) hx hb hr rfl (fun t ht hW => ⟨⟨1, (), rfl, e1, by rw [ht]; exact hP, va_K.moved hW.alike hK, hD⟩, hS.F ht⟩) hS.2.2 d_Tb_constantsFit_117
