/-- the cells of a Tape: its bytes tb, those that are ready tr, how many it has -/
abbrev wTp (t0 t1 t2 : Nat) (c1 c2 : ClassId) (u : (Nat → Int32) × (Nat → Int32) × Int32) : va_W := [(t0, .inr (3, [.ref t1, .ref t2, .int u.2.2])), (t1, .inl (c1, 4096, .inl u.1)), (t2, .inl (c2, 20, .inl u.2.1))]
def tp_byte (v k : Int32) : Int32 := vp_nar .byte (v >>> ((24 - 8 * k) &&& 31)).toInt8.toInt32
def tp_prep (tr : Nat → Int32) (a : Nat) (v : Int32) : Nat → Int32 := upd (upd (upd (upd tr (nI a + 0).toNatClampNeg (tp_byte v 0)) (nI a + 1).toNatClampNeg (tp_byte v 1)) (nI a + 2).toNatClampNeg (tp_byte v 2)) (nI a + 3).toNatClampNeg (tp_byte v 3)
def tp_one (tb : Nat → Int32) (a : Int32) : Int32 := if a < 0 then 0 else if 4096 ≤ a then 0 else tb a.toNatClampNeg &&& 255
set_option maxHeartbeats 4000000 in
set_option maxRecDepth 100000 in
/-- Tape() -/
theorem c_Tp_init (l : Launch) (dC : Nat → ClassId) (dI : Nat → Nat → Nat) (t0 sz : Nat) : Met l y_Tp_init (.code y_Tp_init b_Tp_init 1 none :: V_Tp) ({ frames := 1, cells := 2, slots := 4116, locals := 12 }) (va_Pc [.ref t0] (fun U => U.heap.size = sz ∧ at_ (dC, dI) (fun _ => True) [(t0, .inr (3, [.null, .null, .int 0]))] [] U)) (va_Qv (fun u : (Nat × Nat) × (ClassId × ClassId) => True) (fun (u : (Nat × Nat) × (ClassId × ClassId)) t => at_ (dC, dI) (va_A [(t0, .inr (3, [.null, .null, .int 0]))] sz) (wTp t0 u.1.1 u.1.2 u.2.1 u.2.2 ((fun _ => 0), (fun _ => 0), 0)) [(u.2.1, .byte), (u.2.2, .byte)] t) (va_A [(t0, .inr (3, [.null, .null, .int 0]))] sz)) 2 4116 (va_A [(t0, .inr (3, [.null, .null, .int 0]))] sz) := by
  refine Met.ofW (cc := b_Tp_init) (maxL := 1) (ret := none) (by decide) rfl ?_
  intro p e s m args below meth c s₁ B hml hv
  obtain ⟨rfl, hsz, hP, hK, hD0⟩ := hv
  have hx := B.exec
  have hb := B.bytes
  have hr := B.returns
  have hts0 := atoms_spec (ws := .code y_Tp_init b_Tp_init 1 none :: V_Tp) B.pre
  have hts : ∀ w ∈ V_Tp, w.before ([.ref t0] : List Value).toArray s = true := fun w h => hts0 w (List.mem_cons_of_mem _ h)
  have hown : s.vm.findClass R_Tp = some m.cls := findClass_of_methodNamed B.named
  have hlocks := B.notSynchronized
  have hin : meth.name = "<init>" := (name_of_methodNamed B.named B.method).1
  subst hsz
  have hD := hD0.self (sz := s.heap.size)
  generalize hAe : va_A [(t0, .inr (3, [.null, .null, .int 0]))] s.heap.size = A at hD ⊢
  have hA : ∀ q : Nat, s.heap.size ≤ q → A q := fun q h => by rw [← hAe]; exact Or.inr h
  have hS : va_S A s.heap s.heap [] := va_S.rf
  have hP : va_P (dC, dI) classes [(t0, .inr (3, [.null, .null, .int 0]))] s.heap := hP
  have hK : va_K (dC, dI) classes [] s := hK
  have hl := lv_entry ([.ref t0]) (n := 1) (Nat.le_of_ble_eq_true rfl)
  rw [lg_entry_eq]
  generalize (lg_sl ([.ref t0]) ++ List.replicate (1 - (lg_sl ([.ref t0])).length) Slot.unset).toArray = ls at hl ⊢
  have hl : lv_has ls 1 [(0, .ref t0)] := hl
  refine lv_aload_n hx hb d_Tp_init_0 rfl (lv_at hl 0 rfl) ?_
  refine W.objInit hx hb hown (hts _ (k_Tp_4)) (hts _ (u_Tp_J _ k_J_3)) (hts _ (u_Tp_J _ k_J_4)) rfl (by rw [hml]; exact hl.1) rfl d_Tp_init_1 (Nat.le_of_ble_eq_true rfl) (Nat.le_of_ble_eq_true rfl) ?_
  refine W.eq (g2 := F0 m 4 ls []) rfl ?_
  refine lv_aload_n hx hb d_Tp_init_4 rfl (lv_at hl 0 rfl) ?_
  refine lv_sipush (v := 4096) hx hb d_Tp_init_5 (by decide) ?_
  refine va_newa (atype := .byte) (N' := 4096) (a0 := (4096, .inl (fun _ => 0))) hx hb (hts _ (u_Tp_J _ k_J_10)) rfl hK hP hD hS hA (fun _ => rfl) (by decide) (by decide) (by decide) (by decide) (by decide) d_Tp_init_8 (fun q_1 cA_q_1 H hK hP hD hS => ?_)
  have hP : va_P (dC, dI) classes [(t0, .inr (3, [.null, .null, .int 0])), (q_1, .inl (cA_q_1, 4096, .inl ((fun _ => 0))))] H := hP
  have hD : va_D A [(t0, .inr (3, [.null, .null, .int 0])), (q_1, .inl (cA_q_1, 4096, .inl ((fun _ => 0))))] := hD
  have hK : va_K (dC, dI) classes [(cA_q_1, .byte)] s := hK
  refine va_putF (D := (dC, dI)) (ci := 3) (v := .ref q_1) (ty := .array .byte) (C := R_Tp) (T := F_Tp) (N := 3) hx hb hts i_Tp t_Tp t_Tp_ok n_Tp hown hK hP hD hS 0 rfl rfl 0 (by decide) (hts _ (k_Tp_5)) (fun _ h9 => h9) rfl hin rfl (by decide +kernel) rfl rfl (Nat.le_of_ble_eq_true rfl) d_Tp_init_10 (fun H locs hP hD hS => ?_)
  have hP : va_P (dC, dI) classes [(t0, .inr (3, [.ref q_1, .null, .int 0])), (q_1, .inl (cA_q_1, 4096, .inl ((fun _ => 0))))] H := hP
  have hD : va_D A [(t0, .inr (3, [.ref q_1, .null, .int 0])), (q_1, .inl (cA_q_1, 4096, .inl ((fun _ => 0))))] := hD
  refine lv_aload_n hx hb d_Tp_init_13 rfl (lv_at hl 0 rfl) ?_
  refine lv_bipush (v := 20) hx hb d_Tp_init_14 (by decide) ?_
  refine va_newa (atype := .byte) (N' := 20) (a0 := (20, .inl (fun _ => 0))) hx hb (hts _ (u_Tp_J _ k_J_10)) rfl hK hP hD hS hA (fun _ => rfl) (by decide) (by decide) (by decide) (by decide) (by decide) d_Tp_init_16 (fun q_2 cA_q_2 H hK hP hD hS => ?_)
  have hP : va_P (dC, dI) classes [(t0, .inr (3, [.ref q_1, .null, .int 0])), (q_1, .inl (cA_q_1, 4096, .inl ((fun _ => 0)))), (q_2, .inl (cA_q_2, 20, .inl ((fun _ => 0))))] H := hP
  have hD : va_D A [(t0, .inr (3, [.ref q_1, .null, .int 0])), (q_1, .inl (cA_q_1, 4096, .inl ((fun _ => 0)))), (q_2, .inl (cA_q_2, 20, .inl ((fun _ => 0))))] := hD
  have hK : va_K (dC, dI) classes [(cA_q_1, .byte), (cA_q_2, .byte)] s := hK
  refine va_putF (D := (dC, dI)) (ci := 3) (v := .ref q_2) (ty := .array .byte) (C := R_Tp) (T := F_Tp) (N := 3) hx hb hts i_Tp t_Tp t_Tp_ok n_Tp hown hK hP hD hS 0 rfl rfl 1 (by decide) (hts _ (k_Tp_6)) (fun _ h9 => h9) rfl hin rfl (by decide +kernel) rfl rfl (Nat.le_of_ble_eq_true rfl) d_Tp_init_18 (fun H locs hP hD hS => ?_)
  have hP : va_P (dC, dI) classes [(t0, .inr (3, [.ref q_1, .ref q_2, .int 0])), (q_1, .inl (cA_q_1, 4096, .inl ((fun _ => 0)))), (q_2, .inl (cA_q_2, 20, .inl ((fun _ => 0))))] H := hP
  have hD : va_D A [(t0, .inr (3, [.ref q_1, .ref q_2, .int 0])), (q_1, .inl (cA_q_1, 4096, .inl ((fun _ => 0)))), (q_2, .inl (cA_q_2, 20, .inl ((fun _ => 0))))] := hD
  refine lv_aload_n hx hb d_Tp_init_21 rfl (lv_at hl 0 rfl) ?_
  refine lv_iconst (v := 0) hx hb d_Tp_init_22 (by decide) ?_
  refine va_put (D := (dC, dI)) (ci := 3) (v := .int 0) (ty := .int) (C := R_Tp) (T := F_Tp) (N := 3) hx hb hts i_Tp t_Tp t_Tp_ok n_Tp hown hK hP hD hS 0 rfl rfl 2 (by decide) (hts _ (k_Tp_7)) (fun _ h9 => h9) rfl (by decide +kernel) rfl rfl (Nat.le_of_ble_eq_true rfl) d_Tp_init_23 (fun H locs hP hD hS => ?_)
  have hP : va_P (dC, dI) classes [(t0, .inr (3, [.ref q_1, .ref q_2, .int 0])), (q_1, .inl (cA_q_1, 4096, .inl ((fun _ => 0)))), (q_2, .inl (cA_q_2, 20, .inl ((fun _ => 0))))] H := hP
  have hD : va_D A [(t0, .inr (3, [.ref q_1, .ref q_2, .int 0])), (q_1, .inl (cA_q_1, 4096, .inl ((fun _ => 0)))), (q_2, .inl (cA_q_2, 20, .inl ((fun _ => 0))))] := hD
  refine W.widen (k := 2) (n := 4116) (by omega) (by omega) ?_
  exact W.vret hx hb hr (fun t ht hW => ⟨⟨((q_1, q_2), (cA_q_1, cA_q_2)), rfl, trivial, by rw [ht]; exact hP, va_K.moved hW.alike hK, hD⟩, hS.F ht⟩) hS.2.2 d_Tp_init_26
set_option maxHeartbeats 4000000 in
set_option maxRecDepth 100000 in
/-- useUp: how many it had -/
theorem c_Tp_useUp (l : Launch) (dC : Nat → ClassId) (dI : Nat → Nat → Nat) (t0 t1 t2 sz : Nat) (c1 c2 : ClassId) (tb tr : Nat → Int32) (us : Int32) : Met l y_Tp_useUp (.code y_Tp_useUp b_Tp_useUp 2 (some .int) :: V_Tp) ({ frames := 0, cells := 0, slots := 0, locals := 0 }) (va_Pc [.ref t0] (fun U => U.heap.size = sz ∧ at_ (dC, dI) (fun _ => True) [(t0, .inr (3, [.ref t1, .ref t2, .int us])), (t1, .inl (c1, 4096, .inl tb)), (t2, .inl (c2, 20, .inl tr))] [(c1, .byte), (c2, .byte)] U)) (va_Qi (fun (r : Int32) (u : (Nat → Int32) × (Nat → Int32) × Int32) => r = us ∧ u = (tb, tr, 0)) (fun (u : (Nat → Int32) × (Nat → Int32) × Int32) t => at_ (dC, dI) (va_A [(t0, .inr (3, [.ref t1, .ref t2, .int us])), (t1, .inl (c1, 4096, .inl tb)), (t2, .inl (c2, 20, .inl tr))] sz) (wTp t0 t1 t2 c1 c2 u) [(c1, .byte), (c2, .byte)] t) (va_A [(t0, .inr (3, [.ref t1, .ref t2, .int us])), (t1, .inl (c1, 4096, .inl tb)), (t2, .inl (c2, 20, .inl tr))] sz)) 0 0 (va_A [(t0, .inr (3, [.ref t1, .ref t2, .int us])), (t1, .inl (c1, 4096, .inl tb)), (t2, .inl (c2, 20, .inl tr))] sz) := by
  refine Met.ofW (cc := b_Tp_useUp) (maxL := 2) (ret := (some .int)) (by decide) rfl ?_
  intro p e s m args below meth c s₁ B hml hv
  obtain ⟨rfl, hsz, hP, hK, hD0⟩ := hv
  have hx := B.exec
  have hb := B.bytes
  have hr := B.returns
  have hts0 := atoms_spec (ws := .code y_Tp_useUp b_Tp_useUp 2 (some .int) :: V_Tp) B.pre
  have hts : ∀ w ∈ V_Tp, w.before ([.ref t0] : List Value).toArray s = true := fun w h => hts0 w (List.mem_cons_of_mem _ h)
  have hown : s.vm.findClass R_Tp = some m.cls := findClass_of_methodNamed B.named
  have hlocks := B.notSynchronized
  subst hsz
  have hD := hD0.self (sz := s.heap.size)
  generalize hAe : va_A [(t0, .inr (3, [.ref t1, .ref t2, .int us])), (t1, .inl (c1, 4096, .inl tb)), (t2, .inl (c2, 20, .inl tr))] s.heap.size = A at hD ⊢
  have hA : ∀ q : Nat, s.heap.size ≤ q → A q := fun q h => by rw [← hAe]; exact Or.inr h
  have hS : va_S A s.heap s.heap [] := va_S.rf
  have hP : va_P (dC, dI) classes [(t0, .inr (3, [.ref t1, .ref t2, .int us])), (t1, .inl (c1, 4096, .inl tb)), (t2, .inl (c2, 20, .inl tr))] s.heap := hP
  have hK : va_K (dC, dI) classes [(c1, .byte), (c2, .byte)] s := hK
  have hl := lv_entry ([.ref t0]) (n := 2) (Nat.le_of_ble_eq_true rfl)
  rw [lg_entry_eq]
  generalize (lg_sl ([.ref t0]) ++ List.replicate (2 - (lg_sl ([.ref t0])).length) Slot.unset).toArray = ls at hl ⊢
  have hl : lv_has ls 2 [(0, .ref t0)] := hl
  refine lv_aload_n hx hb d_Tp_useUp_0 rfl (lv_at hl 0 rfl) ?_
  refine va_get (D := (dC, dI)) (ci := 3) (v := .int us) (C := R_Tp) (T := F_Tp) (N := 3) hx hb hts i_Tp hown hK hP 0 rfl rfl 2 (by decide) (hts _ (k_Tp_7)) (fun _ h9 => h9) rfl d_Tp_useUp_1 ?_
  refine lv_istore_n (lv' := [(1, .int us), (0, .ref t0)]) hx hb d_Tp_useUp_4 rfl hl (by decide) rfl (fun ls hl => ?_)
  refine lv_aload_n hx hb d_Tp_useUp_5 rfl (lv_at hl 1 rfl) ?_
  refine lv_iconst (v := 0) hx hb d_Tp_useUp_6 (by decide) ?_
  refine va_put (D := (dC, dI)) (ci := 3) (v := .int 0) (ty := .int) (C := R_Tp) (T := F_Tp) (N := 3) hx hb hts i_Tp t_Tp t_Tp_ok n_Tp hown hK hP hD hS 0 rfl rfl 2 (by decide) (hts _ (k_Tp_7)) (fun _ h9 => h9) rfl (by decide +kernel) rfl rfl (Nat.le_of_ble_eq_true rfl) d_Tp_useUp_7 (fun H locs hP hD hS => ?_)
  have hP : va_P (dC, dI) classes [(t0, .inr (3, [.ref t1, .ref t2, .int 0])), (t1, .inl (c1, 4096, .inl tb)), (t2, .inl (c2, 20, .inl tr))] H := hP
  have hD : va_D A [(t0, .inr (3, [.ref t1, .ref t2, .int 0])), (t1, .inl (c1, 4096, .inl tb)), (t2, .inl (c2, 20, .inl tr))] := hD
  refine lv_iload_n hx hb d_Tp_useUp_10 rfl (lv_at hl 0 rfl) ?_
  exact W.iret (v := us) hx hb hr (fun t ht hW => ⟨⟨us, (tb, tr, 0), rfl, ⟨rfl, rfl⟩, by rw [ht]; exact hP, va_K.moved hW.alike hK, hD⟩, hS.F ht⟩) hS.2.2 d_Tp_useUp_11
set_option maxHeartbeats 4000000 in
set_option maxRecDepth 100000 in
/-- a byte of the tape -/
theorem c_Tp_one (l : Launch) (dC : Nat → ClassId) (dI : Nat → Nat → Nat) (t0 t1 t2 sz : Nat) (c1 c2 : ClassId) (tb tr : Nat → Int32) (us : Int32) (p1 : Int32) : Met l y_Tp_one (.code y_Tp_one b_Tp_one 2 (some .int) :: V_Tp) ({ frames := 0, cells := 0, slots := 0, locals := 0 }) (va_Pc [.ref t0, .int p1] (fun U => U.heap.size = sz ∧ at_ (dC, dI) (fun _ => True) [(t0, .inr (3, [.ref t1, .ref t2, .int us])), (t1, .inl (c1, 4096, .inl tb)), (t2, .inl (c2, 20, .inl tr))] [(c1, .byte), (c2, .byte)] U)) (va_Qi (fun (r : Int32) (u : (Nat → Int32) × (Nat → Int32) × Int32) => r = tp_one tb p1 ∧ u = (tb, tr, us)) (fun (u : (Nat → Int32) × (Nat → Int32) × Int32) t => at_ (dC, dI) (va_A [(t0, .inr (3, [.ref t1, .ref t2, .int us])), (t1, .inl (c1, 4096, .inl tb)), (t2, .inl (c2, 20, .inl tr))] sz) (wTp t0 t1 t2 c1 c2 u) [(c1, .byte), (c2, .byte)] t) (va_A [(t0, .inr (3, [.ref t1, .ref t2, .int us])), (t1, .inl (c1, 4096, .inl tb)), (t2, .inl (c2, 20, .inl tr))] sz)) 0 0 (va_A [(t0, .inr (3, [.ref t1, .ref t2, .int us])), (t1, .inl (c1, 4096, .inl tb)), (t2, .inl (c2, 20, .inl tr))] sz) := by
  refine Met.ofW (cc := b_Tp_one) (maxL := 2) (ret := (some .int)) (by decide) rfl ?_
  intro p e s m args below meth c s₁ B hml hv
  obtain ⟨rfl, hsz, hP, hK, hD0⟩ := hv
  have hx := B.exec
  have hb := B.bytes
  have hr := B.returns
  have hts0 := atoms_spec (ws := .code y_Tp_one b_Tp_one 2 (some .int) :: V_Tp) B.pre
  have hts : ∀ w ∈ V_Tp, w.before ([.ref t0, .int p1] : List Value).toArray s = true := fun w h => hts0 w (List.mem_cons_of_mem _ h)
  have hown : s.vm.findClass R_Tp = some m.cls := findClass_of_methodNamed B.named
  have hlocks := B.notSynchronized
  subst hsz
  have hD := hD0.self (sz := s.heap.size)
  generalize hAe : va_A [(t0, .inr (3, [.ref t1, .ref t2, .int us])), (t1, .inl (c1, 4096, .inl tb)), (t2, .inl (c2, 20, .inl tr))] s.heap.size = A at hD ⊢
  have hA : ∀ q : Nat, s.heap.size ≤ q → A q := fun q h => by rw [← hAe]; exact Or.inr h
  have hS : va_S A s.heap s.heap [] := va_S.rf
  have hP : va_P (dC, dI) classes [(t0, .inr (3, [.ref t1, .ref t2, .int us])), (t1, .inl (c1, 4096, .inl tb)), (t2, .inl (c2, 20, .inl tr))] s.heap := hP
  have hK : va_K (dC, dI) classes [(c1, .byte), (c2, .byte)] s := hK
  have hl := lv_entry ([.ref t0, .int p1]) (n := 2) (Nat.le_of_ble_eq_true rfl)
  rw [lg_entry_eq]
  generalize (lg_sl ([.ref t0, .int p1]) ++ List.replicate (2 - (lg_sl ([.ref t0, .int p1])).length) Slot.unset).toArray = ls at hl ⊢
  have hl : lv_has ls 2 [(0, .ref t0), (1, .int p1)] := hl
  refine lv_iload_n hx hb d_Tp_one_0 rfl (lv_at hl 1 rfl) ?_
  refine lv_if_lt (tgt := 24) hx hb d_Tp_one_1 (by decide) (fun c_1 => ?_) (fun c_1 => ?_)
  · refine lv_iconst (v := 0) hx hb d_Tp_one_24 (by decide) ?_
    exact W.iret (v := 0) hx hb hr (fun t ht hW => ⟨⟨0, (tb, tr, us), rfl, ⟨by rw [tp_one, if_pos c_1], rfl⟩, by rw [ht]; exact hP, va_K.moved hW.alike hK, hD⟩, hS.F ht⟩) hS.2.2 d_Tp_one_25
  · refine lv_iload_n hx hb d_Tp_one_4 rfl (lv_at hl 1 rfl) ?_
    refine lv_sipush (v := 4096) hx hb d_Tp_one_5 (by decide) ?_
    refine lv_icmp_ge (tgt := 24) hx hb d_Tp_one_8 (by decide) (fun c_2 => ?_) (fun c_2 => ?_)
    · refine lv_iconst (v := 0) hx hb d_Tp_one_24 (by decide) ?_
      exact W.iret (v := 0) hx hb hr (fun t ht hW => ⟨⟨0, (tb, tr, us), rfl, ⟨by rw [tp_one, if_neg c_1, if_pos c_2], rfl⟩, by rw [ht]; exact hP, va_K.moved hW.alike hK, hD⟩, hS.F ht⟩) hS.2.2 d_Tp_one_25
    · refine lv_aload_n hx hb d_Tp_one_11 rfl (lv_at hl 0 rfl) ?_
      refine va_get (D := (dC, dI)) (ci := 3) (v := .ref t1) (C := R_Tp) (T := F_Tp) (N := 3) hx hb hts i_Tp hown hK hP 0 rfl rfl 0 (by decide) (hts _ (k_Tp_5)) (fun _ h9 => h9) rfl d_Tp_one_12 ?_
      refine lv_iload_n hx hb d_Tp_one_15 rfl (lv_at hl 1 rfl) ?_
      refine va_bald hx hb hK hP 1 0 rfl rfl (in_of (n := 4096) c_1 c_2 (by decide)) d_Tp_one_16 ?_
      refine lv_sipush (v := 255) hx hb d_Tp_one_17 (by decide) ?_
      refine lv_iand hx hb d_Tp_one_20 ?_
      refine lv_goto (tgt := 25) hx hb d_Tp_one_21 (by decide) ?_
      exact W.iret (v := ((tb p1.toNatClampNeg) &&& 255)) hx hb hr (fun t ht hW => ⟨⟨((tb p1.toNatClampNeg) &&& 255), (tb, tr, us), rfl, ⟨by rw [tp_one, if_neg c_1, if_neg c_2], rfl⟩, by rw [ht]; exact hP, va_K.moved hW.alike hK, hD⟩, hS.F ht⟩) hS.2.2 d_Tp_one_25
set_option maxHeartbeats 4000000 in
set_option maxRecDepth 100000 in
/-- prepare: four bytes that are ready -/
theorem c_Tp_prepare (l : Launch) (dC : Nat → ClassId) (dI : Nat → Nat → Nat) (t0 t1 t2 sz : Nat) (c1 c2 : ClassId) (tb tr : Nat → Int32) (us : Int32) (a : Nat) (ha : a + 4 ≤ 20) (p2 : Int32) : Met l y_Tp_prepare (.code y_Tp_prepare b_Tp_prepare 4 none :: V_Tp) ({ frames := 0, cells := 0, slots := 0, locals := 0 }) (va_Pc [.ref t0, .int (nI a), .int p2] (fun U => U.heap.size = sz ∧ at_ (dC, dI) (fun _ => True) [(t0, .inr (3, [.ref t1, .ref t2, .int us])), (t1, .inl (c1, 4096, .inl tb)), (t2, .inl (c2, 20, .inl tr))] [(c1, .byte), (c2, .byte)] U)) (va_Qv (fun u : (Nat → Int32) × (Nat → Int32) × Int32 => u = (tb, tp_prep tr a p2, us)) (fun (u : (Nat → Int32) × (Nat → Int32) × Int32) t => at_ (dC, dI) (va_A [(t0, .inr (3, [.ref t1, .ref t2, .int us])), (t1, .inl (c1, 4096, .inl tb)), (t2, .inl (c2, 20, .inl tr))] sz) (wTp t0 t1 t2 c1 c2 u) [(c1, .byte), (c2, .byte)] t) (va_A [(t0, .inr (3, [.ref t1, .ref t2, .int us])), (t1, .inl (c1, 4096, .inl tb)), (t2, .inl (c2, 20, .inl tr))] sz)) 0 0 (va_A [(t0, .inr (3, [.ref t1, .ref t2, .int us])), (t1, .inl (c1, 4096, .inl tb)), (t2, .inl (c2, 20, .inl tr))] sz) := by
  refine Met.ofW (cc := b_Tp_prepare) (maxL := 4) (ret := none) (by decide) rfl ?_
  intro p e s m args below meth c s₁ B hml hv
  obtain ⟨rfl, hsz, hP, hK, hD0⟩ := hv
  have hx := B.exec
  have hb := B.bytes
  have hr := B.returns
  have hts0 := atoms_spec (ws := .code y_Tp_prepare b_Tp_prepare 4 none :: V_Tp) B.pre
  have hts : ∀ w ∈ V_Tp, w.before ([.ref t0, .int (nI a), .int p2] : List Value).toArray s = true := fun w h => hts0 w (List.mem_cons_of_mem _ h)
  have hown : s.vm.findClass R_Tp = some m.cls := findClass_of_methodNamed B.named
  have hlocks := B.notSynchronized
  subst hsz
  have hD := hD0.self (sz := s.heap.size)
  generalize hAe : va_A [(t0, .inr (3, [.ref t1, .ref t2, .int us])), (t1, .inl (c1, 4096, .inl tb)), (t2, .inl (c2, 20, .inl tr))] s.heap.size = A at hD ⊢
  have hA : ∀ q : Nat, s.heap.size ≤ q → A q := fun q h => by rw [← hAe]; exact Or.inr h
  have hS : va_S A s.heap s.heap [] := va_S.rf
  have hP : va_P (dC, dI) classes [(t0, .inr (3, [.ref t1, .ref t2, .int us])), (t1, .inl (c1, 4096, .inl tb)), (t2, .inl (c2, 20, .inl tr))] s.heap := hP
  have hK : va_K (dC, dI) classes [(c1, .byte), (c2, .byte)] s := hK
  have hl := lv_entry ([.ref t0, .int (nI a), .int p2]) (n := 4) (Nat.le_of_ble_eq_true rfl)
  rw [lg_entry_eq]
  generalize (lg_sl ([.ref t0, .int (nI a), .int p2]) ++ List.replicate (4 - (lg_sl ([.ref t0, .int (nI a), .int p2])).length) Slot.unset).toArray = ls at hl ⊢
  have hl : lv_has ls 4 [(0, .ref t0), (1, .int (nI a)), (2, .int p2)] := hl
  refine lv_iconst (v := 0) hx hb d_Tp_prepare_0 (by decide) ?_
  refine lv_istore_n (lv' := [(3, .int 0), (0, .ref t0), (1, .int (nI a)), (2, .int p2)]) hx hb d_Tp_prepare_1 rfl hl (by decide) rfl (fun ls hl => ?_)
  refine lv_iload_n hx hb d_Tp_prepare_2 rfl (lv_at hl 0 rfl) ?_
  refine lv_iconst (v := 4) hx hb d_Tp_prepare_3 (by decide) ?_
  refine lv_icmp_ge (tgt := 43) hx hb d_Tp_prepare_4 (by decide) (fun c_1 => ?_) (fun c_1 => ?_)
  · exact absurd c_1 (by decide)
  · refine lv_iload_n hx hb d_Tp_prepare_7 rfl (lv_at hl 2 rfl) ?_
    refine lv_if_lt (tgt := 43) hx hb d_Tp_prepare_8 (by decide) (fun c_2 => ?_) (fun c_2 => ?_)
    · exact absurd c_2 (nI_pos (by omega))
    · refine lv_iload_n hx hb d_Tp_prepare_11 rfl (lv_at hl 2 rfl) ?_
      refine lv_iload_n hx hb d_Tp_prepare_12 rfl (lv_at hl 0 rfl) ?_
      refine lv_iadd hx hb d_Tp_prepare_13 ?_
      refine lv_bipush (v := 20) hx hb d_Tp_prepare_14 (by decide) ?_
      refine lv_icmp_ge (tgt := 43) hx hb d_Tp_prepare_16 (by decide) (fun c_3 => ?_) (fun c_3 => ?_)
      · exact absurd c_3 (nge_add (i := 0) (N := 20) (by omega) (by decide))
      · refine lv_aload_n hx hb d_Tp_prepare_19 rfl (lv_at hl 1 rfl) ?_
        refine va_get (D := (dC, dI)) (ci := 3) (v := .ref t2) (C := R_Tp) (T := F_Tp) (N := 3) hx hb hts i_Tp hown hK hP 0 rfl rfl 1 (by decide) (hts _ (k_Tp_6)) (fun _ h9 => h9) rfl d_Tp_prepare_20 ?_
        refine lv_iload_n hx hb d_Tp_prepare_23 rfl (lv_at hl 2 rfl) ?_
        refine lv_iload_n hx hb d_Tp_prepare_24 rfl (lv_at hl 0 rfl) ?_
        refine lv_iadd hx hb d_Tp_prepare_25 ?_
        refine lv_iload_n hx hb d_Tp_prepare_26 rfl (lv_at hl 3 rfl) ?_
        refine lv_bipush (v := 24) hx hb d_Tp_prepare_27 (by decide) ?_
        refine lv_bipush (v := 8) hx hb d_Tp_prepare_29 (by decide) ?_
        refine lv_iload_n hx hb d_Tp_prepare_31 rfl (lv_at hl 0 rfl) ?_
        refine lv_imul hx hb d_Tp_prepare_32 ?_
        refine lv_isub hx hb d_Tp_prepare_33 ?_
        refine lv_ishr hx hb d_Tp_prepare_34 ?_
        refine lv_i2b hx hb d_Tp_prepare_35 rfl ?_
        refine va_bast hx hb hK hP hD hS 2 1 rfl rfl (in_add (i := 0) (by omega) (by decide)) d_Tp_prepare_36 (fun H locs hP hD hS => ?_)
        have hP : va_P (dC, dI) classes [(t0, .inr (3, [.ref t1, .ref t2, .int us])), (t1, .inl (c1, 4096, .inl tb)), (t2, .inl (c2, 20, .inl (upd tr ((nI a) + 0).toNatClampNeg (vp_nar .byte ((p2 >>> ((24 - (8 * 0)) &&& 31)).toInt8.toInt32)))))] H := hP
        have hD : va_D A [(t0, .inr (3, [.ref t1, .ref t2, .int us])), (t1, .inl (c1, 4096, .inl tb)), (t2, .inl (c2, 20, .inl (upd tr ((nI a) + 0).toNatClampNeg (vp_nar .byte ((p2 >>> ((24 - (8 * 0)) &&& 31)).toInt8.toInt32)))))] := hD
        refine lv_iinc (v := 1) (lv' := [(3, .int 1), (0, .ref t0), (1, .int (nI a)), (2, .int p2)]) hx hb d_Tp_prepare_37 hl (k := 0) rfl (by decide) (by decide) rfl (fun ls hl => ?_)
        refine lv_goto (tgt := 2) hx hb d_Tp_prepare_40 (by decide) ?_
        refine lv_iload_n hx hb d_Tp_prepare_2 rfl (lv_at hl 0 rfl) ?_
        refine lv_iconst (v := 4) hx hb d_Tp_prepare_3 (by decide) ?_
        refine lv_icmp_ge (tgt := 43) hx hb d_Tp_prepare_4 (by decide) (fun c_4 => ?_) (fun c_4 => ?_)
        · exact absurd c_4 (by decide)
        · refine lv_iload_n hx hb d_Tp_prepare_7 rfl (lv_at hl 2 rfl) ?_
          refine lv_if_lt (tgt := 43) hx hb d_Tp_prepare_8 (by decide) (fun c_5 => ?_) (fun c_5 => ?_)
          · exact absurd c_5 (nI_pos (by omega))
          · refine lv_iload_n hx hb d_Tp_prepare_11 rfl (lv_at hl 2 rfl) ?_
            refine lv_iload_n hx hb d_Tp_prepare_12 rfl (lv_at hl 0 rfl) ?_
            refine lv_iadd hx hb d_Tp_prepare_13 ?_
            refine lv_bipush (v := 20) hx hb d_Tp_prepare_14 (by decide) ?_
            refine lv_icmp_ge (tgt := 43) hx hb d_Tp_prepare_16 (by decide) (fun c_6 => ?_) (fun c_6 => ?_)
            · exact absurd c_6 (nge_add (i := 1) (N := 20) (by omega) (by decide))
            · refine lv_aload_n hx hb d_Tp_prepare_19 rfl (lv_at hl 1 rfl) ?_
              refine va_get (D := (dC, dI)) (ci := 3) (v := .ref t2) (C := R_Tp) (T := F_Tp) (N := 3) hx hb hts i_Tp hown hK hP 0 rfl rfl 1 (by decide) (hts _ (k_Tp_6)) (fun _ h9 => h9) rfl d_Tp_prepare_20 ?_
              refine lv_iload_n hx hb d_Tp_prepare_23 rfl (lv_at hl 2 rfl) ?_
              refine lv_iload_n hx hb d_Tp_prepare_24 rfl (lv_at hl 0 rfl) ?_
              refine lv_iadd hx hb d_Tp_prepare_25 ?_
              refine lv_iload_n hx hb d_Tp_prepare_26 rfl (lv_at hl 3 rfl) ?_
              refine lv_bipush (v := 24) hx hb d_Tp_prepare_27 (by decide) ?_
              refine lv_bipush (v := 8) hx hb d_Tp_prepare_29 (by decide) ?_
              refine lv_iload_n hx hb d_Tp_prepare_31 rfl (lv_at hl 0 rfl) ?_
              refine lv_imul hx hb d_Tp_prepare_32 ?_
              refine lv_isub hx hb d_Tp_prepare_33 ?_
              refine lv_ishr hx hb d_Tp_prepare_34 ?_
              refine lv_i2b hx hb d_Tp_prepare_35 rfl ?_
              refine va_bast hx hb hK hP hD hS 2 1 rfl rfl (in_add (i := 1) (by omega) (by decide)) d_Tp_prepare_36 (fun H locs hP hD hS => ?_)
              have hP : va_P (dC, dI) classes [(t0, .inr (3, [.ref t1, .ref t2, .int us])), (t1, .inl (c1, 4096, .inl tb)), (t2, .inl (c2, 20, .inl (upd (upd tr ((nI a) + 0).toNatClampNeg (vp_nar .byte ((p2 >>> ((24 - (8 * 0)) &&& 31)).toInt8.toInt32))) ((nI a) + 1).toNatClampNeg (vp_nar .byte ((p2 >>> ((24 - (8 * 1)) &&& 31)).toInt8.toInt32)))))] H := hP
              have hD : va_D A [(t0, .inr (3, [.ref t1, .ref t2, .int us])), (t1, .inl (c1, 4096, .inl tb)), (t2, .inl (c2, 20, .inl (upd (upd tr ((nI a) + 0).toNatClampNeg (vp_nar .byte ((p2 >>> ((24 - (8 * 0)) &&& 31)).toInt8.toInt32))) ((nI a) + 1).toNatClampNeg (vp_nar .byte ((p2 >>> ((24 - (8 * 1)) &&& 31)).toInt8.toInt32)))))] := hD
              refine lv_iinc (v := 2) (lv' := [(3, .int 2), (0, .ref t0), (1, .int (nI a)), (2, .int p2)]) hx hb d_Tp_prepare_37 hl (k := 0) rfl (by decide) (by decide) rfl (fun ls hl => ?_)
              refine lv_goto (tgt := 2) hx hb d_Tp_prepare_40 (by decide) ?_
              refine lv_iload_n hx hb d_Tp_prepare_2 rfl (lv_at hl 0 rfl) ?_
              refine lv_iconst (v := 4) hx hb d_Tp_prepare_3 (by decide) ?_
              refine lv_icmp_ge (tgt := 43) hx hb d_Tp_prepare_4 (by decide) (fun c_7 => ?_) (fun c_7 => ?_)
              · exact absurd c_7 (by decide)
              · refine lv_iload_n hx hb d_Tp_prepare_7 rfl (lv_at hl 2 rfl) ?_
                refine lv_if_lt (tgt := 43) hx hb d_Tp_prepare_8 (by decide) (fun c_8 => ?_) (fun c_8 => ?_)
                · exact absurd c_8 (nI_pos (by omega))
                · refine lv_iload_n hx hb d_Tp_prepare_11 rfl (lv_at hl 2 rfl) ?_
                  refine lv_iload_n hx hb d_Tp_prepare_12 rfl (lv_at hl 0 rfl) ?_
                  refine lv_iadd hx hb d_Tp_prepare_13 ?_
                  refine lv_bipush (v := 20) hx hb d_Tp_prepare_14 (by decide) ?_
                  refine lv_icmp_ge (tgt := 43) hx hb d_Tp_prepare_16 (by decide) (fun c_9 => ?_) (fun c_9 => ?_)
                  · exact absurd c_9 (nge_add (i := 2) (N := 20) (by omega) (by decide))
                  · refine lv_aload_n hx hb d_Tp_prepare_19 rfl (lv_at hl 1 rfl) ?_
                    refine va_get (D := (dC, dI)) (ci := 3) (v := .ref t2) (C := R_Tp) (T := F_Tp) (N := 3) hx hb hts i_Tp hown hK hP 0 rfl rfl 1 (by decide) (hts _ (k_Tp_6)) (fun _ h9 => h9) rfl d_Tp_prepare_20 ?_
                    refine lv_iload_n hx hb d_Tp_prepare_23 rfl (lv_at hl 2 rfl) ?_
                    refine lv_iload_n hx hb d_Tp_prepare_24 rfl (lv_at hl 0 rfl) ?_
                    refine lv_iadd hx hb d_Tp_prepare_25 ?_
                    refine lv_iload_n hx hb d_Tp_prepare_26 rfl (lv_at hl 3 rfl) ?_
                    refine lv_bipush (v := 24) hx hb d_Tp_prepare_27 (by decide) ?_
                    refine lv_bipush (v := 8) hx hb d_Tp_prepare_29 (by decide) ?_
                    refine lv_iload_n hx hb d_Tp_prepare_31 rfl (lv_at hl 0 rfl) ?_
                    refine lv_imul hx hb d_Tp_prepare_32 ?_
                    refine lv_isub hx hb d_Tp_prepare_33 ?_
                    refine lv_ishr hx hb d_Tp_prepare_34 ?_
                    refine lv_i2b hx hb d_Tp_prepare_35 rfl ?_
                    refine va_bast hx hb hK hP hD hS 2 1 rfl rfl (in_add (i := 2) (by omega) (by decide)) d_Tp_prepare_36 (fun H locs hP hD hS => ?_)
                    have hP : va_P (dC, dI) classes [(t0, .inr (3, [.ref t1, .ref t2, .int us])), (t1, .inl (c1, 4096, .inl tb)), (t2, .inl (c2, 20, .inl (upd (upd (upd tr ((nI a) + 0).toNatClampNeg (vp_nar .byte ((p2 >>> ((24 - (8 * 0)) &&& 31)).toInt8.toInt32))) ((nI a) + 1).toNatClampNeg (vp_nar .byte ((p2 >>> ((24 - (8 * 1)) &&& 31)).toInt8.toInt32))) ((nI a) + 2).toNatClampNeg (vp_nar .byte ((p2 >>> ((24 - (8 * 2)) &&& 31)).toInt8.toInt32)))))] H := hP
                    have hD : va_D A [(t0, .inr (3, [.ref t1, .ref t2, .int us])), (t1, .inl (c1, 4096, .inl tb)), (t2, .inl (c2, 20, .inl (upd (upd (upd tr ((nI a) + 0).toNatClampNeg (vp_nar .byte ((p2 >>> ((24 - (8 * 0)) &&& 31)).toInt8.toInt32))) ((nI a) + 1).toNatClampNeg (vp_nar .byte ((p2 >>> ((24 - (8 * 1)) &&& 31)).toInt8.toInt32))) ((nI a) + 2).toNatClampNeg (vp_nar .byte ((p2 >>> ((24 - (8 * 2)) &&& 31)).toInt8.toInt32)))))] := hD
                    refine lv_iinc (v := 3) (lv' := [(3, .int 3), (0, .ref t0), (1, .int (nI a)), (2, .int p2)]) hx hb d_Tp_prepare_37 hl (k := 0) rfl (by decide) (by decide) rfl (fun ls hl => ?_)
                    refine lv_goto (tgt := 2) hx hb d_Tp_prepare_40 (by decide) ?_
                    refine lv_iload_n hx hb d_Tp_prepare_2 rfl (lv_at hl 0 rfl) ?_
                    refine lv_iconst (v := 4) hx hb d_Tp_prepare_3 (by decide) ?_
                    refine lv_icmp_ge (tgt := 43) hx hb d_Tp_prepare_4 (by decide) (fun c_10 => ?_) (fun c_10 => ?_)
                    · exact absurd c_10 (by decide)
                    · refine lv_iload_n hx hb d_Tp_prepare_7 rfl (lv_at hl 2 rfl) ?_
                      refine lv_if_lt (tgt := 43) hx hb d_Tp_prepare_8 (by decide) (fun c_11 => ?_) (fun c_11 => ?_)
                      · exact absurd c_11 (nI_pos (by omega))
                      · refine lv_iload_n hx hb d_Tp_prepare_11 rfl (lv_at hl 2 rfl) ?_
                        refine lv_iload_n hx hb d_Tp_prepare_12 rfl (lv_at hl 0 rfl) ?_
                        refine lv_iadd hx hb d_Tp_prepare_13 ?_
                        refine lv_bipush (v := 20) hx hb d_Tp_prepare_14 (by decide) ?_
                        refine lv_icmp_ge (tgt := 43) hx hb d_Tp_prepare_16 (by decide) (fun c_12 => ?_) (fun c_12 => ?_)
                        · exact absurd c_12 (nge_add (i := 3) (N := 20) (by omega) (by decide))
                        · refine lv_aload_n hx hb d_Tp_prepare_19 rfl (lv_at hl 1 rfl) ?_
                          refine va_get (D := (dC, dI)) (ci := 3) (v := .ref t2) (C := R_Tp) (T := F_Tp) (N := 3) hx hb hts i_Tp hown hK hP 0 rfl rfl 1 (by decide) (hts _ (k_Tp_6)) (fun _ h9 => h9) rfl d_Tp_prepare_20 ?_
                          refine lv_iload_n hx hb d_Tp_prepare_23 rfl (lv_at hl 2 rfl) ?_
                          refine lv_iload_n hx hb d_Tp_prepare_24 rfl (lv_at hl 0 rfl) ?_
                          refine lv_iadd hx hb d_Tp_prepare_25 ?_
                          refine lv_iload_n hx hb d_Tp_prepare_26 rfl (lv_at hl 3 rfl) ?_
                          refine lv_bipush (v := 24) hx hb d_Tp_prepare_27 (by decide) ?_
                          refine lv_bipush (v := 8) hx hb d_Tp_prepare_29 (by decide) ?_
                          refine lv_iload_n hx hb d_Tp_prepare_31 rfl (lv_at hl 0 rfl) ?_
                          refine lv_imul hx hb d_Tp_prepare_32 ?_
                          refine lv_isub hx hb d_Tp_prepare_33 ?_
                          refine lv_ishr hx hb d_Tp_prepare_34 ?_
                          refine lv_i2b hx hb d_Tp_prepare_35 rfl ?_
                          refine va_bast hx hb hK hP hD hS 2 1 rfl rfl (in_add (i := 3) (by omega) (by decide)) d_Tp_prepare_36 (fun H locs hP hD hS => ?_)
                          have hP : va_P (dC, dI) classes [(t0, .inr (3, [.ref t1, .ref t2, .int us])), (t1, .inl (c1, 4096, .inl tb)), (t2, .inl (c2, 20, .inl (upd (upd (upd (upd tr ((nI a) + 0).toNatClampNeg (vp_nar .byte ((p2 >>> ((24 - (8 * 0)) &&& 31)).toInt8.toInt32))) ((nI a) + 1).toNatClampNeg (vp_nar .byte ((p2 >>> ((24 - (8 * 1)) &&& 31)).toInt8.toInt32))) ((nI a) + 2).toNatClampNeg (vp_nar .byte ((p2 >>> ((24 - (8 * 2)) &&& 31)).toInt8.toInt32))) ((nI a) + 3).toNatClampNeg (vp_nar .byte ((p2 >>> ((24 - (8 * 3)) &&& 31)).toInt8.toInt32)))))] H := hP
                          have hD : va_D A [(t0, .inr (3, [.ref t1, .ref t2, .int us])), (t1, .inl (c1, 4096, .inl tb)), (t2, .inl (c2, 20, .inl (upd (upd (upd (upd tr ((nI a) + 0).toNatClampNeg (vp_nar .byte ((p2 >>> ((24 - (8 * 0)) &&& 31)).toInt8.toInt32))) ((nI a) + 1).toNatClampNeg (vp_nar .byte ((p2 >>> ((24 - (8 * 1)) &&& 31)).toInt8.toInt32))) ((nI a) + 2).toNatClampNeg (vp_nar .byte ((p2 >>> ((24 - (8 * 2)) &&& 31)).toInt8.toInt32))) ((nI a) + 3).toNatClampNeg (vp_nar .byte ((p2 >>> ((24 - (8 * 3)) &&& 31)).toInt8.toInt32)))))] := hD
                          refine lv_iinc (v := 4) (lv' := [(3, .int 4), (0, .ref t0), (1, .int (nI a)), (2, .int p2)]) hx hb d_Tp_prepare_37 hl (k := 0) rfl (by decide) (by decide) rfl (fun ls hl => ?_)
                          refine lv_goto (tgt := 2) hx hb d_Tp_prepare_40 (by decide) ?_
                          refine lv_iload_n hx hb d_Tp_prepare_2 rfl (lv_at hl 0 rfl) ?_
                          refine lv_iconst (v := 4) hx hb d_Tp_prepare_3 (by decide) ?_
                          refine lv_icmp_ge (tgt := 43) hx hb d_Tp_prepare_4 (by decide) (fun c_13 => ?_) (fun c_13 => ?_)
                          · exact W.vret hx hb hr (fun t ht hW => ⟨⟨(tb, upd (upd (upd (upd tr ((nI a) + 0).toNatClampNeg (vp_nar .byte ((p2 >>> ((24 - (8 * 0)) &&& 31)).toInt8.toInt32))) ((nI a) + 1).toNatClampNeg (vp_nar .byte ((p2 >>> ((24 - (8 * 1)) &&& 31)).toInt8.toInt32))) ((nI a) + 2).toNatClampNeg (vp_nar .byte ((p2 >>> ((24 - (8 * 2)) &&& 31)).toInt8.toInt32))) ((nI a) + 3).toNatClampNeg (vp_nar .byte ((p2 >>> ((24 - (8 * 3)) &&& 31)).toInt8.toInt32)), us), rfl, rfl, by rw [ht]; exact hP, va_K.moved hW.alike hK, hD⟩, hS.F ht⟩) hS.2.2 d_Tp_prepare_43
                          · exact absurd c_13 (by decide)
