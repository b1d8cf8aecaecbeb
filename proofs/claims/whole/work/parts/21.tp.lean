/-- the cells of a Tape: its bytes tb, those that are ready tr, how many it has -/
abbrev wTp (t0 t1 t2 : Nat) (c1 c2 : ClassId) (u : (Nat → Int32) × (Nat → Int32) × Int32) : va_W := [(t0, .inr (3, [.ref t1, .ref t2, .int u.2.2])), (t1, .inl (c1, 4096, .inl u.1)), (t2, .inl (c2, 20, .inl u.2.1))]
set_option maxHeartbeats 4000000 in
set_option maxRecDepth 100000 in
/-- Tape() -/
theorem c_Tp_init (l : Launch) (dC : Nat → ClassId) (dI : Nat → Nat → Nat) (t0 sz : Nat) : Met l y_Tp_init (.code y_Tp_init b_Tp_init 1 none :: V_Tp) ({ frames := 1, cells := 2, slots := 4116, locals := 12 }) (va_Pc [.ref t0] (fun U => U.heap.size = sz ∧ at_ (dC, dI) (fun _ => True) [(t0, .inr (3, [.null, .null, .int 0]))] [] U)) (va_Qv (fun u : (Nat × Nat) × (ClassId × ClassId) => True) (fun (u : (Nat × Nat) × (ClassId × ClassId)) t => at_ (dC, dI) (va_A [(t0, .inr (3, [.null, .null, .int 0]))] sz) (wTp t0 u.1.1 u.1.2 u.2.1 u.2.2 ((fun _ => 0), (fun _ => 0), 0)) [(u.2.1, .byte), (u.2.2, .byte)] t) (va_A [(t0, .inr (3, [.null, .null, .int 0]))] sz)) 2 4116 (va_A [(t0, .inr (3, [.null, .null, .int 0]))] sz) := by
  refine Met.ofW (cc := b_Tp_init) (maxL := 1) (ret := none) (by decide) rfl ?_
  intro p e s m args below meth c s₁ B hml hv
  obtain ⟨rfl, hsz, hP, hK, hD0⟩ := hv
  have hx := B.exec
  have hb := B.bytes
  have hr := B.returns
  have hts0 := atoms_spec (ws := .code y_Tp_init b_Tp_init 1 none :: V_Tp) B.pre
  have hts : ∀ w ∈ V_Tp, w.before ([.ref t0] : List Value).toArray s = true := fun w h => hts0 w (List.mem_cons_of_mem _ h)
  have hown : s.vm.findClass R_Tp = some m.cls := findClass_of_methodNamed B.named
  have hlocks := B.notSynchronized
  have hin : meth.name = "<init>" := (name_of_methodNamed B.named B.method).1
  subst hsz
  have hD := hD0.self (sz := s.heap.size)
  generalize hAe : va_A [(t0, .inr (3, [.null, .null, .int 0]))] s.heap.size = A at hD ⊢
  have hA : ∀ q : Nat, s.heap.size ≤ q → A q := fun q h => by rw [← hAe]; exact Or.inr h
  have hS : va_S A s.heap s.heap [] := va_S.rf
  have hP : va_P (dC, dI) classes [(t0, .inr (3, [.null, .null, .int 0]))] s.heap := hP
  have hK : va_K (dC, dI) classes [] s := hK
  have hl := lv_entry ([.ref t0]) (n := 1) (Nat.le_of_ble_eq_true rfl)
  rw [lg_entry_eq]
  generalize (lg_sl ([.ref t0]) ++ List.replicate (1 - (lg_sl ([.ref t0])).length) Slot.unset).toArray = ls at hl ⊢
  have hl : lv_has ls 1 [(0, .ref t0)] := hl
  refine lv_aload_n hx hb d_Tp_init_0 rfl (lv_at hl 0 rfl) ?_
  refine W.objInit hx hb hown (hts _ (k_Tp_4)) (hts _ (u_Tp_J _ k_J_3)) (hts _ (u_Tp_J _ k_J_4)) rfl (by rw [hml]; exact hl.1) rfl d_Tp_init_1 (Nat.le_of_ble_eq_true rfl) (Nat.le_of_ble_eq_true rfl) ?_
  refine W.eq (g2 := F0 m 4 ls []) rfl ?_
  refine lv_aload_n hx hb d_Tp_init_4 rfl (lv_at hl 0 rfl) ?_
  refine lv_sipush (v := 4096) hx hb d_Tp_init_5 (by decide) ?_
  refine va_newa (atype := .byte) (N' := 4096) (a0 := (4096, .inl (fun _ => 0))) hx hb (hts _ (u_Tp_J _ k_J_10)) rfl hK hP hD hS hA (fun _ => rfl) (by decide) (by decide) (by decide) (by decide) (by decide) d_Tp_init_8 (fun q_1 cA_q_1 H hK hP hD hS => ?_)
  have hP : va_P (dC, dI) classes [(t0, .inr (3, [.null, .null, .int 0])), (q_1, .inl (cA_q_1, 4096, .inl ((fun _ => 0))))] H := hP
  have hD : va_D A [(t0, .inr (3, [.null, .null, .int 0])), (q_1, .inl (cA_q_1, 4096, .inl ((fun _ => 0))))] := hD
  have hK : va_K (dC, dI) classes [(cA_q_1, .byte)] s := hK
  refine va_putF (D := (dC, dI)) (ci := 3) (v := .ref q_1) (ty := .array .byte) (C := R_Tp) (T := F_Tp) (N := 3) hx hb hts i_Tp t_Tp t_Tp_ok n_Tp hown hK hP hD hS 0 rfl rfl 0 (by decide) (hts _ (k_Tp_5)) (fun _ h9 => h9) rfl hin rfl (by decide +kernel) rfl rfl (Nat.le_of_ble_eq_true rfl) d_Tp_init_10 (fun H locs hP hD hS => ?_)
  have hP : va_P (dC, dI) classes [(t0, .inr (3, [.ref q_1, .null, .int 0])), (q_1, .inl (cA_q_1, 4096, .inl ((fun _ => 0))))] H := hP
  have hD : va_D A [(t0, .inr (3, [.ref q_1, .null, .int 0])), (q_1, .inl (cA_q_1, 4096, .inl ((fun _ => 0))))] := hD
  refine lv_aload_n hx hb d_Tp_init_13 rfl (lv_at hl 0 rfl) ?_
  refine lv_bipush (v := 20) hx hb d_Tp_init_14 (by decide) ?_
  refine va_newa (atype := .byte) (N' := 20) (a0 := (20, .inl (fun _ => 0))) hx hb (hts _ (u_Tp_J _ k_J_10)) rfl hK hP hD hS hA (fun _ => rfl) (by decide) (by decide) (by decide) (by decide) (by decide) d_Tp_init_16 (fun q_2 cA_q_2 H hK hP hD hS => ?_)
  have hP : va_P (dC, dI) classes [(t0, .inr (3, [.ref q_1, .null, .int 0])), (q_1, .inl (cA_q_1, 4096, .inl ((fun _ => 0)))), (q_2, .inl (cA_q_2, 20, .inl ((fun _ => 0))))] H := hP
  have hD : va_D A [(t0, .inr (3, [.ref q_1, .null, .int 0])), (q_1, .inl (cA_q_1, 4096, .inl ((fun _ => 0)))), (q_2, .inl (cA_q_2, 20, .inl ((fun _ => 0))))] := hD
  have hK : va_K (dC, dI) classes [(cA_q_1, .byte), (cA_q_2, .byte)] s := hK
  refine va_putF (D := (dC, dI)) (ci := 3) (v := .ref q_2) (ty := .array .byte) (C := R_Tp) (T := F_Tp) (N := 3) hx hb hts i_Tp t_Tp t_Tp_ok n_Tp hown hK hP hD hS 0 rfl rfl 1 (by decide) (hts _ (k_Tp_6)) (fun _ h9 => h9) rfl hin rfl (by decide +kernel) rfl rfl (Nat.le_of_ble_eq_true rfl) d_Tp_init_18 (fun H locs hP hD hS => ?_)
  have hP : va_P (dC, dI) classes [(t0, .inr (3, [.ref q_1, .ref q_2, .int 0])), (q_1, .inl (cA_q_1, 4096, .inl ((fun _ => 0)))), (q_2, .inl (cA_q_2, 20, .inl ((fun _ => 0))))] H := hP
  have hD : va_D A [(t0, .inr (3, [.ref q_1, .ref q_2, .int 0])), (q_1, .inl (cA_q_1, 4096, .inl ((fun _ => 0)))), (q_2, .inl (cA_q_2, 20, .inl ((fun _ => 0))))] := hD
  refine lv_aload_n hx hb d_Tp_init_21 rfl (lv_at hl 0 rfl) ?_
  refine lv_iconst (v := 0) hx hb d_Tp_init_22 (by decide) ?_
  refine va_put (D := (dC, dI)) (ci := 3) (v := .int 0) (ty := .int) (C := R_Tp) (T := F_Tp) (N := 3) hx hb hts i_Tp t_Tp t_Tp_ok n_Tp hown hK hP hD hS 0 rfl rfl 2 (by decide) (hts _ (k_Tp_7)) (fun _ h9 => h9) rfl (by decide +kernel) rfl rfl (Nat.le_of_ble_eq_true rfl) d_Tp_init_23 (fun H locs hP hD hS => ?_)
  have hP : va_P (dC, dI) classes [(t0, .inr (3, [.ref q_1, .ref q_2, .int 0])), (q_1, .inl (cA_q_1, 4096, .inl ((fun _ => 0)))), (q_2, .inl (cA_q_2, 20, .inl ((fun _ => 0))))] H := hP
  have hD : va_D A [(t0, .inr (3, [.ref q_1, .ref q_2, .int 0])), (q_1, .inl (cA_q_1, 4096, .inl ((fun _ => 0)))), (q_2, .inl (cA_q_2, 20, .inl ((fun _ => 0))))] := hD
  refine W.widen (k := 2) (n := 4116) (by omega) (by omega) ?_
  exact W.vret hx hb hr (fun t ht hW => ⟨⟨((q_1, q_2), (cA_q_1, cA_q_2)), rfl, trivial, by rw [ht]; exact hP, va_K.moved hW.alike hK, hD⟩, hS.F ht⟩) hS.2.2 d_Tp_init_26