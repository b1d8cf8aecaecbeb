set_option maxHeartbeats 4000000 in
set_option maxRecDepth 100000 in
/-- Tree() -/
theorem c_Tr_init (l : Launch) (dC : Nat → ClassId) (dI : Nat → Nat → Nat) (t0 sz : Nat) : Met l y_Tr_init (.code y_Tr_init b_Tr_init 1 none :: V_Tr) ({ frames := 1, cells := 15, slots := 1920, locals := 12 }) (va_Pc [.ref t0] (fun U => U.heap.size = sz ∧ at_ (dC, dI) (fun _ => True) [(t0, .inr (5, [.int 0, .int 0, .null, .null, .null, .null, .null, .null, .null, .null, .null, .null, .null, .null, .null, .null, .null, .int 0]))] [] U)) (va_Qv (fun u : (Nat → Nat) × (Nat → ClassId) => True) (fun (u : (Nat → Nat) × (Nat → ClassId)) t => at_ (dC, dI) (va_A [(t0, .inr (5, [.int 0, .int 0, .null, .null, .null, .null, .null, .null, .null, .null, .null, .null, .null, .null, .null, .null, .null, .int 0]))] sz) [(t0, .inr (5, [.int 0, .int (-1), .ref (u.1 0), .ref (u.1 1), .ref (u.1 2), .ref (u.1 3), .ref (u.1 4), .ref (u.1 5), .ref (u.1 6), .ref (u.1 7), .ref (u.1 8), .ref (u.1 9), .ref (u.1 10), .ref (u.1 11), .ref (u.1 12), .ref (u.1 13), .ref (u.1 14), .int 0])), (u.1 0, .inl (u.2 0, 64, .inl (fun _ => 0))), (u.1 1, .inl (u.2 1, 64, .inl (fun _ => 0))), (u.1 2, .inl (u.2 2, 64, .inl (fun _ => 0))), (u.1 3, .inl (u.2 3, 64, .inl (fun _ => 0))), (u.1 4, .inl (u.2 4, 64, .inl (fun _ => 0))), (u.1 5, .inl (u.2 5, 64, .inl (fun _ => 0))), (u.1 6, .inl (u.2 6, 64, .inl (fun _ => 0))), (u.1 7, .inl (u.2 7, 64, .inl (fun _ => 0))), (u.1 8, .inl (u.2 8, 64, .inl (fun _ => 0))), (u.1 9, .inl (u.2 9, 64, .inl (fun _ => 0))), (u.1 10, .inl (u.2 10, 64, .inl (fun _ => 0))), (u.1 11, .inl (u.2 11, 64, .inl (fun _ => 0))), (u.1 12, .inl (u.2 12, 64, .inl (fun _ => 0))), (u.1 13, .inl (u.2 13, 64, .inl (fun _ => 0))), (u.1 14, .inl (u.2 14, 1024, .inl (fun _ => 0)))] [(u.2 0, .int), (u.2 1, .int), (u.2 2, .int), (u.2 3, .int), (u.2 4, .int), (u.2 5, .int), (u.2 6, .int), (u.2 7, .int), (u.2 8, .int), (u.2 9, .int), (u.2 10, .int), (u.2 11, .int), (u.2 12, .int), (u.2 13, .int), (u.2 14, .int)] t) (va_A [(t0, .inr (5, [.int 0, .int 0, .null, .null, .null, .null, .null, .null, .null, .null, .null, .null, .null, .null, .null, .null, .null, .int 0]))] sz)) 15 1920 (va_A [(t0, .inr (5, [.int 0, .int 0, .null, .null, .null, .null, .null, .null, .null, .null, .null, .null, .null, .null, .null, .null, .null, .int 0]))] sz) := by
  refine Met.ofW (cc := b_Tr_init) (maxL := 1) (ret := none) (by decide) rfl ?_
  intro p e s m args below meth c s₁ B hml hv
  obtain ⟨rfl, hsz, hP, hK, hD0⟩ := hv
  have hx := B.exec
  have hb := B.bytes
  have hr := B.returns
  have hts0 := atoms_spec (ws := .code y_Tr_init b_Tr_init 1 none :: V_Tr) B.pre
  have hts : ∀ w ∈ V_Tr, w.before ([.ref t0] : List Value).toArray s = true := fun w h => hts0 w (List.mem_cons_of_mem _ h)
  have hown : s.vm.findClass R_Tr = some m.cls := findClass_of_methodNamed B.named
  have hlocks := B.notSynchronized
  have hin : meth.name = "<init>" := (name_of_methodNamed B.named B.method).1
  subst hsz
  have hD := hD0.self (sz := s.heap.size)
  generalize hAe : va_A [(t0, .inr (5, [.int 0, .int 0, .null, .null, .null, .null, .null, .null, .null, .null, .null, .null, .null, .null, .null, .null, .null, .int 0]))] s.heap.size = A at hD ⊢
  have hA : ∀ q : Nat, s.heap.size ≤ q → A q := fun q h => by rw [← hAe]; exact Or.inr h
  have hS : va_S A s.heap s.heap [] := va_S.rf
  have hP : va_P (dC, dI) classes [(t0, .inr (5, [.int 0, .int 0, .null, .null, .null, .null, .null, .null, .null, .null, .null, .null, .null, .null, .null, .null, .null, .int 0]))] s.heap := hP
  have hK : va_K (dC, dI) classes [] s := hK
  have hl := lv_entry ([.ref t0]) (n := 1) (Nat.le_of_ble_eq_true rfl)
  rw [lg_entry_eq]
  generalize (lg_sl ([.ref t0]) ++ List.replicate (1 - (lg_sl ([.ref t0])).length) Slot.unset).toArray = ls at hl ⊢
  have hl : lv_has ls 1 [(0, .ref t0)] := hl
  refine lv_aload_n hx hb d_Tr_init_0 rfl (lv_at hl 0 rfl) ?_
  refine W.objInit hx hb hown (hts _ (k_Tr_4)) (hts _ (u_Tr_J _ k_J_3)) (hts _ (u_Tr_J _ k_J_4)) rfl (by rw [hml]; exact hl.1) rfl d_Tr_init_1 (Nat.le_of_ble_eq_true rfl) (Nat.le_of_ble_eq_true rfl) ?_
  refine W.eq (g2 := F0 m 4 ls []) rfl ?_
  refine lv_aload_n hx hb d_Tr_init_4 rfl (lv_at hl 0 rfl) ?_
  refine lv_iconst (v := 0) hx hb d_Tr_init_5 (by decide) ?_
  refine va_put (D := (dC, dI)) (ci := 5) (v := .int 0) (ty := .int) (C := R_Tr) (T := F_Tr) (N := 18) hx hb hts i_Tr t_Tr t_Tr_ok n_Tr hown hK hP hD hS 0 rfl rfl 0 (by decide) (hts _ (k_Tr_5)) (fun _ h9 => h9) rfl (by decide +kernel) rfl rfl (Nat.le_of_ble_eq_true rfl) d_Tr_init_6 (fun H locs hP hD hS => ?_)
  have hP : va_P (dC, dI) classes [(t0, .inr (5, [.int 0, .int 0, .null, .null, .null, .null, .null, .null, .null, .null, .null, .null, .null, .null, .null, .null, .null, .int 0]))] H := hP
  have hD : va_D A [(t0, .inr (5, [.int 0, .int 0, .null, .null, .null, .null, .null, .null, .null, .null, .null, .null, .null, .null, .null, .null, .null, .int 0]))] := hD
  refine lv_aload_n hx hb d_Tr_init_9 rfl (lv_at hl 0 rfl) ?_
  refine lv_iconst (v := (-1)) hx hb d_Tr_init_10 (by decide) ?_
  refine va_put (D := (dC, dI)) (ci := 5) (v := .int ((-1))) (ty := .int) (C := R_Tr) (T := F_Tr) (N := 18) hx hb hts i_Tr t_Tr t_Tr_ok n_Tr hown hK hP hD hS 0 rfl rfl 1 (by decide) (hts _ (k_Tr_6)) (fun _ h9 => h9) rfl (by decide +kernel) rfl rfl (Nat.le_of_ble_eq_true rfl) d_Tr_init_11 (fun H locs hP hD hS => ?_)
  have hP : va_P (dC, dI) classes [(t0, .inr (5, [.int 0, .int ((-1)), .null, .null, .null, .null, .null, .null, .null, .null, .null, .null, .null, .null, .null, .null, .null, .int 0]))] H := hP
  have hD : va_D A [(t0, .inr (5, [.int 0, .int ((-1)), .null, .null, .null, .null, .null, .null, .null, .null, .null, .null, .null, .null, .null, .null, .null, .int 0]))] := hD
  refine lv_aload_n hx hb d_Tr_init_14 rfl (lv_at hl 0 rfl) ?_
  refine lv_bipush (v := 64) hx hb d_Tr_init_15 (by decide) ?_
  refine va_newa (atype := .int) (N' := 64) (a0 := (64, .inl (fun _ => 0))) hx hb (hts _ (u_Tr_J _ k_J_9)) rfl hK hP hD hS hA (fun _ => rfl) (by decide) (by decide) (by decide) (by decide) (by decide) d_Tr_init_17 (fun q_1 cA_q_1 H hK hP hD hS => ?_)
  have hP : va_P (dC, dI) classes [(t0, .inr (5, [.int 0, .int ((-1)), .null, .null, .null, .null, .null, .null, .null, .null, .null, .null, .null, .null, .null, .null, .null, .int 0])), (q_1, .inl (cA_q_1, 64, .inl ((fun _ => 0))))] H := hP
  have hD : va_D A [(t0, .inr (5, [.int 0, .int ((-1)), .null, .null, .null, .null, .null, .null, .null, .null, .null, .null, .null, .null, .null, .null, .null, .int 0])), (q_1, .inl (cA_q_1, 64, .inl ((fun _ => 0))))] := hD
  have hK : va_K (dC, dI) classes [(cA_q_1, .int)] s := hK
  refine va_put (D := (dC, dI)) (ci := 5) (v := .ref q_1) (ty := .array .int) (C := R_Tr) (T := F_Tr) (N := 18) hx hb hts i_Tr t_Tr t_Tr_ok n_Tr hown hK hP hD hS 0 rfl rfl 2 (by decide) (hts _ (k_Tr_7)) (fun _ h9 => h9) rfl (by decide +kernel) rfl rfl (Nat.le_of_ble_eq_true rfl) d_Tr_init_19 (fun H locs hP hD hS => ?_)
  have hP : va_P (dC, dI) classes [(t0, .inr (5, [.int 0, .int ((-1)), .ref q_1, .null, .null, .null, .null, .null, .null, .null, .null, .null, .null, .null, .null, .null, .null, .int 0])), (q_1, .inl (cA_q_1, 64, .inl ((fun _ => 0))))] H := hP
  have hD : va_D A [(t0, .inr (5, [.int 0, .int ((-1)), .ref q_1, .null, .null, .null, .null, .null, .null, .null, .null, .null, .null, .null, .null, .null, .null, .int 0])), (q_1, .inl (cA_q_1, 64, .inl ((fun _ => 0))))] := hD
  refine lv_aload_n hx hb d_Tr_init_22 rfl (lv_at hl 0 rfl) ?_
  refine lv_bipush (v := 64) hx hb d_Tr_init_23 (by decide) ?_
  refine va_newa (atype := .int) (N' := 64) (a0 := (64, .inl (fun _ => 0))) hx hb (hts _ (u_Tr_J _ k_J_9)) rfl hK hP hD hS hA (fun _ => rfl) (by decide) (by decide) (by decide) (by decide) (by decide) d_Tr_init_25 (fun q_2 cA_q_2 H hK hP hD hS => ?_)
  have hP : va_P (dC, dI) classes [(t0, .inr (5, [.int 0, .int ((-1)), .ref q_1, .null, .null, .null, .null, .null, .null, .null, .null, .null, .null, .null, .null, .null, .null, .int 0])), (q_1, .inl (cA_q_1, 64, .inl ((fun _ => 0)))), (q_2, .inl (cA_q_2, 64, .inl ((fun _ => 0))))] H := hP
  have hD : va_D A [(t0, .inr (5, [.int 0, .int ((-1)), .ref q_1, .null, .null, .null, .null, .null, .null, .null, .null, .null, .null, .null, .null, .null, .null, .int 0])), (q_1, .inl (cA_q_1, 64, .inl ((fun _ => 0)))), (q_2, .inl (cA_q_2, 64, .inl ((fun _ => 0))))] := hD
  have hK : va_K (dC, dI) classes [(cA_q_1, .int), (cA_q_2, .int)] s := hK
  refine va_put (D := (dC, dI)) (ci := 5) (v := .ref q_2) (ty := .array .int) (C := R_Tr) (T := F_Tr) (N := 18) hx hb hts i_Tr t_Tr t_Tr_ok n_Tr hown hK hP hD hS 0 rfl rfl 3 (by decide) (hts _ (k_Tr_8)) (fun _ h9 => h9) rfl (by decide +kernel) rfl rfl (Nat.le_of_ble_eq_true rfl) d_Tr_init_27 (fun H locs hP hD hS => ?_)
  have hP : va_P (dC, dI) classes [(t0, .inr (5, [.int 0, .int ((-1)), .ref q_1, .ref q_2, .null, .null, .null, .null, .null, .null, .null, .null, .null, .null, .null, .null, .null, .int 0])), (q_1, .inl (cA_q_1, 64, .inl ((fun _ => 0)))), (q_2, .inl (cA_q_2, 64, .inl ((fun _ => 0))))] H := hP
  have hD : va_D A [(t0, .inr (5, [.int 0, .int ((-1)), .ref q_1, .ref q_2, .null, .null, .null, .null, .null, .null, .null, .null, .null, .null, .null, .null, .null, .int 0])), (q_1, .inl (cA_q_1, 64, .inl ((fun _ => 0)))), (q_2, .inl (cA_q_2, 64, .inl ((fun _ => 0))))] := hD
  refine lv_aload_n hx hb d_Tr_init_30 rfl (lv_at hl 0 rfl) ?_
  refine lv_bipush (v := 64) hx hb d_Tr_init_31 (by decide) ?_
  refine va_newa (atype := .int) (N' := 64) (a0 := (64, .inl (fun _ => 0))) hx hb (hts _ (u_Tr_J _ k_J_9)) rfl hK hP hD hS hA (fun _ => rfl) (by decide) (by decide) (by decide) (by decide) (by decide) d_Tr_init_33 (fun q_3 cA_q_3 H hK hP hD hS => ?_)
  have hP : va_P (dC, dI) classes [(t0, .inr (5, [.int 0, .int ((-1)), .ref q_1, .ref q_2, .null, .null, .null, .null, .null, .null, .null, .null, .null, .null, .null, .null, .null, .int 0])), (q_1, .inl (cA_q_1, 64, .inl ((fun _ => 0)))), (q_2, .inl (cA_q_2, 64, .inl ((fun _ => 0)))), (q_3, .inl (cA_q_3, 64, .inl ((fun _ => 0))))] H := hP
  have hD : va_D A [(t0, .inr (5, [.int 0, .int ((-1)), .ref q_1, .ref q_2, .null, .null, .null, .null, .null, .null, .null, .null, .null, .null, .null, .null, .null, .int 0])), (q_1, .inl (cA_q_1, 64, .inl ((fun _ => 0)))), (q_2, .inl (cA_q_2, 64, .inl ((fun _ => 0)))), (q_3, .inl (cA_q_3, 64, .inl ((fun _ => 0))))] := hD
  have hK : va_K (dC, dI) classes [(cA_q_1, .int), (cA_q_2, .int), (cA_q_3, .int)] s := hK
  refine va_put (D := (dC, dI)) (ci := 5) (v := .ref q_3) (ty := .array .int) (C := R_Tr) (T := F_Tr) (N := 18) hx hb hts i_Tr t_Tr t_Tr_ok n_Tr hown hK hP hD hS 0 rfl rfl 4 (by decide) (hts _ (k_Tr_9)) (fun _ h9 => h9) rfl (by decide +kernel) rfl rfl (Nat.le_of_ble_eq_true rfl) d_Tr_init_35 (fun H locs hP hD hS => ?_)
  have hP : va_P (dC, dI) classes [(t0, .inr (5, [.int 0, .int ((-1)), .ref q_1, .ref q_2, .ref q_3, .null, .null, .null, .null, .null, .null, .null, .null, .null, .null, .null, .null, .int 0])), (q_1, .inl (cA_q_1, 64, .inl ((fun _ => 0)))), (q_2, .inl (cA_q_2, 64, .inl ((fun _ => 0)))), (q_3, .inl (cA_q_3, 64, .inl ((fun _ => 0))))] H := hP
  have hD : va_D A [(t0, .inr (5, [.int 0, .int ((-1)), .ref q_1, .ref q_2, .ref q_3, .null, .null, .null, .null, .null, .null, .null, .null, .null, .null, .null, .null, .int 0])), (q_1, .inl (cA_q_1, 64, .inl ((fun _ => 0)))), (q_2, .inl (cA_q_2, 64, .inl ((fun _ => 0)))), (q_3, .inl (cA_q_3, 64, .inl ((fun _ => 0))))] := hD
  refine lv_aload_n hx hb d_Tr_init_38 rfl (lv_at hl 0 rfl) ?_
  refine lv_bipush (v := 64) hx hb d_Tr_init_39 (by decide) ?_
  refine va_newa (atype := .int) (N' := 64) (a0 := (64, .inl (fun _ => 0))) hx hb (hts _ (u_Tr_J _ k_J_9)) rfl hK hP hD hS hA (fun _ => rfl) (by decide) (by decide) (by decide) (by decide) (by decide) d_Tr_init_41 (fun q_4 cA_q_4 H hK hP hD hS => ?_)
  have hP : va_P (dC, dI) classes [(t0, .inr (5, [.int 0, .int ((-1)), .ref q_1, .ref q_2, .ref q_3, .null, .null, .null, .null, .null, .null, .null, .null, .null, .null, .null, .null, .int 0])), (q_1, .inl (cA_q_1, 64, .inl ((fun _ => 0)))), (q_2, .inl (cA_q_2, 64, .inl ((fun _ => 0)))), (q_3, .inl (cA_q_3, 64, .inl ((fun _ => 0)))), (q_4, .inl (cA_q_4, 64, .inl ((fun _ => 0))))] H := hP
  have hD : va_D A [(t0, .inr (5, [.int 0, .int ((-1)), .ref q_1, .ref q_2, .ref q_3, .null, .null, .null, .null, .null, .null, .null, .null, .null, .null, .null, .null, .int 0])), (q_1, .inl (cA_q_1, 64, .inl ((fun _ => 0)))), (q_2, .inl (cA_q_2, 64, .inl ((fun _ => 0)))), (q_3, .inl (cA_q_3, 64, .inl ((fun _ => 0)))), (q_4, .inl (cA_q_4, 64, .inl ((fun _ => 0))))] := hD
  have hK : va_K (dC, dI) classes [(cA_q_1, .int), (cA_q_2, .int), (cA_q_3, .int), (cA_q_4, .int)] s := hK
  refine va_put (D := (dC, dI)) (ci := 5) (v := .ref q_4) (ty := .array .int) (C := R_Tr) (T := F_Tr) (N := 18) hx hb hts i_Tr t_Tr t_Tr_ok n_Tr hown hK hP hD hS 0 rfl rfl 5 (by decide) (hts _ (k_Tr_10)) (fun _ h9 => h9) rfl (by decide +kernel) rfl rfl (Nat.le_of_ble_eq_true rfl) d_Tr_init_43 (fun H locs hP hD hS => ?_)
  have hP : va_P (dC, dI) classes [(t0, .inr (5, [.int 0, .int ((-1)), .ref q_1, .ref q_2, .ref q_3, .ref q_4, .null, .null, .null, .null, .null, .null, .null, .null, .null, .null, .null, .int 0])), (q_1, .inl (cA_q_1, 64, .inl ((fun _ => 0)))), (q_2, .inl (cA_q_2, 64, .inl ((fun _ => 0)))), (q_3, .inl (cA_q_3, 64, .inl ((fun _ => 0)))), (q_4, .inl (cA_q_4, 64, .inl ((fun _ => 0))))] H := hP
  have hD : va_D A [(t0, .inr (5, [.int 0, .int ((-1)), .ref q_1, .ref q_2, .ref q_3, .ref q_4, .null, .null, .null, .null, .null, .null, .null, .null, .null, .null, .null, .int 0])), (q_1, .inl (cA_q_1, 64, .inl ((fun _ => 0)))), (q_2, .inl (cA_q_2, 64, .inl ((fun _ => 0)))), (q_3, .inl (cA_q_3, 64, .inl ((fun _ => 0)))), (q_4, .inl (cA_q_4, 64, .inl ((fun _ => 0))))] := hD
  refine lv_aload_n hx hb d_Tr_init_46 rfl (lv_at hl 0 rfl) ?_
  refine lv_bipush (v := 64) hx hb d_Tr_init_47 (by decide) ?_
  refine va_newa (atype := .int) (N' := 64) (a0 := (64, .inl (fun _ => 0))) hx hb (hts _ (u_Tr_J _ k_J_9)) rfl hK hP hD hS hA (fun _ => rfl) (by decide) (by decide) (by decide) (by decide) (by decide) d_Tr_init_49 (fun q_5 cA_q_5 H hK hP hD hS => ?_)
  have hP : va_P (dC, dI) classes [(t0, .inr (5, [.int 0, .int ((-1)), .ref q_1, .ref q_2, .ref q_3, .ref q_4, .null, .null, .null, .null, .null, .null, .null, .null, .null, .null, .null, .int 0])), (q_1, .inl (cA_q_1, 64, .inl ((fun _ => 0)))), (q_2, .inl (cA_q_2, 64, .inl ((fun _ => 0)))), (q_3, .inl (cA_q_3, 64, .inl ((fun _ => 0)))), (q_4, .inl (cA_q_4, 64, .inl ((fun _ => 0)))), (q_5, .inl (cA_q_5, 64, .inl ((fun _ => 0))))] H := hP
  have hD : va_D A [(t0, .inr (5, [.int 0, .int ((-1)), .ref q_1, .ref q_2, .ref q_3, .ref q_4, .null, .null, .null, .null, .null, .null, .null, .null, .null, .null, .null, .int 0])), (q_1, .inl (cA_q_1, 64, .inl ((fun _ => 0)))), (q_2, .inl (cA_q_2, 64, .inl ((fun _ => 0)))), (q_3, .inl (cA_q_3, 64, .inl ((fun _ => 0)))), (q_4, .inl (cA_q_4, 64, .inl ((fun _ => 0)))), (q_5, .inl (cA_q_5, 64, .inl ((fun _ => 0))))] := hD
  have hK : va_K (dC, dI) classes [(cA_q_1, .int), (cA_q_2, .int), (cA_q_3, .int), (cA_q_4, .int), (cA_q_5, .int)] s := hK
  refine va_put (D := (dC, dI)) (ci := 5) (v := .ref q_5) (ty := .array .int) (C := R_Tr) (T := F_Tr) (N := 18) hx hb hts i_Tr t_Tr t_Tr_ok n_Tr hown hK hP hD hS 0 rfl rfl 6 (by decide) (hts _ (k_Tr_11)) (fun _ h9 => h9) rfl (by decide +kernel) rfl rfl (Nat.le_of_ble_eq_true rfl) d_Tr_init_51 (fun H locs hP hD hS => ?_)
  have hP : va_P (dC, dI) classes [(t0, .inr (5, [.int 0, .int ((-1)), .ref q_1, .ref q_2, .ref q_3, .ref q_4, .ref q_5, .null, .null, .null, .null, .null, .null, .null, .null, .null, .null, .int 0])), (q_1, .inl (cA_q_1, 64, .inl ((fun _ => 0)))), (q_2, .inl (cA_q_2, 64, .inl ((fun _ => 0)))), (q_3, .inl (cA_q_3, 64, .inl ((fun _ => 0)))), (q_4, .inl (cA_q_4, 64, .inl ((fun _ => 0)))), (q_5, .inl (cA_q_5, 64, .inl ((fun _ => 0))))] H := hP
  have hD : va_D A [(t0, .inr (5, [.int 0, .int ((-1)), .ref q_1, .ref q_2, .ref q_3, .ref q_4, .ref q_5, .null, .null, .null, .null, .null, .null, .null, .null, .null, .null, .int 0])), (q_1, .inl (cA_q_1, 64, .inl ((fun _ => 0)))), (q_2, .inl (cA_q_2, 64, .inl ((fun _ => 0)))), (q_3, .inl (cA_q_3, 64, .inl ((fun _ => 0)))), (q_4, .inl (cA_q_4, 64, .inl ((fun _ => 0)))), (q_5, .inl (cA_q_5, 64, .inl ((fun _ => 0))))] := hD
  refine lv_aload_n hx hb d_Tr_init_54 rfl (lv_at hl 0 rfl) ?_
  refine lv_bipush (v := 64) hx hb d_Tr_init_55 (by decide) ?_
  refine va_newa (atype := .int) (N' := 64) (a0 := (64, .inl (fun _ => 0))) hx hb (hts _ (u_Tr_J _ k_J_9)) rfl hK hP hD hS hA (fun _ => rfl) (by decide) (by decide) (by decide) (by decide) (by decide) d_Tr_init_57 (fun q_6 cA_q_6 H hK hP hD hS => ?_)
  have hP : va_P (dC, dI) classes [(t0, .inr (5, [.int 0, .int ((-1)), .ref q_1, .ref q_2, .ref q_3, .ref q_4, .ref q_5, .null, .null, .null, .null, .null, .null, .null, .null, .null, .null, .int 0])), (q_1, .inl (cA_q_1, 64, .inl ((fun _ => 0)))), (q_2, .inl (cA_q_2, 64, .inl ((fun _ => 0)))), (q_3, .inl (cA_q_3, 64, .inl ((fun _ => 0)))), (q_4, .inl (cA_q_4, 64, .inl ((fun _ => 0)))), (q_5, .inl (cA_q_5, 64, .inl ((fun _ => 0)))), (q_6, .inl (cA_q_6, 64, .inl ((fun _ => 0))))] H := hP
  have hD : va_D A [(t0, .inr (5, [.int 0, .int ((-1)), .ref q_1, .ref q_2, .ref q_3, .ref q_4, .ref q_5, .null, .null, .null, .null, .null, .null, .null, .null, .null, .null, .int 0])), (q_1, .inl (cA_q_1, 64, .inl ((fun _ => 0)))), (q_2, .inl (cA_q_2, 64, .inl ((fun _ => 0)))), (q_3, .inl (cA_q_3, 64, .inl ((fun _ => 0)))), (q_4, .inl (cA_q_4, 64, .inl ((fun _ => 0)))), (q_5, .inl (cA_q_5, 64, .inl ((fun _ => 0)))), (q_6, .inl (cA_q_6, 64, .inl ((fun _ => 0))))] := hD
  have hK : va_K (dC, dI) classes [(cA_q_1, .int), (cA_q_2, .int), (cA_q_3, .int), (cA_q_4, .int), (cA_q_5, .int), (cA_q_6, .int)] s := hK
  refine va_put (D := (dC, dI)) (ci := 5) (v := .ref q_6) (ty := .array .int) (C := R_Tr) (T := F_Tr) (N := 18) hx hb hts i_Tr t_Tr t_Tr_ok n_Tr hown hK hP hD hS 0 rfl rfl 7 (by decide) (hts _ (k_Tr_12)) (fun _ h9 => h9) rfl (by decide +kernel) rfl rfl (Nat.le_of_ble_eq_true rfl) d_Tr_init_59 (fun H locs hP hD hS => ?_)
  have hP : va_P (dC, dI) classes [(t0, .inr (5, [.int 0, .int ((-1)), .ref q_1, .ref q_2, .ref q_3, .ref q_4, .ref q_5, .ref q_6, .null, .null, .null, .null, .null, .null, .null, .null, .null, .int 0])), (q_1, .inl (cA_q_1, 64, .inl ((fun _ => 0)))), (q_2, .inl (cA_q_2, 64, .inl ((fun _ => 0)))), (q_3, .inl (cA_q_3, 64, .inl ((fun _ => 0)))), (q_4, .inl (cA_q_4, 64, .inl ((fun _ => 0)))), (q_5, .inl (cA_q_5, 64, .inl ((fun _ => 0)))), (q_6, .inl (cA_q_6, 64, .inl ((fun _ => 0))))] H := hP
  have hD : va_D A [(t0, .inr (5, [.int 0, .int ((-1)), .ref q_1, .ref q_2, .ref q_3, .ref q_4, .ref q_5, .ref q_6, .null, .null, .null, .null, .null, .null, .null, .null, .null, .int 0])), (q_1, .inl (cA_q_1, 64, .inl ((fun _ => 0)))), (q_2, .inl (cA_q_2, 64, .inl ((fun _ => 0)))), (q_3, .inl (cA_q_3, 64, .inl ((fun _ => 0)))), (q_4, .inl (cA_q_4, 64, .inl ((fun _ => 0)))), (q_5, .inl (cA_q_5, 64, .inl ((fun _ => 0)))), (q_6, .inl (cA_q_6, 64, .inl ((fun _ => 0))))] := hD
  refine lv_aload_n hx hb d_Tr_init_62 rfl (lv_at hl 0 rfl) ?_
  refine lv_bipush (v := 64) hx hb d_Tr_init_63 (by decide) ?_
  refine va_newa (atype := .int) (N' := 64) (a0 := (64, .inl (fun _ => 0))) hx hb (hts _ (u_Tr_J _ k_J_9)) rfl hK hP hD hS hA (fun _ => rfl) (by decide) (by decide) (by decide) (by decide) (by decide) d_Tr_init_65 (fun q_7 cA_q_7 H hK hP hD hS => ?_)
  have hP : va_P (dC, dI) classes [(t0, .inr (5, [.int 0, .int ((-1)), .ref q_1, .ref q_2, .ref q_3, .ref q_4, .ref q_5, .ref q_6, .null, .null, .null, .null, .null, .null, .null, .null, .null, .int 0])), (q_1, .inl (cA_q_1, 64, .inl ((fun _ => 0)))), (q_2, .inl (cA_q_2, 64, .inl ((fun _ => 0)))), (q_3, .inl (cA_q_3, 64, .inl ((fun _ => 0)))), (q_4, .inl (cA_q_4, 64, .inl ((fun _ => 0)))), (q_5, .inl (cA_q_5, 64, .inl ((fun _ => 0)))), (q_6, .inl (cA_q_6, 64, .inl ((fun _ => 0)))), (q_7, .inl (cA_q_7, 64, .inl ((fun _ => 0))))] H := hP
  have hD : va_D A [(t0, .inr (5, [.int 0, .int ((-1)), .ref q_1, .ref q_2, .ref q_3, .ref q_4, .ref q_5, .ref q_6, .null, .null, .null, .null, .null, .null, .null, .null, .null, .int 0])), (q_1, .inl (cA_q_1, 64, .inl ((fun _ => 0)))), (q_2, .inl (cA_q_2, 64, .inl ((fun _ => 0)))), (q_3, .inl (cA_q_3, 64, .inl ((fun _ => 0)))), (q_4, .inl (cA_q_4, 64, .inl ((fun _ => 0)))), (q_5, .inl (cA_q_5, 64, .inl ((fun _ => 0)))), (q_6, .inl (cA_q_6, 64, .inl ((fun _ => 0)))), (q_7, .inl (cA_q_7, 64, .inl ((fun _ => 0))))] := hD
  have hK : va_K (dC, dI) classes [(cA_q_1, .int), (cA_q_2, .int), (cA_q_3, .int), (cA_q_4, .int), (cA_q_5, .int), (cA_q_6, .int), (cA_q_7, .int)] s := hK
  refine va_put (D := (dC, dI)) (ci := 5) (v := .ref q_7) (ty := .array .int) (C := R_Tr) (T := F_Tr) (N := 18) hx hb hts i_Tr t_Tr t_Tr_ok n_Tr hown hK hP hD hS 0 rfl rfl 8 (by decide) (hts _ (k_Tr_13)) (fun _ h9 => h9) rfl (by decide +kernel) rfl rfl (Nat.le_of_ble_eq_true rfl) d_Tr_init_67 (fun H locs hP hD hS => ?_)
  have hP : va_P (dC, dI) classes [(t0, .inr (5, [.int 0, .int ((-1)), .ref q_1, .ref q_2, .ref q_3, .ref q_4, .ref q_5, .ref q_6, .ref q_7, .null, .null, .null, .null, .null, .null, .null, .null, .int 0])), (q_1, .inl (cA_q_1, 64, .inl ((fun _ => 0)))), (q_2, .inl (cA_q_2, 64, .inl ((fun _ => 0)))), (q_3, .inl (cA_q_3, 64, .inl ((fun _ => 0)))), (q_4, .inl (cA_q_4, 64, .inl ((fun _ => 0)))), (q_5, .inl (cA_q_5, 64, .inl ((fun _ => 0)))), (q_6, .inl (cA_q_6, 64, .inl ((fun _ => 0)))), (q_7, .inl (cA_q_7, 64, .inl ((fun _ => 0))))] H := hP
  have hD : va_D A [(t0, .inr (5, [.int 0, .int ((-1)), .ref q_1, .ref q_2, .ref q_3, .ref q_4, .ref q_5, .ref q_6, .ref q_7, .null, .null, .null, .null, .null, .null, .null, .null, .int 0])), (q_1, .inl (cA_q_1, 64, .inl ((fun _ => 0)))), (q_2, .inl (cA_q_2, 64, .inl ((fun _ => 0)))), (q_3, .inl (cA_q_3, 64, .inl ((fun _ => 0)))), (q_4, .inl (cA_q_4, 64, .inl ((fun _ => 0)))), (q_5, .inl (cA_q_5, 64, .inl ((fun _ => 0)))), (q_6, .inl (cA_q_6, 64, .inl ((fun _ => 0)))), (q_7, .inl (cA_q_7, 64, .inl ((fun _ => 0))))] := hD
  refine lv_aload_n hx hb d_Tr_init_70 rfl (lv_at hl 0 rfl) ?_
  refine lv_bipush (v := 64) hx hb d_Tr_init_71 (by decide) ?_
  refine va_newa (atype := .int) (N' := 64) (a0 := (64, .inl (fun _ => 0))) hx hb (hts _ (u_Tr_J _ k_J_9)) rfl hK hP hD hS hA (fun _ => rfl) (by decide) (by decide) (by decide) (by decide) (by decide) d_Tr_init_73 (fun q_8 cA_q_8 H hK hP hD hS => ?_)
  have hP : va_P (dC, dI) classes [(t0, .inr (5, [.int 0, .int ((-1)), .ref q_1, .ref q_2, .ref q_3, .ref q_4, .ref q_5, .ref q_6, .ref q_7, .null, .null, .null, .null, .null, .null, .null, .null, .int 0])), (q_1, .inl (cA_q_1, 64, .inl ((fun _ => 0)))), (q_2, .inl (cA_q_2, 64, .inl ((fun _ => 0)))), (q_3, .inl (cA_q_3, 64, .inl ((fun _ => 0)))), (q_4, .inl (cA_q_4, 64, .inl ((fun _ => 0)))), (q_5, .inl (cA_q_5, 64, .inl ((fun _ => 0)))), (q_6, .inl (cA_q_6, 64, .inl ((fun _ => 0)))), (q_7, .inl (cA_q_7, 64, .inl ((fun _ => 0)))), (q_8, .inl (cA_q_8, 64, .inl ((fun _ => 0))))] H := hP
  have hD : va_D A [(t0, .inr (5, [.int 0, .int ((-1)), .ref q_1, .ref q_2, .ref q_3, .ref q_4, .ref q_5, .ref q_6, .ref q_7, .null, .null, .null, .null, .null, .null, .null, .null, .int 0])), (q_1, .inl (cA_q_1, 64, .inl ((fun _ => 0)))), (q_2, .inl (cA_q_2, 64, .inl ((fun _ => 0)))), (q_3, .inl (cA_q_3, 64, .inl ((fun _ => 0)))), (q_4, .inl (cA_q_4, 64, .inl ((fun _ => 0)))), (q_5, .inl (cA_q_5, 64, .inl ((fun _ => 0)))), (q_6, .inl (cA_q_6, 64, .inl ((fun _ => 0)))), (q_7, .inl (cA_q_7, 64, .inl ((fun _ => 0)))), (q_8, .inl (cA_q_8, 64, .inl ((fun _ => 0))))] := hD
  have hK : va_K (dC, dI) classes [(cA_q_1, .int), (cA_q_2, .int), (cA_q_3, .int), (cA_q_4, .int), (cA_q_5, .int), (cA_q_6, .int), (cA_q_7, .int), (cA_q_8, .int)] s := hK
  refine va_put (D := (dC, dI)) (ci := 5) (v := .ref q_8) (ty := .array .int) (C := R_Tr) (T := F_Tr) (N := 18) hx hb hts i_Tr t_Tr t_Tr_ok n_Tr hown hK hP hD hS 0 rfl rfl 9 (by decide) (hts _ (k_Tr_14)) (fun _ h9 => h9) rfl (by decide +kernel) rfl rfl (Nat.le_of_ble_eq_true rfl) d_Tr_init_75 (fun H locs hP hD hS => ?_)
  have hP : va_P (dC, dI) classes [(t0, .inr (5, [.int 0, .int ((-1)), .ref q_1, .ref q_2, .ref q_3, .ref q_4, .ref q_5, .ref q_6, .ref q_7, .ref q_8, .null, .null, .null, .null, .null, .null, .null, .int 0])), (q_1, .inl (cA_q_1, 64, .inl ((fun _ => 0)))), (q_2, .inl (cA_q_2, 64, .inl ((fun _ => 0)))), (q_3, .inl (cA_q_3, 64, .inl ((fun _ => 0)))), (q_4, .inl (cA_q_4, 64, .inl ((fun _ => 0)))), (q_5, .inl (cA_q_5, 64, .inl ((fun _ => 0)))), (q_6, .inl (cA_q_6, 64, .inl ((fun _ => 0)))), (q_7, .inl (cA_q_7, 64, .inl ((fun _ => 0)))), (q_8, .inl (cA_q_8, 64, .inl ((fun _ => 0))))] H := hP
  have hD : va_D A [(t0, .inr (5, [.int 0, .int ((-1)), .ref q_1, .ref q_2, .ref q_3, .ref q_4, .ref q_5, .ref q_6, .ref q_7, .ref q_8, .null, .null, .null, .null, .null, .null, .null, .int 0])), (q_1, .inl (cA_q_1, 64, .inl ((fun _ => 0)))), (q_2, .inl (cA_q_2, 64, .inl ((fun _ => 0)))), (q_3, .inl (cA_q_3, 64, .inl ((fun _ => 0)))), (q_4, .inl (cA_q_4, 64, .inl ((fun _ => 0)))), (q_5, .inl (cA_q_5, 64, .inl ((fun _ => 0)))), (q_6, .inl (cA_q_6, 64, .inl ((fun _ => 0)))), (q_7, .inl (cA_q_7, 64, .inl ((fun _ => 0)))), (q_8, .inl (cA_q_8, 64, .inl ((fun _ => 0))))] := hD
  refine lv_aload_n hx hb d_Tr_init_78 rfl (lv_at hl 0 rfl) ?_
  refine lv_bipush (v := 64) hx hb d_Tr_init_79 (by decide) ?_
  refine va_newa (atype := .int) (N' := 64) (a0 := (64, .inl (fun _ => 0))) hx hb (hts _ (u_Tr_J _ k_J_9)) rfl hK hP hD hS hA (fun _ => rfl) (by decide) (by decide) (by decide) (by decide) (by decide) d_Tr_init_81 (fun q_9 cA_q_9 H hK hP hD hS => ?_)
  have hP : va_P (dC, dI) classes [(t0, .inr (5, [.int 0, .int ((-1)), .ref q_1, .ref q_2, .ref q_3, .ref q_4, .ref q_5, .ref q_6, .ref q_7, .ref q_8, .null, .null, .null, .null, .null, .null, .null, .int 0])), (q_1, .inl (cA_q_1, 64, .inl ((fun _ => 0)))), (q_2, .inl (cA_q_2, 64, .inl ((fun _ => 0)))), (q_3, .inl (cA_q_3, 64, .inl ((fun _ => 0)))), (q_4, .inl (cA_q_4, 64, .inl ((fun _ => 0)))), (q_5, .inl (cA_q_5, 64, .inl ((fun _ => 0)))), (q_6, .inl (cA_q_6, 64, .inl ((fun _ => 0)))), (q_7, .inl (cA_q_7, 64, .inl ((fun _ => 0)))), (q_8, .inl (cA_q_8, 64, .inl ((fun _ => 0)))), (q_9, .inl (cA_q_9, 64, .inl ((fun _ => 0))))] H := hP
  have hD : va_D A [(t0, .inr (5, [.int 0, .int ((-1)), .ref q_1, .ref q_2, .ref q_3, .ref q_4, .ref q_5, .ref q_6, .ref q_7, .ref q_8, .null, .null, .null, .null, .null, .null, .null, .int 0])), (q_1, .inl (cA_q_1, 64, .inl ((fun _ => 0)))), (q_2, .inl (cA_q_2, 64, .inl ((fun _ => 0)))), (q_3, .inl (cA_q_3, 64, .inl ((fun _ => 0)))), (q_4, .inl (cA_q_4, 64, .inl ((fun _ => 0)))), (q_5, .inl (cA_q_5, 64, .inl ((fun _ => 0)))), (q_6, .inl (cA_q_6, 64, .inl ((fun _ => 0)))), (q_7, .inl (cA_q_7, 64, .inl ((fun _ => 0)))), (q_8, .inl (cA_q_8, 64, .inl ((fun _ => 0)))), (q_9, .inl (cA_q_9, 64, .inl ((fun _ => 0))))] := hD
  have hK : va_K (dC, dI) classes [(cA_q_1, .int), (cA_q_2, .int), (cA_q_3, .int), (cA_q_4, .int), (cA_q_5, .int), (cA_q_6, .int), (cA_q_7, .int), (cA_q_8, .int), (cA_q_9, .int)] s := hK
  refine va_put (D := (dC, dI)) (ci := 5) (v := .ref q_9) (ty := .array .int) (C := R_Tr) (T := F_Tr) (N := 18) hx hb hts i_Tr t_Tr t_Tr_ok n_Tr hown hK hP hD hS 0 rfl rfl 10 (by decide) (hts _ (k_Tr_15)) (fun _ h9 => h9) rfl (by decide +kernel) rfl rfl (Nat.le_of_ble_eq_true rfl) d_Tr_init_83 (fun H locs hP hD hS => ?_)
  have hP : va_P (dC, dI) classes [(t0, .inr (5, [.int 0, .int ((-1)), .ref q_1, .ref q_2, .ref q_3, .ref q_4, .ref q_5, .ref q_6, .ref q_7, .ref q_8, .ref q_9, .null, .null, .null, .null, .null, .null, .int 0])), (q_1, .inl (cA_q_1, 64, .inl ((fun _ => 0)))), (q_2, .inl (cA_q_2, 64, .inl ((fun _ => 0)))), (q_3, .inl (cA_q_3, 64, .inl ((fun _ => 0)))), (q_4, .inl (cA_q_4, 64, .inl ((fun _ => 0)))), (q_5, .inl (cA_q_5, 64, .inl ((fun _ => 0)))), (q_6, .inl (cA_q_6, 64, .inl ((fun _ => 0)))), (q_7, .inl (cA_q_7, 64, .inl ((fun _ => 0)))), (q_8, .inl (cA_q_8, 64, .inl ((fun _ => 0)))), (q_9, .inl (cA_q_9, 64, .inl ((fun _ => 0))))] H := hP
  have hD : va_D A [(t0, .inr (5, [.int 0, .int ((-1)), .ref q_1, .ref q_2, .ref q_3, .ref q_4, .ref q_5, .ref q_6, .ref q_7, .ref q_8, .ref q_9, .null, .null, .null, .null, .null, .null, .int 0])), (q_1, .inl (cA_q_1, 64, .inl ((fun _ => 0)))), (q_2, .inl (cA_q_2, 64, .inl ((fun _ => 0)))), (q_3, .inl (cA_q_3, 64, .inl ((fun _ => 0)))), (q_4, .inl (cA_q_4, 64, .inl ((fun _ => 0)))), (q_5, .inl (cA_q_5, 64, .inl ((fun _ => 0)))), (q_6, .inl (cA_q_6, 64, .inl ((fun _ => 0)))), (q_7, .inl (cA_q_7, 64, .inl ((fun _ => 0)))), (q_8, .inl (cA_q_8, 64, .inl ((fun _ => 0)))), (q_9, .inl (cA_q_9, 64, .inl ((fun _ => 0))))] := hD
  refine lv_aload_n hx hb d_Tr_init_86 rfl (lv_at hl 0 rfl) ?_
  refine lv_bipush (v := 64) hx hb d_Tr_init_87 (by decide) ?_
  refine va_newa (atype := .int) (N' := 64) (a0 := (64, .inl (fun _ => 0))) hx hb (hts _ (u_Tr_J _ k_J_9)) rfl hK hP hD hS hA (fun _ => rfl) (by decide) (by decide) (by decide) (by decide) (by decide) d_Tr_init_89 (fun q_10 cA_q_10 H hK hP hD hS => ?_)
  have hP : va_P (dC, dI) classes [(t0, .inr (5, [.int 0, .int ((-1)), .ref q_1, .ref q_2, .ref q_3, .ref q_4, .ref q_5, .ref q_6, .ref q_7, .ref q_8, .ref q_9, .null, .null, .null, .null, .null, .null, .int 0])), (q_1, .inl (cA_q_1, 64, .inl ((fun _ => 0)))), (q_2, .inl (cA_q_2, 64, .inl ((fun _ => 0)))), (q_3, .inl (cA_q_3, 64, .inl ((fun _ => 0)))), (q_4, .inl (cA_q_4, 64, .inl ((fun _ => 0)))), (q_5, .inl (cA_q_5, 64, .inl ((fun _ => 0)))), (q_6, .inl (cA_q_6, 64, .inl ((fun _ => 0)))), (q_7, .inl (cA_q_7, 64, .inl ((fun _ => 0)))), (q_8, .inl (cA_q_8, 64, .inl ((fun _ => 0)))), (q_9, .inl (cA_q_9, 64, .inl ((fun _ => 0)))), (q_10, .inl (cA_q_10, 64, .inl ((fun _ => 0))))] H := hP
  have hD : va_D A [(t0, .inr (5, [.int 0, .int ((-1)), .ref q_1, .ref q_2, .ref q_3, .ref q_4, .ref q_5, .ref q_6, .ref q_7, .ref q_8, .ref q_9, .null, .null, .null, .null, .null, .null, .int 0])), (q_1, .inl (cA_q_1, 64, .inl ((fun _ => 0)))), (q_2, .inl (cA_q_2, 64, .inl ((fun _ => 0)))), (q_3, .inl (cA_q_3, 64, .inl ((fun _ => 0)))), (q_4, .inl (cA_q_4, 64, .inl ((fun _ => 0)))), (q_5, .inl (cA_q_5, 64, .inl ((fun _ => 0)))), (q_6, .inl (cA_q_6, 64, .inl ((fun _ => 0)))), (q_7, .inl (cA_q_7, 64, .inl ((fun _ => 0)))), (q_8, .inl (cA_q_8, 64, .inl ((fun _ => 0)))), (q_9, .inl (cA_q_9, 64, .inl ((fun _ => 0)))), (q_10, .inl (cA_q_10, 64, .inl ((fun _ => 0))))] := hD
  have hK : va_K (dC, dI) classes [(cA_q_1, .int), (cA_q_2, .int), (cA_q_3, .int), (cA_q_4, .int), (cA_q_5, .int), (cA_q_6, .int), (cA_q_7, .int), (cA_q_8, .int), (cA_q_9, .int), (cA_q_10, .int)] s := hK
  refine va_put (D := (dC, dI)) (ci := 5) (v := .ref q_10) (ty := .array .int) (C := R_Tr) (T := F_Tr) (N := 18) hx hb hts i_Tr t_Tr t_Tr_ok n_Tr hown hK hP hD hS 0 rfl rfl 11 (by decide) (hts _ (k_Tr_16)) (fun _ h9 => h9) rfl (by decide +kernel) rfl rfl (Nat.le_of_ble_eq_true rfl) d_Tr_init_91 (fun H locs hP hD hS => ?_)
  have hP : va_P (dC, dI) classes [(t0, .inr (5, [.int 0, .int ((-1)), .ref q_1, .ref q_2, .ref q_3, .ref q_4, .ref q_5, .ref q_6, .ref q_7, .ref q_8, .ref q_9, .ref q_10, .null, .null, .null, .null, .null, .int 0])), (q_1, .inl (cA_q_1, 64, .inl ((fun _ => 0)))), (q_2, .inl (cA_q_2, 64, .inl ((fun _ => 0)))), (q_3, .inl (cA_q_3, 64, .inl ((fun _ => 0)))), (q_4, .inl (cA_q_4, 64, .inl ((fun _ => 0)))), (q_5, .inl (cA_q_5, 64, .inl ((fun _ => 0)))), (q_6, .inl (cA_q_6, 64, .inl ((fun _ => 0)))), (q_7, .inl (cA_q_7, 64, .inl ((fun _ => 0)))), (q_8, .inl (cA_q_8, 64, .inl ((fun _ => 0)))), (q_9, .inl (cA_q_9, 64, .inl ((fun _ => 0)))), (q_10, .inl (cA_q_10, 64, .inl ((fun _ => 0))))] H := hP
  have hD : va_D A [(t0, .inr (5, [.int 0, .int ((-1)), .ref q_1, .ref q_2, .ref q_3, .ref q_4, .ref q_5, .ref q_6, .ref q_7, .ref q_8, .ref q_9, .ref q_10, .null, .null, .null, .null, .null, .int 0])), (q_1, .inl (cA_q_1, 64, .inl ((fun _ => 0)))), (q_2, .inl (cA_q_2, 64, .inl ((fun _ => 0)))), (q_3, .inl (cA_q_3, 64, .inl ((fun _ => 0)))), (q_4, .inl (cA_q_4, 64, .inl ((fun _ => 0)))), (q_5, .inl (cA_q_5, 64, .inl ((fun _ => 0)))), (q_6, .inl (cA_q_6, 64, .inl ((fun _ => 0)))), (q_7, .inl (cA_q_7, 64, .inl ((fun _ => 0)))), (q_8, .inl (cA_q_8, 64, .inl ((fun _ => 0)))), (q_9, .inl (cA_q_9, 64, .inl ((fun _ => 0)))), (q_10, .inl (cA_q_10, 64, .inl ((fun _ => 0))))] := hD
  refine lv_aload_n hx hb d_Tr_init_94 rfl (lv_at hl 0 rfl) ?_
  refine lv_bipush (v := 64) hx hb d_Tr_init_95 (by decide) ?_
  refine va_newa (atype := .int) (N' := 64) (a0 := (64, .inl (fun _ => 0))) hx hb (hts _ (u_Tr_J _ k_J_9)) rfl hK hP hD hS hA (fun _ => rfl) (by decide) (by decide) (by decide) (by decide) (by decide) d_Tr_init_97 (fun q_11 cA_q_11 H hK hP hD hS => ?_)
  have hP : va_P (dC, dI) classes [(t0, .inr (5, [.int 0, .int ((-1)), .ref q_1, .ref q_2, .ref q_3, .ref q_4, .ref q_5, .ref q_6, .ref q_7, .ref q_8, .ref q_9, .ref q_10, .null, .null, .null, .null, .null, .int 0])), (q_1, .inl (cA_q_1, 64, .inl ((fun _ => 0)))), (q_2, .inl (cA_q_2, 64, .inl ((fun _ => 0)))), (q_3, .inl (cA_q_3, 64, .inl ((fun _ => 0)))), (q_4, .inl (cA_q_4, 64, .inl ((fun _ => 0)))), (q_5, .inl (cA_q_5, 64, .inl ((fun _ => 0)))), (q_6, .inl (cA_q_6, 64, .inl ((fun _ => 0)))), (q_7, .inl (cA_q_7, 64, .inl ((fun _ => 0)))), (q_8, .inl (cA_q_8, 64, .inl ((fun _ => 0)))), (q_9, .inl (cA_q_9, 64, .inl ((fun _ => 0)))), (q_10, .inl (cA_q_10, 64, .inl ((fun _ => 0)))), (q_11, .inl (cA_q_11, 64, .inl ((fun _ => 0))))] H := hP
  have hD : va_D A [(t0, .inr (5, [.int 0, .int ((-1)), .ref q_1, .ref q_2, .ref q_3, .ref q_4, .ref q_5, .ref q_6, .ref q_7, .ref q_8, .ref q_9, .ref q_10, .null, .null, .null, .null, .null, .int 0])), (q_1, .inl (cA_q_1, 64, .inl ((fun _ => 0)))), (q_2, .inl (cA_q_2, 64, .inl ((fun _ => 0)))), (q_3, .inl (cA_q_3, 64, .inl ((fun _ => 0)))), (q_4, .inl (cA_q_4, 64, .inl ((fun _ => 0)))), (q_5, .inl (cA_q_5, 64, .inl ((fun _ => 0)))), (q_6, .inl (cA_q_6, 64, .inl ((fun _ => 0)))), (q_7, .inl (cA_q_7, 64, .inl ((fun _ => 0)))), (q_8, .inl (cA_q_8, 64, .inl ((fun _ => 0)))), (q_9, .inl (cA_q_9, 64, .inl ((fun _ => 0)))), (q_10, .inl (cA_q_10, 64, .inl ((fun _ => 0)))), (q_11, .inl (cA_q_11, 64, .inl ((fun _ => 0))))] := hD
  have hK : va_K (dC, dI) classes [(cA_q_1, .int), (cA_q_2, .int), (cA_q_3, .int), (cA_q_4, .int), (cA_q_5, .int), (cA_q_6, .int), (cA_q_7, .int), (cA_q_8, .int), (cA_q_9, .int), (cA_q_10, .int), (cA_q_11, .int)] s := hK
  refine va_put (D := (dC, dI)) (ci := 5) (v := .ref q_11) (ty := .array .int) (C := R_Tr) (T := F_Tr) (N := 18) hx hb hts i_Tr t_Tr t_Tr_ok n_Tr hown hK hP hD hS 0 rfl rfl 12 (by decide) (hts _ (k_Tr_17)) (fun _ h9 => h9) rfl (by decide +kernel) rfl rfl (Nat.le_of_ble_eq_true rfl) d_Tr_init_99 (fun H locs hP hD hS => ?_)
  have hP : va_P (dC, dI) classes [(t0, .inr (5, [.int 0, .int ((-1)), .ref q_1, .ref q_2, .ref q_3, .ref q_4, .ref q_5, .ref q_6, .ref q_7, .ref q_8, .ref q_9, .ref q_10, .ref q_11, .null, .null, .null, .null, .int 0])), (q_1, .inl (cA_q_1, 64, .inl ((fun _ => 0)))), (q_2, .inl (cA_q_2, 64, .inl ((fun _ => 0)))), (q_3, .inl (cA_q_3, 64, .inl ((fun _ => 0)))), (q_4, .inl (cA_q_4, 64, .inl ((fun _ => 0)))), (q_5, .inl (cA_q_5, 64, .inl ((fun _ => 0)))), (q_6, .inl (cA_q_6, 64, .inl ((fun _ => 0)))), (q_7, .inl (cA_q_7, 64, .inl ((fun _ => 0)))), (q_8, .inl (cA_q_8, 64, .inl ((fun _ => 0)))), (q_9, .inl (cA_q_9, 64, .inl ((fun _ => 0)))), (q_10, .inl (cA_q_10, 64, .inl ((fun _ => 0)))), (q_11, .inl (cA_q_11, 64, .inl ((fun _ => 0))))] H := hP
  have hD : va_D A [(t0, .inr (5, [.int 0, .int ((-1)), .ref q_1, .ref q_2, .ref q_3, .ref q_4, .ref q_5, .ref q_6, .ref q_7, .ref q_8, .ref q_9, .ref q_10, .ref q_11, .null, .null, .null, .null, .int 0])), (q_1, .inl (cA_q_1, 64, .inl ((fun _ => 0)))), (q_2, .inl (cA_q_2, 64, .inl ((fun _ => 0)))), (q_3, .inl (cA_q_3, 64, .inl ((fun _ => 0)))), (q_4, .inl (cA_q_4, 64, .inl ((fun _ => 0)))), (q_5, .inl (cA_q_5, 64, .inl ((fun _ => 0)))), (q_6, .inl (cA_q_6, 64, .inl ((fun _ => 0)))), (q_7, .inl (cA_q_7, 64, .inl ((fun _ => 0)))), (q_8, .inl (cA_q_8, 64, .inl ((fun _ => 0)))), (q_9, .inl (cA_q_9, 64, .inl ((fun _ => 0)))), (q_10, .inl (cA_q_10, 64, .inl ((fun _ => 0)))), (q_11, .inl (cA_q_11, 64, .inl ((fun _ => 0))))] := hD
  refine lv_aload_n hx hb d_Tr_init_102 rfl (lv_at hl 0 rfl) ?_
  refine lv_bipush (v := 64) hx hb d_Tr_init_103 (by decide) ?_
  refine va_newa (atype := .int) (N' := 64) (a0 := (64, .inl (fun _ => 0))) hx hb (hts _ (u_Tr_J _ k_J_9)) rfl hK hP hD hS hA (fun _ => rfl) (by decide) (by decide) (by decide) (by decide) (by decide) d_Tr_init_105 (fun q_12 cA_q_12 H hK hP hD hS => ?_)
  have hP : va_P (dC, dI) classes [(t0, .inr (5, [.int 0, .int ((-1)), .ref q_1, .ref q_2, .ref q_3, .ref q_4, .ref q_5, .ref q_6, .ref q_7, .ref q_8, .ref q_9, .ref q_10, .ref q_11, .null, .null, .null, .null, .int 0])), (q_1, .inl (cA_q_1, 64, .inl ((fun _ => 0)))), (q_2, .inl (cA_q_2, 64, .inl ((fun _ => 0)))), (q_3, .inl (cA_q_3, 64, .inl ((fun _ => 0)))), (q_4, .inl (cA_q_4, 64, .inl ((fun _ => 0)))), (q_5, .inl (cA_q_5, 64, .inl ((fun _ => 0)))), (q_6, .inl (cA_q_6, 64, .inl ((fun _ => 0)))), (q_7, .inl (cA_q_7, 64, .inl ((fun _ => 0)))), (q_8, .inl (cA_q_8, 64, .inl ((fun _ => 0)))), (q_9, .inl (cA_q_9, 64, .inl ((fun _ => 0)))), (q_10, .inl (cA_q_10, 64, .inl ((fun _ => 0)))), (q_11, .inl (cA_q_11, 64, .inl ((fun _ => 0)))), (q_12, .inl (cA_q_12, 64, .inl ((fun _ => 0))))] H := hP
  have hD : va_D A [(t0, .inr (5, [.int 0, .int ((-1)), .ref q_1, .ref q_2, .ref q_3, .ref q_4, .ref q_5, .ref q_6, .ref q_7, .ref q_8, .ref q_9, .ref q_10, .ref q_11, .null, .null, .null, .null, .int 0])), (q_1, .inl (cA_q_1, 64, .inl ((fun _ => 0)))), (q_2, .inl (cA_q_2, 64, .inl ((fun _ => 0)))), (q_3, .inl (cA_q_3, 64, .inl ((fun _ => 0)))), (q_4, .inl (cA_q_4, 64, .inl ((fun _ => 0)))), (q_5, .inl (cA_q_5, 64, .inl ((fun _ => 0)))), (q_6, .inl (cA_q_6, 64, .inl ((fun _ => 0)))), (q_7, .inl (cA_q_7, 64, .inl ((fun _ => 0)))), (q_8, .inl (cA_q_8, 64, .inl ((fun _ => 0)))), (q_9, .inl (cA_q_9, 64, .inl ((fun _ => 0)))), (q_10, .inl (cA_q_10, 64, .inl ((fun _ => 0)))), (q_11, .inl (cA_q_11, 64, .inl ((fun _ => 0)))), (q_12, .inl (cA_q_12, 64, .inl ((fun _ => 0))))] := hD
  have hK : va_K (dC, dI) classes [(cA_q_1, .int), (cA_q_2, .int), (cA_q_3, .int), (cA_q_4, .int), (cA_q_5, .int), (cA_q_6, .int), (cA_q_7, .int), (cA_q_8, .int), (cA_q_9, .int), (cA_q_10, .int), (cA_q_11, .int), (cA_q_12, .int)] s := hK
  refine va_put (D := (dC, dI)) (ci := 5) (v := .ref q_12) (ty := .array .int) (C := R_Tr) (T := F_Tr) (N := 18) hx hb hts i_Tr t_Tr t_Tr_ok n_Tr hown hK hP hD hS 0 rfl rfl 13 (by decide) (hts _ (k_Tr_18)) (fun _ h9 => h9) rfl (by decide +kernel) rfl rfl (Nat.le_of_ble_eq_true rfl) d_Tr_init_107 (fun H locs hP hD hS => ?_)
  have hP : va_P (dC, dI) classes [(t0, .inr (5, [.int 0, .int ((-1)), .ref q_1, .ref q_2, .ref q_3, .ref q_4, .ref q_5, .ref q_6, .ref q_7, .ref q_8, .ref q_9, .ref q_10, .ref q_11, .ref q_12, .null, .null, .null, .int 0])), (q_1, .inl (cA_q_1, 64, .inl ((fun _ => 0)))), (q_2, .inl (cA_q_2, 64, .inl ((fun _ => 0)))), (q_3, .inl (cA_q_3, 64, .inl ((fun _ => 0)))), (q_4, .inl (cA_q_4, 64, .inl ((fun _ => 0)))), (q_5, .inl (cA_q_5, 64, .inl ((fun _ => 0)))), (q_6, .inl (cA_q_6, 64, .inl ((fun _ => 0)))), (q_7, .inl (cA_q_7, 64, .inl ((fun _ => 0)))), (q_8, .inl (cA_q_8, 64, .inl ((fun _ => 0)))), (q_9, .inl (cA_q_9, 64, .inl ((fun _ => 0)))), (q_10, .inl (cA_q_10, 64, .inl ((fun _ => 0)))), (q_11, .inl (cA_q_11, 64, .inl ((fun _ => 0)))), (q_12, .inl (cA_q_12, 64, .inl ((fun _ => 0))))] H := hP
  have hD : va_D A [(t0, .inr (5, [.int 0, .int ((-1)), .ref q_1, .ref q_2, .ref q_3, .ref q_4, .ref q_5, .ref q_6, .ref q_7, .ref q_8, .ref q_9, .ref q_10, .ref q_11, .ref q_12, .null, .null, .null, .int 0])), (q_1, .inl (cA_q_1, 64, .inl ((fun _ => 0)))), (q_2, .inl (cA_q_2, 64, .inl ((fun _ => 0)))), (q_3, .inl (cA_q_3, 64, .inl ((fun _ => 0)))), (q_4, .inl (cA_q_4, 64, .inl ((fun _ => 0)))), (q_5, .inl (cA_q_5, 64, .inl ((fun _ => 0)))), (q_6, .inl (cA_q_6, 64, .inl ((fun _ => 0)))), (q_7, .inl (cA_q_7, 64, .inl ((fun _ => 0)))), (q_8, .inl (cA_q_8, 64, .inl ((fun _ => 0)))), (q_9, .inl (cA_q_9, 64, .inl ((fun _ => 0)))), (q_10, .inl (cA_q_10, 64, .inl ((fun _ => 0)))), (q_11, .inl (cA_q_11, 64, .inl ((fun _ => 0)))), (q_12, .inl (cA_q_12, 64, .inl ((fun _ => 0))))] := hD
  refine lv_aload_n hx hb d_Tr_init_110 rfl (lv_at hl 0 rfl) ?_
  refine lv_bipush (v := 64) hx hb d_Tr_init_111 (by decide) ?_
  refine va_newa (atype := .int) (N' := 64) (a0 := (64, .inl (fun _ => 0))) hx hb (hts _ (u_Tr_J _ k_J_9)) rfl hK hP hD hS hA (fun _ => rfl) (by decide) (by decide) (by decide) (by decide) (by decide) d_Tr_init_113 (fun q_13 cA_q_13 H hK hP hD hS => ?_)
  have hP : va_P (dC, dI) classes [(t0, .inr (5, [.int 0, .int ((-1)), .ref q_1, .ref q_2, .ref q_3, .ref q_4, .ref q_5, .ref q_6, .ref q_7, .ref q_8, .ref q_9, .ref q_10, .ref q_11, .ref q_12, .null, .null, .null, .int 0])), (q_1, .inl (cA_q_1, 64, .inl ((fun _ => 0)))), (q_2, .inl (cA_q_2, 64, .inl ((fun _ => 0)))), (q_3, .inl (cA_q_3, 64, .inl ((fun _ => 0)))), (q_4, .inl (cA_q_4, 64, .inl ((fun _ => 0)))), (q_5, .inl (cA_q_5, 64, .inl ((fun _ => 0)))), (q_6, .inl (cA_q_6, 64, .inl ((fun _ => 0)))), (q_7, .inl (cA_q_7, 64, .inl ((fun _ => 0)))), (q_8, .inl (cA_q_8, 64, .inl ((fun _ => 0)))), (q_9, .inl (cA_q_9, 64, .inl ((fun _ => 0)))), (q_10, .inl (cA_q_10, 64, .inl ((fun _ => 0)))), (q_11, .inl (cA_q_11, 64, .inl ((fun _ => 0)))), (q_12, .inl (cA_q_12, 64, .inl ((fun _ => 0)))), (q_13, .inl (cA_q_13, 64, .inl ((fun _ => 0))))] H := hP
  have hD : va_D A [(t0, .inr (5, [.int 0, .int ((-1)), .ref q_1, .ref q_2, .ref q_3, .ref q_4, .ref q_5, .ref q_6, .ref q_7, .ref q_8, .ref q_9, .ref q_10, .ref q_11, .ref q_12, .null, .null, .null, .int 0])), (q_1, .inl (cA_q_1, 64, .inl ((fun _ => 0)))), (q_2, .inl (cA_q_2, 64, .inl ((fun _ => 0)))), (q_3, .inl (cA_q_3, 64, .inl ((fun _ => 0)))), (q_4, .inl (cA_q_4, 64, .inl ((fun _ => 0)))), (q_5, .inl (cA_q_5, 64, .inl ((fun _ => 0)))), (q_6, .inl (cA_q_6, 64, .inl ((fun _ => 0)))), (q_7, .inl (cA_q_7, 64, .inl ((fun _ => 0)))), (q_8, .inl (cA_q_8, 64, .inl ((fun _ => 0)))), (q_9, .inl (cA_q_9, 64, .inl ((fun _ => 0)))), (q_10, .inl (cA_q_10, 64, .inl ((fun _ => 0)))), (q_11, .inl (cA_q_11, 64, .inl ((fun _ => 0)))), (q_12, .inl (cA_q_12, 64, .inl ((fun _ => 0)))), (q_13, .inl (cA_q_13, 64, .inl ((fun _ => 0))))] := hD
  have hK : va_K (dC, dI) classes [(cA_q_1, .int), (cA_q_2, .int), (cA_q_3, .int), (cA_q_4, .int), (cA_q_5, .int), (cA_q_6, .int), (cA_q_7, .int), (cA_q_8, .int), (cA_q_9, .int), (cA_q_10, .int), (cA_q_11, .int), (cA_q_12, .int), (cA_q_13, .int)] s := hK
  refine va_put (D := (dC, dI)) (ci := 5) (v := .ref q_13) (ty := .array .int) (C := R_Tr) (T := F_Tr) (N := 18) hx hb hts i_Tr t_Tr t_Tr_ok n_Tr hown hK hP hD hS 0 rfl rfl 14 (by decide) (hts _ (k_Tr_19)) (fun _ h9 => h9) rfl (by decide +kernel) rfl rfl (Nat.le_of_ble_eq_true rfl) d_Tr_init_115 (fun H locs hP hD hS => ?_)
  have hP : va_P (dC, dI) classes [(t0, .inr (5, [.int 0, .int ((-1)), .ref q_1, .ref q_2, .ref q_3, .ref q_4, .ref q_5, .ref q_6, .ref q_7, .ref q_8, .ref q_9, .ref q_10, .ref q_11, .ref q_12, .ref q_13, .null, .null, .int 0])), (q_1, .inl (cA_q_1, 64, .inl ((fun _ => 0)))), (q_2, .inl (cA_q_2, 64, .inl ((fun _ => 0)))), (q_3, .inl (cA_q_3, 64, .inl ((fun _ => 0)))), (q_4, .inl (cA_q_4, 64, .inl ((fun _ => 0)))), (q_5, .inl (cA_q_5, 64, .inl ((fun _ => 0)))), (q_6, .inl (cA_q_6, 64, .inl ((fun _ => 0)))), (q_7, .inl (cA_q_7, 64, .inl ((fun _ => 0)))), (q_8, .inl (cA_q_8, 64, .inl ((fun _ => 0)))), (q_9, .inl (cA_q_9, 64, .inl ((fun _ => 0)))), (q_10, .inl (cA_q_10, 64, .inl ((fun _ => 0)))), (q_11, .inl (cA_q_11, 64, .inl ((fun _ => 0)))), (q_12, .inl (cA_q_12, 64, .inl ((fun _ => 0)))), (q_13, .inl (cA_q_13, 64, .inl ((fun _ => 0))))] H := hP
  have hD : va_D A [(t0, .inr (5, [.int 0, .int ((-1)), .ref q_1, .ref q_2, .ref q_3, .ref q_4, .ref q_5, .ref q_6, .ref q_7, .ref q_8, .ref q_9, .ref q_10, .ref q_11, .ref q_12, .ref q_13, .null, .null, .int 0])), (q_1, .inl (cA_q_1, 64, .inl ((fun _ => 0)))), (q_2, .inl (cA_q_2, 64, .inl ((fun _ => 0)))), (q_3, .inl (cA_q_3, 64, .inl ((fun _ => 0)))), (q_4, .inl (cA_q_4, 64, .inl ((fun _ => 0)))), (q_5, .inl (cA_q_5, 64, .inl ((fun _ => 0)))), (q_6, .inl (cA_q_6, 64, .inl ((fun _ => 0)))), (q_7, .inl (cA_q_7, 64, .inl ((fun _ => 0)))), (q_8, .inl (cA_q_8, 64, .inl ((fun _ => 0)))), (q_9, .inl (cA_q_9, 64, .inl ((fun _ => 0)))), (q_10, .inl (cA_q_10, 64, .inl ((fun _ => 0)))), (q_11, .inl (cA_q_11, 64, .inl ((fun _ => 0)))), (q_12, .inl (cA_q_12, 64, .inl ((fun _ => 0)))), (q_13, .inl (cA_q_13, 64, .inl ((fun _ => 0))))] := hD
  refine lv_aload_n hx hb d_Tr_init_118 rfl (lv_at hl 0 rfl) ?_
  refine lv_bipush (v := 64) hx hb d_Tr_init_119 (by decide) ?_
  refine va_newa (atype := .int) (N' := 64) (a0 := (64, .inl (fun _ => 0))) hx hb (hts _ (u_Tr_J _ k_J_9)) rfl hK hP hD hS hA (fun _ => rfl) (by decide) (by decide) (by decide) (by decide) (by decide) d_Tr_init_121 (fun q_14 cA_q_14 H hK hP hD hS => ?_)
  have hP : va_P (dC, dI) classes [(t0, .inr (5, [.int 0, .int ((-1)), .ref q_1, .ref q_2, .ref q_3, .ref q_4, .ref q_5, .ref q_6, .ref q_7, .ref q_8, .ref q_9, .ref q_10, .ref q_11, .ref q_12, .ref q_13, .null, .null, .int 0])), (q_1, .inl (cA_q_1, 64, .inl ((fun _ => 0)))), (q_2, .inl (cA_q_2, 64, .inl ((fun _ => 0)))), (q_3, .inl (cA_q_3, 64, .inl ((fun _ => 0)))), (q_4, .inl (cA_q_4, 64, .inl ((fun _ => 0)))), (q_5, .inl (cA_q_5, 64, .inl ((fun _ => 0)))), (q_6, .inl (cA_q_6, 64, .inl ((fun _ => 0)))), (q_7, .inl (cA_q_7, 64, .inl ((fun _ => 0)))), (q_8, .inl (cA_q_8, 64, .inl ((fun _ => 0)))), (q_9, .inl (cA_q_9, 64, .inl ((fun _ => 0)))), (q_10, .inl (cA_q_10, 64, .inl ((fun _ => 0)))), (q_11, .inl (cA_q_11, 64, .inl ((fun _ => 0)))), (q_12, .inl (cA_q_12, 64, .inl ((fun _ => 0)))), (q_13, .inl (cA_q_13, 64, .inl ((fun _ => 0)))), (q_14, .inl (cA_q_14, 64, .inl ((fun _ => 0))))] H := hP
  have hD : va_D A [(t0, .inr (5, [.int 0, .int ((-1)), .ref q_1, .ref q_2, .ref q_3, .ref q_4, .ref q_5, .ref q_6, .ref q_7, .ref q_8, .ref q_9, .ref q_10, .ref q_11, .ref q_12, .ref q_13, .null, .null, .int 0])), (q_1, .inl (cA_q_1, 64, .inl ((fun _ => 0)))), (q_2, .inl (cA_q_2, 64, .inl ((fun _ => 0)))), (q_3, .inl (cA_q_3, 64, .inl ((fun _ => 0)))), (q_4, .inl (cA_q_4, 64, .inl ((fun _ => 0)))), (q_5, .inl (cA_q_5, 64, .inl ((fun _ => 0)))), (q_6, .inl (cA_q_6, 64, .inl ((fun _ => 0)))), (q_7, .inl (cA_q_7, 64, .inl ((fun _ => 0)))), (q_8, .inl (cA_q_8, 64, .inl ((fun _ => 0)))), (q_9, .inl (cA_q_9, 64, .inl ((fun _ => 0)))), (q_10, .inl (cA_q_10, 64, .inl ((fun _ => 0)))), (q_11, .inl (cA_q_11, 64, .inl ((fun _ => 0)))), (q_12, .inl (cA_q_12, 64, .inl ((fun _ => 0)))), (q_13, .inl (cA_q_13, 64, .inl ((fun _ => 0)))), (q_14, .inl (cA_q_14, 64, .inl ((fun _ => 0))))] := hD
  have hK : va_K (dC, dI) classes [(cA_q_1, .int), (cA_q_2, .int), (cA_q_3, .int), (cA_q_4, .int), (cA_q_5, .int), (cA_q_6, .int), (cA_q_7, .int), (cA_q_8, .int), (cA_q_9, .int), (cA_q_10, .int), (cA_q_11, .int), (cA_q_12, .int), (cA_q_13, .int), (cA_q_14, .int)] s := hK
  refine va_put (D := (dC, dI)) (ci := 5) (v := .ref q_14) (ty := .array .int) (C := R_Tr) (T := F_Tr) (N := 18) hx hb hts i_Tr t_Tr t_Tr_ok n_Tr hown hK hP hD hS 0 rfl rfl 15 (by decide) (hts _ (k_Tr_20)) (fun _ h9 => h9) rfl (by decide +kernel) rfl rfl (Nat.le_of_ble_eq_true rfl) d_Tr_init_123 (fun H locs hP hD hS => ?_)
  have hP : va_P (dC, dI) classes [(t0, .inr (5, [.int 0, .int ((-1)), .ref q_1, .ref q_2, .ref q_3, .ref q_4, .ref q_5, .ref q_6, .ref q_7, .ref q_8, .ref q_9, .ref q_10, .ref q_11, .ref q_12, .ref q_13, .ref q_14, .null, .int 0])), (q_1, .inl (cA_q_1, 64, .inl ((fun _ => 0)))), (q_2, .inl (cA_q_2, 64, .inl ((fun _ => 0)))), (q_3, .inl (cA_q_3, 64, .inl ((fun _ => 0)))), (q_4, .inl (cA_q_4, 64, .inl ((fun _ => 0)))), (q_5, .inl (cA_q_5, 64, .inl ((fun _ => 0)))), (q_6, .inl (cA_q_6, 64, .inl ((fun _ => 0)))), (q_7, .inl (cA_q_7, 64, .inl ((fun _ => 0)))), (q_8, .inl (cA_q_8, 64, .inl ((fun _ => 0)))), (q_9, .inl (cA_q_9, 64, .inl ((fun _ => 0)))), (q_10, .inl (cA_q_10, 64, .inl ((fun _ => 0)))), (q_11, .inl (cA_q_11, 64, .inl ((fun _ => 0)))), (q_12, .inl (cA_q_12, 64, .inl ((fun _ => 0)))), (q_13, .inl (cA_q_13, 64, .inl ((fun _ => 0)))), (q_14, .inl (cA_q_14, 64, .inl ((fun _ => 0))))] H := hP
  have hD : va_D A [(t0, .inr (5, [.int 0, .int ((-1)), .ref q_1, .ref q_2, .ref q_3, .ref q_4, .ref q_5, .ref q_6, .ref q_7, .ref q_8, .ref q_9, .ref q_10, .ref q_11, .ref q_12, .ref q_13, .ref q_14, .null, .int 0])), (q_1, .inl (cA_q_1, 64, .inl ((fun _ => 0)))), (q_2, .inl (cA_q_2, 64, .inl ((fun _ => 0)))), (q_3, .inl (cA_q_3, 64, .inl ((fun _ => 0)))), (q_4, .inl (cA_q_4, 64, .inl ((fun _ => 0)))), (q_5, .inl (cA_q_5, 64, .inl ((fun _ => 0)))), (q_6, .inl (cA_q_6, 64, .inl ((fun _ => 0)))), (q_7, .inl (cA_q_7, 64, .inl ((fun _ => 0)))), (q_8, .inl (cA_q_8, 64, .inl ((fun _ => 0)))), (q_9, .inl (cA_q_9, 64, .inl ((fun _ => 0)))), (q_10, .inl (cA_q_10, 64, .inl ((fun _ => 0)))), (q_11, .inl (cA_q_11, 64, .inl ((fun _ => 0)))), (q_12, .inl (cA_q_12, 64, .inl ((fun _ => 0)))), (q_13, .inl (cA_q_13, 64, .inl ((fun _ => 0)))), (q_14, .inl (cA_q_14, 64, .inl ((fun _ => 0))))] := hD
  refine lv_aload_n hx hb d_Tr_init_126 rfl (lv_at hl 0 rfl) ?_
  refine lv_sipush (v := 1024) hx hb d_Tr_init_127 (by decide) ?_
  refine va_newa (atype := .int) (N' := 1024) (a0 := (1024, .inl (fun _ => 0))) hx hb (hts _ (u_Tr_J _ k_J_9)) rfl hK hP hD hS hA (fun _ => rfl) (by decide) (by decide) (by decide) (by decide) (by decide) d_Tr_init_130 (fun q_15 cA_q_15 H hK hP hD hS => ?_)
  have hP : va_P (dC, dI) classes [(t0, .inr (5, [.int 0, .int ((-1)), .ref q_1, .ref q_2, .ref q_3, .ref q_4, .ref q_5, .ref q_6, .ref q_7, .ref q_8, .ref q_9, .ref q_10, .ref q_11, .ref q_12, .ref q_13, .ref q_14, .null, .int 0])), (q_1, .inl (cA_q_1, 64, .inl ((fun _ => 0)))), (q_2, .inl (cA_q_2, 64, .inl ((fun _ => 0)))), (q_3, .inl (cA_q_3, 64, .inl ((fun _ => 0)))), (q_4, .inl (cA_q_4, 64, .inl ((fun _ => 0)))), (q_5, .inl (cA_q_5, 64, .inl ((fun _ => 0)))), (q_6, .inl (cA_q_6, 64, .inl ((fun _ => 0)))), (q_7, .inl (cA_q_7, 64, .inl ((fun _ => 0)))), (q_8, .inl (cA_q_8, 64, .inl ((fun _ => 0)))), (q_9, .inl (cA_q_9, 64, .inl ((fun _ => 0)))), (q_10, .inl (cA_q_10, 64, .inl ((fun _ => 0)))), (q_11, .inl (cA_q_11, 64, .inl ((fun _ => 0)))), (q_12, .inl (cA_q_12, 64, .inl ((fun _ => 0)))), (q_13, .inl (cA_q_13, 64, .inl ((fun _ => 0)))), (q_14, .inl (cA_q_14, 64, .inl ((fun _ => 0)))), (q_15, .inl (cA_q_15, 1024, .inl ((fun _ => 0))))] H := hP
  have hD : va_D A [(t0, .inr (5, [.int 0, .int ((-1)), .ref q_1, .ref q_2, .ref q_3, .ref q_4, .ref q_5, .ref q_6, .ref q_7, .ref q_8, .ref q_9, .ref q_10, .ref q_11, .ref q_12, .ref q_13, .ref q_14, .null, .int 0])), (q_1, .inl (cA_q_1, 64, .inl ((fun _ => 0)))), (q_2, .inl (cA_q_2, 64, .inl ((fun _ => 0)))), (q_3, .inl (cA_q_3, 64, .inl ((fun _ => 0)))), (q_4, .inl (cA_q_4, 64, .inl ((fun _ => 0)))), (q_5, .inl (cA_q_5, 64, .inl ((fun _ => 0)))), (q_6, .inl (cA_q_6, 64, .inl ((fun _ => 0)))), (q_7, .inl (cA_q_7, 64, .inl ((fun _ => 0)))), (q_8, .inl (cA_q_8, 64, .inl ((fun _ => 0)))), (q_9, .inl (cA_q_9, 64, .inl ((fun _ => 0)))), (q_10, .inl (cA_q_10, 64, .inl ((fun _ => 0)))), (q_11, .inl (cA_q_11, 64, .inl ((fun _ => 0)))), (q_12, .inl (cA_q_12, 64, .inl ((fun _ => 0)))), (q_13, .inl (cA_q_13, 64, .inl ((fun _ => 0)))), (q_14, .inl (cA_q_14, 64, .inl ((fun _ => 0)))), (q_15, .inl (cA_q_15, 1024, .inl ((fun _ => 0))))] := hD
  have hK : va_K (dC, dI) classes [(cA_q_1, .int), (cA_q_2, .int), (cA_q_3, .int), (cA_q_4, .int), (cA_q_5, .int), (cA_q_6, .int), (cA_q_7, .int), (cA_q_8, .int), (cA_q_9, .int), (cA_q_10, .int), (cA_q_11, .int), (cA_q_12, .int), (cA_q_13, .int), (cA_q_14, .int), (cA_q_15, .int)] s := hK
  refine va_put (D := (dC, dI)) (ci := 5) (v := .ref q_15) (ty := .array .int) (C := R_Tr) (T := F_Tr) (N := 18) hx hb hts i_Tr t_Tr t_Tr_ok n_Tr hown hK hP hD hS 0 rfl rfl 16 (by decide) (hts _ (k_Tr_21)) (fun _ h9 => h9) rfl (by decide +kernel) rfl rfl (Nat.le_of_ble_eq_true rfl) d_Tr_init_132 (fun H locs hP hD hS => ?_)
  have hP : va_P (dC, dI) classes [(t0, .inr (5, [.int 0, .int ((-1)), .ref q_1, .ref q_2, .ref q_3, .ref q_4, .ref q_5, .ref q_6, .ref q_7, .ref q_8, .ref q_9, .ref q_10, .ref q_11, .ref q_12, .ref q_13, .ref q_14, .ref q_15, .int 0])), (q_1, .inl (cA_q_1, 64, .inl ((fun _ => 0)))), (q_2, .inl (cA_q_2, 64, .inl ((fun _ => 0)))), (q_3, .inl (cA_q_3, 64, .inl ((fun _ => 0)))), (q_4, .inl (cA_q_4, 64, .inl ((fun _ => 0)))), (q_5, .inl (cA_q_5, 64, .inl ((fun _ => 0)))), (q_6, .inl (cA_q_6, 64, .inl ((fun _ => 0)))), (q_7, .inl (cA_q_7, 64, .inl ((fun _ => 0)))), (q_8, .inl (cA_q_8, 64, .inl ((fun _ => 0)))), (q_9, .inl (cA_q_9, 64, .inl ((fun _ => 0)))), (q_10, .inl (cA_q_10, 64, .inl ((fun _ => 0)))), (q_11, .inl (cA_q_11, 64, .inl ((fun _ => 0)))), (q_12, .inl (cA_q_12, 64, .inl ((fun _ => 0)))), (q_13, .inl (cA_q_13, 64, .inl ((fun _ => 0)))), (q_14, .inl (cA_q_14, 64, .inl ((fun _ => 0)))), (q_15, .inl (cA_q_15, 1024, .inl ((fun _ => 0))))] H := hP
  have hD : va_D A [(t0, .inr (5, [.int 0, .int ((-1)), .ref q_1, .ref q_2, .ref q_3, .ref q_4, .ref q_5, .ref q_6, .ref q_7, .ref q_8, .ref q_9, .ref q_10, .ref q_11, .ref q_12, .ref q_13, .ref q_14, .ref q_15, .int 0])), (q_1, .inl (cA_q_1, 64, .inl ((fun _ => 0)))), (q_2, .inl (cA_q_2, 64, .inl ((fun _ => 0)))), (q_3, .inl (cA_q_3, 64, .inl ((fun _ => 0)))), (q_4, .inl (cA_q_4, 64, .inl ((fun _ => 0)))), (q_5, .inl (cA_q_5, 64, .inl ((fun _ => 0)))), (q_6, .inl (cA_q_6, 64, .inl ((fun _ => 0)))), (q_7, .inl (cA_q_7, 64, .inl ((fun _ => 0)))), (q_8, .inl (cA_q_8, 64, .inl ((fun _ => 0)))), (q_9, .inl (cA_q_9, 64, .inl ((fun _ => 0)))), (q_10, .inl (cA_q_10, 64, .inl ((fun _ => 0)))), (q_11, .inl (cA_q_11, 64, .inl ((fun _ => 0)))), (q_12, .inl (cA_q_12, 64, .inl ((fun _ => 0)))), (q_13, .inl (cA_q_13, 64, .inl ((fun _ => 0)))), (q_14, .inl (cA_q_14, 64, .inl ((fun _ => 0)))), (q_15, .inl (cA_q_15, 1024, .inl ((fun _ => 0))))] := hD
  refine lv_aload_n hx hb d_Tr_init_135 rfl (lv_at hl 0 rfl) ?_
  refine lv_iconst (v := 0) hx hb d_Tr_init_136 (by decide) ?_
  refine va_put (D := (dC, dI)) (ci := 5) (v := .int 0) (ty := .int) (C := R_Tr) (T := F_Tr) (N := 18) hx hb hts i_Tr t_Tr t_Tr_ok n_Tr hown hK hP hD hS 0 rfl rfl 17 (by decide) (hts _ (k_Tr_22)) (fun _ h9 => h9) rfl (by decide +kernel) rfl rfl (Nat.le_of_ble_eq_true rfl) d_Tr_init_137 (fun H locs hP hD hS => ?_)
  have hP : va_P (dC, dI) classes [(t0, .inr (5, [.int 0, .int ((-1)), .ref q_1, .ref q_2, .ref q_3, .ref q_4, .ref q_5, .ref q_6, .ref q_7, .ref q_8, .ref q_9, .ref q_10, .ref q_11, .ref q_12, .ref q_13, .ref q_14, .ref q_15, .int 0])), (q_1, .inl (cA_q_1, 64, .inl ((fun _ => 0)))), (q_2, .inl (cA_q_2, 64, .inl ((fun _ => 0)))), (q_3, .inl (cA_q_3, 64, .inl ((fun _ => 0)))), (q_4, .inl (cA_q_4, 64, .inl ((fun _ => 0)))), (q_5, .inl (cA_q_5, 64, .inl ((fun _ => 0)))), (q_6, .inl (cA_q_6, 64, .inl ((fun _ => 0)))), (q_7, .inl (cA_q_7, 64, .inl ((fun _ => 0)))), (q_8, .inl (cA_q_8, 64, .inl ((fun _ => 0)))), (q_9, .inl (cA_q_9, 64, .inl ((fun _ => 0)))), (q_10, .inl (cA_q_10, 64, .inl ((fun _ => 0)))), (q_11, .inl (cA_q_11, 64, .inl ((fun _ => 0)))), (q_12, .inl (cA_q_12, 64, .inl ((fun _ => 0)))), (q_13, .inl (cA_q_13, 64, .inl ((fun _ => 0)))), (q_14, .inl (cA_q_14, 64, .inl ((fun _ => 0)))), (q_15, .inl (cA_q_15, 1024, .inl ((fun _ => 0))))] H := hP
  have hD : va_D A [(t0, .inr (5, [.int 0, .int ((-1)), .ref q_1, .ref q_2, .ref q_3, .ref q_4, .ref q_5, .ref q_6, .ref q_7, .ref q_8, .ref q_9, .ref q_10, .ref q_11, .ref q_12, .ref q_13, .ref q_14, .ref q_15, .int 0])), (q_1, .inl (cA_q_1, 64, .inl ((fun _ => 0)))), (q_2, .inl (cA_q_2, 64, .inl ((fun _ => 0)))), (q_3, .inl (cA_q_3, 64, .inl ((fun _ => 0)))), (q_4, .inl (cA_q_4, 64, .inl ((fun _ => 0)))), (q_5, .inl (cA_q_5, 64, .inl ((fun _ => 0)))), (q_6, .inl (cA_q_6, 64, .inl ((fun _ => 0)))), (q_7, .inl (cA_q_7, 64, .inl ((fun _ => 0)))), (q_8, .inl (cA_q_8, 64, .inl ((fun _ => 0)))), (q_9, .inl (cA_q_9, 64, .inl ((fun _ => 0)))), (q_10, .inl (cA_q_10, 64, .inl ((fun _ => 0)))), (q_11, .inl (cA_q_11, 64, .inl ((fun _ => 0)))), (q_12, .inl (cA_q_12, 64, .inl ((fun _ => 0)))), (q_13, .inl (cA_q_13, 64, .inl ((fun _ => 0)))), (q_14, .inl (cA_q_14, 64, .inl ((fun _ => 0)))), (q_15, .inl (cA_q_15, 1024, .inl ((fun _ => 0))))] := hD
  refine W.widen (k := 15) (n := 1920) (by omega) (by omega) ?_
  exact W.vret hx hb hr (fun t ht hW => ⟨⟨((fun k => [q_1, q_2, q_3, q_4, q_5, q_6, q_7, q_8, q_9, q_10, q_11, q_12, q_13, q_14, q_15].getD k 0), (fun k => [cA_q_1, cA_q_2, cA_q_3, cA_q_4, cA_q_5, cA_q_6, cA_q_7, cA_q_8, cA_q_9, cA_q_10, cA_q_11, cA_q_12, cA_q_13, cA_q_14, cA_q_15].getD k 0)), rfl, trivial, by rw [ht]; exact hP, va_K.moved hW.alike hK, hD⟩, hS.F ht⟩) hS.2.2 d_Tr_init_140
set_option maxHeartbeats 4000000 in
set_option maxRecDepth 100000 in
/-- Inodes(disk) -/
theorem c_In_init (l : Launch) (dC : Nat → ClassId) (dI : Nat → Nat → Nat) (i0 h0 sz : Nat) : Met l y_In_init (.code y_In_init b_In_init 2 none :: V_In) ({ frames := 1, cells := 0, slots := 0, locals := 12 }) (va_Pc [.ref i0, .ref h0] (fun U => U.heap.size = sz ∧ at_ (dC, dI) (fun _ => True) [(i0, .inr (6, [.null, .int 0]))] [] U)) (va_Qv (fun u : Unit => True) (fun (u : Unit) t => at_ (dC, dI) (va_A [(i0, .inr (6, [.null, .int 0]))] sz) [(i0, .inr (6, [.ref h0, .int 0]))] [] t) (va_A [(i0, .inr (6, [.null, .int 0]))] sz)) 0 0 (va_A [(i0, .inr (6, [.null, .int 0]))] sz) := by
  refine Met.ofW (cc := b_In_init) (maxL := 2) (ret := none) (by decide) rfl ?_
  intro p e s m args below meth c s₁ B hml hv
  obtain ⟨rfl, hsz, hP, hK, hD0⟩ := hv
  have hx := B.exec
  have hb := B.bytes
  have hr := B.returns
  have hts0 := atoms_spec (ws := .code y_In_init b_In_init 2 none :: V_In) B.pre
  have hts : ∀ w ∈ V_In, w.before ([.ref i0, .ref h0] : List Value).toArray s = true := fun w h => hts0 w (List.mem_cons_of_mem _ h)
  have hown : s.vm.findClass R_In = some m.cls := findClass_of_methodNamed B.named
  have hlocks := B.notSynchronized
  have hin : meth.name = "<init>" := (name_of_methodNamed B.named B.method).1
  subst hsz
  have hD := hD0.self (sz := s.heap.size)
  generalize hAe : va_A [(i0, .inr (6, [.null, .int 0]))] s.heap.size = A at hD ⊢
  have hA : ∀ q : Nat, s.heap.size ≤ q → A q := fun q h => by rw [← hAe]; exact Or.inr h
  have hS : va_S A s.heap s.heap [] := va_S.rf
  have hP : va_P (dC, dI) classes [(i0, .inr (6, [.null, .int 0]))] s.heap := hP
  have hK : va_K (dC, dI) classes [] s := hK
  have hl := lv_entry ([.ref i0, .ref h0]) (n := 2) (Nat.le_of_ble_eq_true rfl)
  rw [lg_entry_eq]
  generalize (lg_sl ([.ref i0, .ref h0]) ++ List.replicate (2 - (lg_sl ([.ref i0, .ref h0])).length) Slot.unset).toArray = ls at hl ⊢
  have hl : lv_has ls 2 [(0, .ref i0), (1, .ref h0)] := hl
  refine lv_aload_n hx hb d_In_init_0 rfl (lv_at hl 0 rfl) ?_
  refine W.objInit hx hb hown (hts _ (k_In_4)) (hts _ (u_In_J _ k_J_3)) (hts _ (u_In_J _ k_J_4)) rfl (by rw [hml]; exact hl.1) rfl d_In_init_1 (Nat.le_of_ble_eq_true rfl) (Nat.le_of_ble_eq_true rfl) ?_
  refine W.eq (g2 := F0 m 4 ls []) rfl ?_
  refine lv_aload_n hx hb d_In_init_4 rfl (lv_at hl 0 rfl) ?_
  refine lv_iconst (v := 0) hx hb d_In_init_5 (by decide) ?_
  refine va_put (D := (dC, dI)) (ci := 6) (v := .int 0) (ty := .int) (C := R_In) (T := F_In) (N := 2) hx hb hts i_In t_In t_In_ok n_In hown hK hP hD hS 0 rfl rfl 1 (by decide) (hts _ (k_In_6)) (fun _ h9 => h9) rfl (by decide +kernel) rfl rfl (Nat.le_of_ble_eq_true rfl) d_In_init_6 (fun H locs hP hD hS => ?_)
  have hP : va_P (dC, dI) classes [(i0, .inr (6, [.null, .int 0]))] H := hP
  have hD : va_D A [(i0, .inr (6, [.null, .int 0]))] := hD
  refine lv_aload_n hx hb d_In_init_9 rfl (lv_at hl 0 rfl) ?_
  refine lv_aload_n hx hb d_In_init_10 rfl (lv_at hl 1 rfl) ?_
  refine va_putF (D := (dC, dI)) (ci := 6) (v := .ref h0) (ty := .object "VolumeTurner$Disk") (C := R_In) (T := F_In) (N := 2) hx hb hts i_In t_In t_In_ok n_In hown hK hP hD hS 0 rfl rfl 0 (by decide) (hts _ (k_In_5)) (fun _ h9 => h9) rfl hin rfl (by decide +kernel) rfl rfl (Nat.le_of_ble_eq_true rfl) d_In_init_11 (fun H locs hP hD hS => ?_)
  have hP : va_P (dC, dI) classes [(i0, .inr (6, [.ref h0, .int 0]))] H := hP
  have hD : va_D A [(i0, .inr (6, [.ref h0, .int 0]))] := hD
  exact W.vret hx hb hr (fun t ht hW => ⟨⟨(), rfl, trivial, by rw [ht]; exact hP, va_K.moved hW.alike hK, hD⟩, hS.F ht⟩) hS.2.2 d_In_init_14
def in_marked (n : Nat) (f : Nat → Int32) : Int32 := if (dk_four n f 3584) = 1314018644 then (1) else (0)
set_option maxHeartbeats 4000000 in
set_option maxRecDepth 100000 in
theorem c_In_isMarked (l : Launch) (dC : Nat → ClassId) (dI : Nat → Nat → Nat) (i0 h0 sz : Nat) (se : Int32) (h1 : Nat) (cB : ClassId) (sec pw : Int32) (n : Nat) (f : Nat → Int32) (h4 : 4 ≤ n) (hn : n < 2 ^ 31) : Met l y_In_isMarked (.code y_In_isMarked b_In_isMarked 1 (some .boolean) :: V_In) ({ frames := 1, cells := 0, slots := 0, locals := 21 }) (va_Pc [.ref i0] (fun U => U.heap.size = sz ∧ at_ (dC, dI) (fun _ => True) [(i0, .inr (6, [.ref h0, .int se])), (h0, .inr (0, [.int sec, .ref h1, .int pw])), (h1, .inl (cB, n, .inl f))] [(cB, .byte)] U)) (va_Qi (fun (r : Int32) (u : Unit) => r = in_marked n f) (fun (u : Unit) t => at_ (dC, dI) (va_A [(i0, .inr (6, [.ref h0, .int se])), (h0, .inr (0, [.int sec, .ref h1, .int pw])), (h1, .inl (cB, n, .inl f))] sz) [(i0, .inr (6, [.ref h0, .int se])), (h0, .inr (0, [.int sec, .ref h1, .int pw])), (h1, .inl (cB, n, .inl f))] [(cB, .byte)] t) (va_A [(i0, .inr (6, [.ref h0, .int se])), (h0, .inr (0, [.int sec, .ref h1, .int pw])), (h1, .inl (cB, n, .inl f))] sz)) 0 0 (va_A [(i0, .inr (6, [.ref h0, .int se])), (h0, .inr (0, [.int sec, .ref h1, .int pw])), (h1, .inl (cB, n, .inl f))] sz) := by
  refine Met.ofW (cc := b_In_isMarked) (maxL := 1) (ret := (some .boolean)) (by decide) rfl ?_
  intro p e s m args below meth c s₁ B hml hv
  obtain ⟨rfl, hsz, hP, hK, hD0⟩ := hv
  have hx := B.exec
  have hb := B.bytes
  have hr := B.returns
  have hts0 := atoms_spec (ws := .code y_In_isMarked b_In_isMarked 1 (some .boolean) :: V_In) B.pre
  have hts : ∀ w ∈ V_In, w.before ([.ref i0] : List Value).toArray s = true := fun w h => hts0 w (List.mem_cons_of_mem _ h)
  have hown : s.vm.findClass R_In = some m.cls := findClass_of_methodNamed B.named
  have hlocks := B.notSynchronized
  subst hsz
  have hD := hD0.self (sz := s.heap.size)
  generalize hAe : va_A [(i0, .inr (6, [.ref h0, .int se])), (h0, .inr (0, [.int sec, .ref h1, .int pw])), (h1, .inl (cB, n, .inl f))] s.heap.size = A at hD ⊢
  have hA : ∀ q : Nat, s.heap.size ≤ q → A q := fun q h => by rw [← hAe]; exact Or.inr h
  have hS : va_S A s.heap s.heap [] := va_S.rf
  have hP : va_P (dC, dI) classes [(i0, .inr (6, [.ref h0, .int se])), (h0, .inr (0, [.int sec, .ref h1, .int pw])), (h1, .inl (cB, n, .inl f))] s.heap := hP
  have hK : va_K (dC, dI) classes [(cB, .byte)] s := hK
  have hl := lv_entry ([.ref i0]) (n := 1) (Nat.le_of_ble_eq_true rfl)
  rw [lg_entry_eq]
  generalize (lg_sl ([.ref i0]) ++ List.replicate (1 - (lg_sl ([.ref i0])).length) Slot.unset).toArray = ls at hl ⊢
  have hl : lv_has ls 1 [(0, .ref i0)] := hl
  refine lv_aload_n hx hb d_In_isMarked_0 rfl (lv_at hl 0 rfl) ?_
  refine va_get (D := (dC, dI)) (ci := 6) (v := .ref h0) (C := R_In) (T := F_In) (N := 2) hx hb hts i_In hown hK hP 0 rfl rfl 0 (by decide) (hts _ (k_In_5)) (fun _ h9 => h9) rfl d_In_isMarked_1 ?_
  refine lv_sipush (v := 3584) hx hb d_In_isMarked_4 (by decide) ?_
  have hPc := hP.sub (ws' := [(h0, .inr (0, [.int sec, .ref h1, .int pw])), (h1, .inl (cB, n, .inl f))]) [1, 2] rfl
  have hDc := hD.sub (ws' := [(h0, .inr (0, [.int sec, .ref h1, .int pw])), (h1, .inl (cB, n, .inl f))]) [1, 2] (by decide) rfl
  have hKc := hK.sub (tys' := [(cB, .byte)]) [0] rfl
  have hFc := va_free (wc := [(h0, .inr (0, [.int sec, .ref h1, .int pw])), (h1, .inl (cB, n, .inl f))]) hD hS hA [1, 2] rfl
  refine va_calli (va_runV (As := [.int 3584]) (rest := []) ⟨hx, hb, hml, hown, hts⟩ (c_Dk_four l dC dI h0 h1 s.heap.size cB sec pw n f h4 hn 3584) (cwV 1 hts (gwV good_In (k_In_14) (u_In_Dk _ k_Dk_14) (u_In_Dk _ k_Dk_15) (u_In_Dk _ k_Dk_0) (wcs (u_In_Dk _ k_Dk_16) u_In_Dk)) rfl rfl rfl (by decide +kernel) ⟨Nat.le_of_ble_eq_true rfl, Nat.le_of_ble_eq_true rfl⟩) (pv_of hPc hKc hDc (va_recv hKc hPc (ci := 0) (q0 := 0) rfl rfl)) rfl rfl hl.1 rfl (lv_room (Nat.le_of_ble_eq_true rfl)) d_In_isMarked_7 ⟨by decide, by decide⟩) hS (fun q _ h => hFc q h) hFc (fun r_1 u t H1 locs ht hvm hw hB hz1 hk1 hS => ?_)
  obtain ⟨er_1, rfl⟩ := hw
  obtain ⟨hP1, hK1, hD1⟩ := hB
  rw [ht] at hP1
  have hP1 : va_P (dC, dI) classes [(h0, .inr (0, [.int sec, .ref h1, .int pw])), (h1, .inl (cB, n, .inl f))] H1 := hP1
  have hD1 : va_D _ [(h0, .inr (0, [.int sec, .ref h1, .int pw])), (h1, .inl (cB, n, .inl f))] := hD1
  obtain ⟨hP, hD⟩ := va_join (wr := [(i0, .inr (6, [.ref h0, .int se]))]) (w1 := [(h0, .inr (0, [.int sec, .ref h1, .int pw])), (h1, .inl (cB, n, .inl f))]) hP hD [1, 2] [0] rfl rfl (by decide) (by decide) hk1 hFc hP1 hD1
  generalize H1 = H at hP hS ⊢
  have hP : va_P (dC, dI) classes [(i0, .inr (6, [.ref h0, .int se])), (h0, .inr (0, [.int sec, .ref h1, .int pw])), (h1, .inl (cB, n, .inl f))] H := hP
  have hD : va_D A [(i0, .inr (6, [.ref h0, .int se])), (h0, .inr (0, [.int sec, .ref h1, .int pw])), (h1, .inl (cB, n, .inl f))] := hD
  refine lv_ldc (v := 1314018644) hx hb hown (hts _ (k_In_15)) d_In_isMarked_10 ?_
  refine lv_icmp_ne (tgt := 19) hx hb d_In_isMarked_12 (by decide) (fun c_2 => ?_) (fun c_2 => ?_)
  · refine lv_iconst (v := 0) hx hb d_In_isMarked_19 (by decide) ?_
    exact W.zret (v := 0) hx hb hr rfl (fun t ht hW => ⟨⟨0, (), rfl, by rw [in_marked, ← er_1, if_neg c_2], by rw [ht]; exact hP, va_K.moved hW.alike hK, hD⟩, hS.F ht⟩) hS.2.2 d_In_isMarked_20
  · refine lv_iconst (v := 1) hx hb d_In_isMarked_15 (by decide) ?_
    refine lv_goto (tgt := 20) hx hb d_In_isMarked_16 (by decide) ?_
    exact W.zret (v := 1) hx hb hr rfl (fun t ht hW => ⟨⟨1, (), rfl, by rw [in_marked, ← er_1, if_pos c_2], by rw [ht]; exact hP, va_K.moved hW.alike hK, hD⟩, hS.F ht⟩) hS.2.2 d_In_isMarked_20
def in_msize (n : Nat) (f : Nat → Int32) : Int32 := ((dk_four n f 3588))
set_option maxHeartbeats 4000000 in
set_option maxRecDepth 100000 in
theorem c_In_markedSize (l : Launch) (dC : Nat → ClassId) (dI : Nat → Nat → Nat) (i0 h0 sz : Nat) (se : Int32) (h1 : Nat) (cB : ClassId) (sec pw : Int32) (n : Nat) (f : Nat → Int32) (h4 : 4 ≤ n) (hn : n < 2 ^ 31) : Met l y_In_markedSize (.code y_In_markedSize b_In_markedSize 1 (some .int) :: V_In) ({ frames := 1, cells := 0, slots := 0, locals := 21 }) (va_Pc [.ref i0] (fun U => U.heap.size = sz ∧ at_ (dC, dI) (fun _ => True) [(i0, .inr (6, [.ref h0, .int se])), (h0, .inr (0, [.int sec, .ref h1, .int pw])), (h1, .inl (cB, n, .inl f))] [(cB, .byte)] U)) (va_Qi (fun (r : Int32) (u : Unit) => r = in_msize n f) (fun (u : Unit) t => at_ (dC, dI) (va_A [(i0, .inr (6, [.ref h0, .int se])), (h0, .inr (0, [.int sec, .ref h1, .int pw])), (h1, .inl (cB, n, .inl f))] sz) [(i0, .inr (6, [.ref h0, .int se])), (h0, .inr (0, [.int sec, .ref h1, .int pw])), (h1, .inl (cB, n, .inl f))] [(cB, .byte)] t) (va_A [(i0, .inr (6, [.ref h0, .int se])), (h0, .inr (0, [.int sec, .ref h1, .int pw])), (h1, .inl (cB, n, .inl f))] sz)) 0 0 (va_A [(i0, .inr (6, [.ref h0, .int se])), (h0, .inr (0, [.int sec, .ref h1, .int pw])), (h1, .inl (cB, n, .inl f))] sz) := by
  refine Met.ofW (cc := b_In_markedSize) (maxL := 1) (ret := (some .int)) (by decide) rfl ?_
  intro p e s m args below meth c s₁ B hml hv
  obtain ⟨rfl, hsz, hP, hK, hD0⟩ := hv
  have hx := B.exec
  have hb := B.bytes
  have hr := B.returns
  have hts0 := atoms_spec (ws := .code y_In_markedSize b_In_markedSize 1 (some .int) :: V_In) B.pre
  have hts : ∀ w ∈ V_In, w.before ([.ref i0] : List Value).toArray s = true := fun w h => hts0 w (List.mem_cons_of_mem _ h)
  have hown : s.vm.findClass R_In = some m.cls := findClass_of_methodNamed B.named
  have hlocks := B.notSynchronized
  subst hsz
  have hD := hD0.self (sz := s.heap.size)
  generalize hAe : va_A [(i0, .inr (6, [.ref h0, .int se])), (h0, .inr (0, [.int sec, .ref h1, .int pw])), (h1, .inl (cB, n, .inl f))] s.heap.size = A at hD ⊢
  have hA : ∀ q : Nat, s.heap.size ≤ q → A q := fun q h => by rw [← hAe]; exact Or.inr h
  have hS : va_S A s.heap s.heap [] := va_S.rf
  have hP : va_P (dC, dI) classes [(i0, .inr (6, [.ref h0, .int se])), (h0, .inr (0, [.int sec, .ref h1, .int pw])), (h1, .inl (cB, n, .inl f))] s.heap := hP
  have hK : va_K (dC, dI) classes [(cB, .byte)] s := hK
  have hl := lv_entry ([.ref i0]) (n := 1) (Nat.le_of_ble_eq_true rfl)
  rw [lg_entry_eq]
  generalize (lg_sl ([.ref i0]) ++ List.replicate (1 - (lg_sl ([.ref i0])).length) Slot.unset).toArray = ls at hl ⊢
  have hl : lv_has ls 1 [(0, .ref i0)] := hl
  refine lv_aload_n hx hb d_In_markedSize_0 rfl (lv_at hl 0 rfl) ?_
  refine va_get (D := (dC, dI)) (ci := 6) (v := .ref h0) (C := R_In) (T := F_In) (N := 2) hx hb hts i_In hown hK hP 0 rfl rfl 0 (by decide) (hts _ (k_In_5)) (fun _ h9 => h9) rfl d_In_markedSize_1 ?_
  refine lv_sipush (v := 3588) hx hb d_In_markedSize_4 (by decide) ?_
  have hPc := hP.sub (ws' := [(h0, .inr (0, [.int sec, .ref h1, .int pw])), (h1, .inl (cB, n, .inl f))]) [1, 2] rfl
  have hDc := hD.sub (ws' := [(h0, .inr (0, [.int sec, .ref h1, .int pw])), (h1, .inl (cB, n, .inl f))]) [1, 2] (by decide) rfl
  have hKc := hK.sub (tys' := [(cB, .byte)]) [0] rfl
  have hFc := va_free (wc := [(h0, .inr (0, [.int sec, .ref h1, .int pw])), (h1, .inl (cB, n, .inl f))]) hD hS hA [1, 2] rfl
  refine va_calli (va_runV (As := [.int 3588]) (rest := []) ⟨hx, hb, hml, hown, hts⟩ (c_Dk_four l dC dI h0 h1 s.heap.size cB sec pw n f h4 hn 3588) (cwV 1 hts (gwV good_In (k_In_14) (u_In_Dk _ k_Dk_14) (u_In_Dk _ k_Dk_15) (u_In_Dk _ k_Dk_0) (wcs (u_In_Dk _ k_Dk_16) u_In_Dk)) rfl rfl rfl (by decide +kernel) ⟨Nat.le_of_ble_eq_true rfl, Nat.le_of_ble_eq_true rfl⟩) (pv_of hPc hKc hDc (va_recv hKc hPc (ci := 0) (q0 := 0) rfl rfl)) rfl rfl hl.1 rfl (lv_room (Nat.le_of_ble_eq_true rfl)) d_In_markedSize_7 ⟨by decide, by decide⟩) hS (fun q _ h => hFc q h) hFc (fun r_1 u t H1 locs ht hvm hw hB hz1 hk1 hS => ?_)
  obtain ⟨er_1, rfl⟩ := hw
  obtain ⟨hP1, hK1, hD1⟩ := hB
  rw [ht] at hP1
  have hP1 : va_P (dC, dI) classes [(h0, .inr (0, [.int sec, .ref h1, .int pw])), (h1, .inl (cB, n, .inl f))] H1 := hP1
  have hD1 : va_D _ [(h0, .inr (0, [.int sec, .ref h1, .int pw])), (h1, .inl (cB, n, .inl f))] := hD1
  obtain ⟨hP, hD⟩ := va_join (wr := [(i0, .inr (6, [.ref h0, .int se]))]) (w1 := [(h0, .inr (0, [.int sec, .ref h1, .int pw])), (h1, .inl (cB, n, .inl f))]) hP hD [1, 2] [0] rfl rfl (by decide) (by decide) hk1 hFc hP1 hD1
  generalize H1 = H at hP hS ⊢
  have hP : va_P (dC, dI) classes [(i0, .inr (6, [.ref h0, .int se])), (h0, .inr (0, [.int sec, .ref h1, .int pw])), (h1, .inl (cB, n, .inl f))] H := hP
  have hD : va_D A [(i0, .inr (6, [.ref h0, .int se])), (h0, .inr (0, [.int sec, .ref h1, .int pw])), (h1, .inl (cB, n, .inl f))] := hD
  exact W.iret (v := r_1) hx hb hr (fun t ht hW => ⟨⟨r_1, (), rfl, by rw [in_msize, ← er_1], by rw [ht]; exact hP, va_K.moved hW.alike hK, hD⟩, hS.F ht⟩) hS.2.2 d_In_markedSize_10
def in_minodes (n : Nat) (f : Nat → Int32) : Int32 := ((dk_four n f 3592))
set_option maxHeartbeats 4000000 in
set_option maxRecDepth 100000 in
theorem c_In_markedInodes (l : Launch) (dC : Nat → ClassId) (dI : Nat → Nat → Nat) (i0 h0 sz : Nat) (se : Int32) (h1 : Nat) (cB : ClassId) (sec pw : Int32) (n : Nat) (f : Nat → Int32) (h4 : 4 ≤ n) (hn : n < 2 ^ 31) : Met l y_In_markedInodes (.code y_In_markedInodes b_In_markedInodes 1 (some .int) :: V_In) ({ frames := 1, cells := 0, slots := 0, locals := 21 }) (va_Pc [.ref i0] (fun U => U.heap.size = sz ∧ at_ (dC, dI) (fun _ => True) [(i0, .inr (6, [.ref h0, .int se])), (h0, .inr (0, [.int sec, .ref h1, .int pw])), (h1, .inl (cB, n, .inl f))] [(cB, .byte)] U)) (va_Qi (fun (r : Int32) (u : Unit) => r = in_minodes n f) (fun (u : Unit) t => at_ (dC, dI) (va_A [(i0, .inr (6, [.ref h0, .int se])), (h0, .inr (0, [.int sec, .ref h1, .int pw])), (h1, .inl (cB, n, .inl f))] sz) [(i0, .inr (6, [.ref h0, .int se])), (h0, .inr (0, [.int sec, .ref h1, .int pw])), (h1, .inl (cB, n, .inl f))] [(cB, .byte)] t) (va_A [(i0, .inr (6, [.ref h0, .int se])), (h0, .inr (0, [.int sec, .ref h1, .int pw])), (h1, .inl (cB, n, .inl f))] sz)) 0 0 (va_A [(i0, .inr (6, [.ref h0, .int se])), (h0, .inr (0, [.int sec, .ref h1, .int pw])), (h1, .inl (cB, n, .inl f))] sz) := by
  refine Met.ofW (cc := b_In_markedInodes) (maxL := 1) (ret := (some .int)) (by decide) rfl ?_
  intro p e s m args below meth c s₁ B hml hv
  obtain ⟨rfl, hsz, hP, hK, hD0⟩ := hv
  have hx := B.exec
  have hb := B.bytes
  have hr := B.returns
  have hts0 := atoms_spec (ws := .code y_In_markedInodes b_In_markedInodes 1 (some .int) :: V_In) B.pre
  have hts : ∀ w ∈ V_In, w.before ([.ref i0] : List Value).toArray s = true := fun w h => hts0 w (List.mem_cons_of_mem _ h)
  have hown : s.vm.findClass R_In = some m.cls := findClass_of_methodNamed B.named
  have hlocks := B.notSynchronized
  subst hsz
  have hD := hD0.self (sz := s.heap.size)
  generalize hAe : va_A [(i0, .inr (6, [.ref h0, .int se])), (h0, .inr (0, [.int sec, .ref h1, .int pw])), (h1, .inl (cB, n, .inl f))] s.heap.size = A at hD ⊢
  have hA : ∀ q : Nat, s.heap.size ≤ q → A q := fun q h => by rw [← hAe]; exact Or.inr h
  have hS : va_S A s.heap s.heap [] := va_S.rf
  have hP : va_P (dC, dI) classes [(i0, .inr (6, [.ref h0, .int se])), (h0, .inr (0, [.int sec, .ref h1, .int pw])), (h1, .inl (cB, n, .inl f))] s.heap := hP
  have hK : va_K (dC, dI) classes [(cB, .byte)] s := hK
  have hl := lv_entry ([.ref i0]) (n := 1) (Nat.le_of_ble_eq_true rfl)
  rw [lg_entry_eq]
  generalize (lg_sl ([.ref i0]) ++ List.replicate (1 - (lg_sl ([.ref i0])).length) Slot.unset).toArray = ls at hl ⊢
  have hl : lv_has ls 1 [(0, .ref i0)] := hl
  refine lv_aload_n hx hb d_In_markedInodes_0 rfl (lv_at hl 0 rfl) ?_
  refine va_get (D := (dC, dI)) (ci := 6) (v := .ref h0) (C := R_In) (T := F_In) (N := 2) hx hb hts i_In hown hK hP 0 rfl rfl 0 (by decide) (hts _ (k_In_5)) (fun _ h9 => h9) rfl d_In_markedInodes_1 ?_
  refine lv_sipush (v := 3592) hx hb d_In_markedInodes_4 (by decide) ?_
  have hPc := hP.sub (ws' := [(h0, .inr (0, [.int sec, .ref h1, .int pw])), (h1, .inl (cB, n, .inl f))]) [1, 2] rfl
  have hDc := hD.sub (ws' := [(h0, .inr (0, [.int sec, .ref h1, .int pw])), (h1, .inl (cB, n, .inl f))]) [1, 2] (by decide) rfl
  have hKc := hK.sub (tys' := [(cB, .byte)]) [0] rfl
  have hFc := va_free (wc := [(h0, .inr (0, [.int sec, .ref h1, .int pw])), (h1, .inl (cB, n, .inl f))]) hD hS hA [1, 2] rfl
  refine va_calli (va_runV (As := [.int 3592]) (rest := []) ⟨hx, hb, hml, hown, hts⟩ (c_Dk_four l dC dI h0 h1 s.heap.size cB sec pw n f h4 hn 3592) (cwV 1 hts (gwV good_In (k_In_14) (u_In_Dk _ k_Dk_14) (u_In_Dk _ k_Dk_15) (u_In_Dk _ k_Dk_0) (wcs (u_In_Dk _ k_Dk_16) u_In_Dk)) rfl rfl rfl (by decide +kernel) ⟨Nat.le_of_ble_eq_true rfl, Nat.le_of_ble_eq_true rfl⟩) (pv_of hPc hKc hDc (va_recv hKc hPc (ci := 0) (q0 := 0) rfl rfl)) rfl rfl hl.1 rfl (lv_room (Nat.le_of_ble_eq_true rfl)) d_In_markedInodes_7 ⟨by decide, by decide⟩) hS (fun q _ h => hFc q h) hFc (fun r_1 u t H1 locs ht hvm hw hB hz1 hk1 hS => ?_)
  obtain ⟨er_1, rfl⟩ := hw
  obtain ⟨hP1, hK1, hD1⟩ := hB
  rw [ht] at hP1
  have hP1 : va_P (dC, dI) classes [(h0, .inr (0, [.int sec, .ref h1, .int pw])), (h1, .inl (cB, n, .inl f))] H1 := hP1
  have hD1 : va_D _ [(h0, .inr (0, [.int sec, .ref h1, .int pw])), (h1, .inl (cB, n, .inl f))] := hD1
  obtain ⟨hP, hD⟩ := va_join (wr := [(i0, .inr (6, [.ref h0, .int se]))]) (w1 := [(h0, .inr (0, [.int sec, .ref h1, .int pw])), (h1, .inl (cB, n, .inl f))]) hP hD [1, 2] [0] rfl rfl (by decide) (by decide) hk1 hFc hP1 hD1
  generalize H1 = H at hP hS ⊢
  have hP : va_P (dC, dI) classes [(i0, .inr (6, [.ref h0, .int se])), (h0, .inr (0, [.int sec, .ref h1, .int pw])), (h1, .inl (cB, n, .inl f))] H := hP
  have hD : va_D A [(i0, .inr (6, [.ref h0, .int se])), (h0, .inr (0, [.int sec, .ref h1, .int pw])), (h1, .inl (cB, n, .inl f))] := hD
  exact W.iret (v := r_1) hx hb hr (fun t ht hW => ⟨⟨r_1, (), rfl, by rw [in_minodes, ← er_1], by rw [ht]; exact hP, va_K.moved hW.alike hK, hD⟩, hS.F ht⟩) hS.2.2 d_In_markedInodes_10
def in_gsize (n : Nat) (f : Nat → Int32) : Int32 := ((dk_four n f 1056))
set_option maxHeartbeats 4000000 in
set_option maxRecDepth 100000 in
theorem c_In_groupSize (l : Launch) (dC : Nat → ClassId) (dI : Nat → Nat → Nat) (i0 h0 sz : Nat) (se : Int32) (h1 : Nat) (cB : ClassId) (sec pw : Int32) (n : Nat) (f : Nat → Int32) (h4 : 4 ≤ n) (hn : n < 2 ^ 31) : Met l y_In_groupSize (.code y_In_groupSize b_In_groupSize 1 (some .int) :: V_In) ({ frames := 1, cells := 0, slots := 0, locals := 21 }) (va_Pc [.ref i0] (fun U => U.heap.size = sz ∧ at_ (dC, dI) (fun _ => True) [(i0, .inr (6, [.ref h0, .int se])), (h0, .inr (0, [.int sec, .ref h1, .int pw])), (h1, .inl (cB, n, .inl f))] [(cB, .byte)] U)) (va_Qi (fun (r : Int32) (u : Unit) => r = in_gsize n f) (fun (u : Unit) t => at_ (dC, dI) (va_A [(i0, .inr (6, [.ref h0, .int se])), (h0, .inr (0, [.int sec, .ref h1, .int pw])), (h1, .inl (cB, n, .inl f))] sz) [(i0, .inr (6, [.ref h0, .int se])), (h0, .inr (0, [.int sec, .ref h1, .int pw])), (h1, .inl (cB, n, .inl f))] [(cB, .byte)] t) (va_A [(i0, .inr (6, [.ref h0, .int se])), (h0, .inr (0, [.int sec, .ref h1, .int pw])), (h1, .inl (cB, n, .inl f))] sz)) 0 0 (va_A [(i0, .inr (6, [.ref h0, .int se])), (h0, .inr (0, [.int sec, .ref h1, .int pw])), (h1, .inl (cB, n, .inl f))] sz) := by
  refine Met.ofW (cc := b_In_groupSize) (maxL := 1) (ret := (some .int)) (by decide) rfl ?_
  intro p e s m args below meth c s₁ B hml hv
  obtain ⟨rfl, hsz, hP, hK, hD0⟩ := hv
  have hx := B.exec
  have hb := B.bytes
  have hr := B.returns
  have hts0 := atoms_spec (ws := .code y_In_groupSize b_In_groupSize 1 (some .int) :: V_In) B.pre
  have hts : ∀ w ∈ V_In, w.before ([.ref i0] : List Value).toArray s = true := fun w h => hts0 w (List.mem_cons_of_mem _ h)
  have hown : s.vm.findClass R_In = some m.cls := findClass_of_methodNamed B.named
  have hlocks := B.notSynchronized
  subst hsz
  have hD := hD0.self (sz := s.heap.size)
  generalize hAe : va_A [(i0, .inr (6, [.ref h0, .int se])), (h0, .inr (0, [.int sec, .ref h1, .int pw])), (h1, .inl (cB, n, .inl f))] s.heap.size = A at hD ⊢
  have hA : ∀ q : Nat, s.heap.size ≤ q → A q := fun q h => by rw [← hAe]; exact Or.inr h
  have hS : va_S A s.heap s.heap [] := va_S.rf
  have hP : va_P (dC, dI) classes [(i0, .inr (6, [.ref h0, .int se])), (h0, .inr (0, [.int sec, .ref h1, .int pw])), (h1, .inl (cB, n, .inl f))] s.heap := hP
  have hK : va_K (dC, dI) classes [(cB, .byte)] s := hK
  have hl := lv_entry ([.ref i0]) (n := 1) (Nat.le_of_ble_eq_true rfl)
  rw [lg_entry_eq]
  generalize (lg_sl ([.ref i0]) ++ List.replicate (1 - (lg_sl ([.ref i0])).length) Slot.unset).toArray = ls at hl ⊢
  have hl : lv_has ls 1 [(0, .ref i0)] := hl
  refine lv_aload_n hx hb d_In_groupSize_0 rfl (lv_at hl 0 rfl) ?_
  refine va_get (D := (dC, dI)) (ci := 6) (v := .ref h0) (C := R_In) (T := F_In) (N := 2) hx hb hts i_In hown hK hP 0 rfl rfl 0 (by decide) (hts _ (k_In_5)) (fun _ h9 => h9) rfl d_In_groupSize_1 ?_
  refine lv_sipush (v := 1056) hx hb d_In_groupSize_4 (by decide) ?_
  have hPc := hP.sub (ws' := [(h0, .inr (0, [.int sec, .ref h1, .int pw])), (h1, .inl (cB, n, .inl f))]) [1, 2] rfl
  have hDc := hD.sub (ws' := [(h0, .inr (0, [.int sec, .ref h1, .int pw])), (h1, .inl (cB, n, .inl f))]) [1, 2] (by decide) rfl
  have hKc := hK.sub (tys' := [(cB, .byte)]) [0] rfl
  have hFc := va_free (wc := [(h0, .inr (0, [.int sec, .ref h1, .int pw])), (h1, .inl (cB, n, .inl f))]) hD hS hA [1, 2] rfl
  refine va_calli (va_runV (As := [.int 1056]) (rest := []) ⟨hx, hb, hml, hown, hts⟩ (c_Dk_four l dC dI h0 h1 s.heap.size cB sec pw n f h4 hn 1056) (cwV 1 hts (gwV good_In (k_In_14) (u_In_Dk _ k_Dk_14) (u_In_Dk _ k_Dk_15) (u_In_Dk _ k_Dk_0) (wcs (u_In_Dk _ k_Dk_16) u_In_Dk)) rfl rfl rfl (by decide +kernel) ⟨Nat.le_of_ble_eq_true rfl, Nat.le_of_ble_eq_true rfl⟩) (pv_of hPc hKc hDc (va_recv hKc hPc (ci := 0) (q0 := 0) rfl rfl)) rfl rfl hl.1 rfl (lv_room (Nat.le_of_ble_eq_true rfl)) d_In_groupSize_7 ⟨by decide, by decide⟩) hS (fun q _ h => hFc q h) hFc (fun r_1 u t H1 locs ht hvm hw hB hz1 hk1 hS => ?_)
  obtain ⟨er_1, rfl⟩ := hw
  obtain ⟨hP1, hK1, hD1⟩ := hB
  rw [ht] at hP1
  have hP1 : va_P (dC, dI) classes [(h0, .inr (0, [.int sec, .ref h1, .int pw])), (h1, .inl (cB, n, .inl f))] H1 := hP1
  have hD1 : va_D _ [(h0, .inr (0, [.int sec, .ref h1, .int pw])), (h1, .inl (cB, n, .inl f))] := hD1
  obtain ⟨hP, hD⟩ := va_join (wr := [(i0, .inr (6, [.ref h0, .int se]))]) (w1 := [(h0, .inr (0, [.int sec, .ref h1, .int pw])), (h1, .inl (cB, n, .inl f))]) hP hD [1, 2] [0] rfl rfl (by decide) (by decide) hk1 hFc hP1 hD1
  generalize H1 = H at hP hS ⊢
  have hP : va_P (dC, dI) classes [(i0, .inr (6, [.ref h0, .int se])), (h0, .inr (0, [.int sec, .ref h1, .int pw])), (h1, .inl (cB, n, .inl f))] H := hP
  have hD : va_D A [(i0, .inr (6, [.ref h0, .int se])), (h0, .inr (0, [.int sec, .ref h1, .int pw])), (h1, .inl (cB, n, .inl f))] := hD
  exact W.iret (v := r_1) hx hb hr (fun t ht hW => ⟨⟨r_1, (), rfl, by rw [in_gsize, ← er_1], by rw [ht]; exact hP, va_K.moved hW.alike hK, hD⟩, hS.F ht⟩) hS.2.2 d_In_groupSize_10
def in_there (n : Nat) (f : Nat → Int32) : Int32 := if (in_marked n f ) = 0 then (0) else if (dk_two n f 1080) = 61267 then (1) else (0)
set_option maxHeartbeats 4000000 in
set_option maxRecDepth 100000 in
theorem c_In_isThere (l : Launch) (dC : Nat → ClassId) (dI : Nat → Nat → Nat) (i0 h0 sz : Nat) (se : Int32) (h1 : Nat) (cB : ClassId) (sec pw : Int32) (n : Nat) (f : Nat → Int32) (h4 : 4 ≤ n) (hn : n < 2 ^ 31) : Met l y_In_isThere (.code y_In_isThere b_In_isThere 1 (some .boolean) :: V_In) ({ frames := 2, cells := 0, slots := 0, locals := 41 }) (va_Pc [.ref i0] (fun U => U.heap.size = sz ∧ at_ (dC, dI) (fun _ => True) [(i0, .inr (6, [.ref h0, .int se])), (h0, .inr (0, [.int sec, .ref h1, .int pw])), (h1, .inl (cB, n, .inl f))] [(cB, .byte)] U)) (va_Qi (fun (r : Int32) (u : Unit) => r = in_there n f) (fun (u : Unit) t => at_ (dC, dI) (va_A [(i0, .inr (6, [.ref h0, .int se])), (h0, .inr (0, [.int sec, .ref h1, .int pw])), (h1, .inl (cB, n, .inl f))] sz) [(i0, .inr (6, [.ref h0, .int se])), (h0, .inr (0, [.int sec, .ref h1, .int pw])), (h1, .inl (cB, n, .inl f))] [(cB, .byte)] t) (va_A [(i0, .inr (6, [.ref h0, .int se])), (h0, .inr (0, [.int sec, .ref h1, .int pw])), (h1, .inl (cB, n, .inl f))] sz)) 0 0 (va_A [(i0, .inr (6, [.ref h0, .int se])), (h0, .inr (0, [.int sec, .ref h1, .int pw])), (h1, .inl (cB, n, .inl f))] sz) := by
  refine Met.ofW (cc := b_In_isThere) (maxL := 1) (ret := (some .boolean)) (by decide) rfl ?_
  intro p e s m args below meth c s₁ B hml hv
  obtain ⟨rfl, hsz, hP, hK, hD0⟩ := hv
  have hx := B.exec
  have hb := B.bytes
  have hr := B.returns
  have hts0 := atoms_spec (ws := .code y_In_isThere b_In_isThere 1 (some .boolean) :: V_In) B.pre
  have hts : ∀ w ∈ V_In, w.before ([.ref i0] : List Value).toArray s = true := fun w h => hts0 w (List.mem_cons_of_mem _ h)
  have hown : s.vm.findClass R_In = some m.cls := findClass_of_methodNamed B.named
  have hlocks := B.notSynchronized
  subst hsz
  have hD := hD0.self (sz := s.heap.size)
  generalize hAe : va_A [(i0, .inr (6, [.ref h0, .int se])), (h0, .inr (0, [.int sec, .ref h1, .int pw])), (h1, .inl (cB, n, .inl f))] s.heap.size = A at hD ⊢
  have hA : ∀ q : Nat, s.heap.size ≤ q → A q := fun q h => by rw [← hAe]; exact Or.inr h
  have hS : va_S A s.heap s.heap [] := va_S.rf
  have hP : va_P (dC, dI) classes [(i0, .inr (6, [.ref h0, .int se])), (h0, .inr (0, [.int sec, .ref h1, .int pw])), (h1, .inl (cB, n, .inl f))] s.heap := hP
  have hK : va_K (dC, dI) classes [(cB, .byte)] s := hK
  have hl := lv_entry ([.ref i0]) (n := 1) (Nat.le_of_ble_eq_true rfl)
  rw [lg_entry_eq]
  generalize (lg_sl ([.ref i0]) ++ List.replicate (1 - (lg_sl ([.ref i0])).length) Slot.unset).toArray = ls at hl ⊢
  have hl : lv_has ls 1 [(0, .ref i0)] := hl
  refine lv_aload_n hx hb d_In_isThere_0 rfl (lv_at hl 0 rfl) ?_
  have hPc := hP.sub (ws' := [(i0, .inr (6, [.ref h0, .int se])), (h0, .inr (0, [.int sec, .ref h1, .int pw])), (h1, .inl (cB, n, .inl f))]) [0, 1, 2] rfl
  have hDc := hD.sub (ws' := [(i0, .inr (6, [.ref h0, .int se])), (h0, .inr (0, [.int sec, .ref h1, .int pw])), (h1, .inl (cB, n, .inl f))]) [0, 1, 2] (by decide) rfl
  have hKc := hK.sub (tys' := [(cB, .byte)]) [0] rfl
  have hFc := va_free (wc := [(i0, .inr (6, [.ref h0, .int se])), (h0, .inr (0, [.int sec, .ref h1, .int pw])), (h1, .inl (cB, n, .inl f))]) hD hS hA [0, 1, 2] rfl
  refine va_calli (va_runV (As := []) (rest := []) ⟨hx, hb, hml, hown, hts⟩ (c_In_isMarked l dC dI i0 h0 s.heap.size se h1 cB sec pw n f h4 hn ) (cwV 0 hts (gwV good_In (k_In_10) (k_In_11) (k_In_12) (k_In_0) (wcs (k_In_13) (fun _ h => h))) rfl rfl rfl (by decide +kernel) ⟨Nat.le_of_ble_eq_true rfl, Nat.le_of_ble_eq_true rfl⟩) (pv_of hPc hKc hDc (va_recv hKc hPc (ci := 6) (q0 := 0) rfl rfl)) rfl rfl hl.1 rfl (lv_room (Nat.le_of_ble_eq_true rfl)) d_In_isThere_1 ⟨by decide, by decide⟩) hS (fun q _ h => hFc q h) hFc (fun r_1 u t H1 locs ht hvm hw hB hz1 hk1 hS => ?_)
  have er_1 := hw
  obtain ⟨hP1, hK1, hD1⟩ := hB
  rw [ht] at hP1
  have hP1 : va_P (dC, dI) classes [(i0, .inr (6, [.ref h0, .int se])), (h0, .inr (0, [.int sec, .ref h1, .int pw])), (h1, .inl (cB, n, .inl f))] H1 := hP1
  have hD1 : va_D _ [(i0, .inr (6, [.ref h0, .int se])), (h0, .inr (0, [.int sec, .ref h1, .int pw])), (h1, .inl (cB, n, .inl f))] := hD1
  obtain ⟨hP, hD⟩ := va_join (wr := []) (w1 := [(i0, .inr (6, [.ref h0, .int se])), (h0, .inr (0, [.int sec, .ref h1, .int pw])), (h1, .inl (cB, n, .inl f))]) hP hD [0, 1, 2] [] rfl rfl (by decide) (by decide) hk1 hFc hP1 hD1
  generalize H1 = H at hP hS ⊢
  have hP : va_P (dC, dI) classes [(i0, .inr (6, [.ref h0, .int se])), (h0, .inr (0, [.int sec, .ref h1, .int pw])), (h1, .inl (cB, n, .inl f))] H := hP
  have hD : va_D A [(i0, .inr (6, [.ref h0, .int se])), (h0, .inr (0, [.int sec, .ref h1, .int pw])), (h1, .inl (cB, n, .inl f))] := hD
  refine lv_if_eq (tgt := 26) hx hb d_In_isThere_4 (by decide) (fun c_2 => ?_) (fun c_2 => ?_)
  · refine lv_iconst (v := 0) hx hb d_In_isThere_26 (by decide) ?_
    exact W.zret (v := 0) hx hb hr rfl (fun t ht hW => ⟨⟨0, (), rfl, by rw [in_there, ← er_1, if_pos c_2], by rw [ht]; exact hP, va_K.moved hW.alike hK, hD⟩, hS.F ht⟩) hS.2.2 d_In_isThere_27
  · refine lv_aload_n hx hb d_In_isThere_7 rfl (lv_at hl 0 rfl) ?_
    refine va_get (D := (dC, dI)) (ci := 6) (v := .ref h0) (C := R_In) (T := F_In) (N := 2) hx hb hts i_In hown hK hP 0 rfl rfl 0 (by decide) (hts _ (k_In_5)) (fun _ h9 => h9) rfl d_In_isThere_8 ?_
    refine lv_sipush (v := 1080) hx hb d_In_isThere_11 (by decide) ?_
    have hPc := hP.sub (ws' := [(h0, .inr (0, [.int sec, .ref h1, .int pw])), (h1, .inl (cB, n, .inl f))]) [1, 2] rfl
    have hDc := hD.sub (ws' := [(h0, .inr (0, [.int sec, .ref h1, .int pw])), (h1, .inl (cB, n, .inl f))]) [1, 2] (by decide) rfl
    have hKc := hK.sub (tys' := [(cB, .byte)]) [0] rfl
    have hFc := va_free (wc := [(h0, .inr (0, [.int sec, .ref h1, .int pw])), (h1, .inl (cB, n, .inl f))]) hD hS hA [1, 2] rfl
    refine va_calli (va_runV (As := [.int 1080]) (rest := []) ⟨hx, hb, hml, hown, hts⟩ (c_Dk_two l dC dI h0 h1 H.size cB sec pw n f h4 hn 1080) (cwV 1 hts (gwV good_In (k_In_16) (u_In_Dk _ k_Dk_17) (u_In_Dk _ k_Dk_18) (u_In_Dk _ k_Dk_0) (wcs (u_In_Dk _ k_Dk_19) u_In_Dk)) rfl rfl rfl (by decide +kernel) ⟨Nat.le_of_ble_eq_true rfl, Nat.le_of_ble_eq_true rfl⟩) (pv_of hPc hKc hDc (va_recv hKc hPc (ci := 0) (q0 := 0) rfl rfl)) rfl rfl hl.1 rfl (lv_room (Nat.le_of_ble_eq_true rfl)) d_In_isThere_14 ⟨by decide, by decide⟩) hS (fun q _ h => hFc q h) hFc (fun r_3 u t H1 locs ht hvm hw hB hz1 hk1 hS => ?_)
    obtain ⟨er_3, rfl⟩ := hw
    obtain ⟨hP1, hK1, hD1⟩ := hB
    rw [ht] at hP1
    have hP1 : va_P (dC, dI) classes [(h0, .inr (0, [.int sec, .ref h1, .int pw])), (h1, .inl (cB, n, .inl f))] H1 := hP1
    have hD1 : va_D _ [(h0, .inr (0, [.int sec, .ref h1, .int pw])), (h1, .inl (cB, n, .inl f))] := hD1
    obtain ⟨hP, hD⟩ := va_join (wr := [(i0, .inr (6, [.ref h0, .int se]))]) (w1 := [(h0, .inr (0, [.int sec, .ref h1, .int pw])), (h1, .inl (cB, n, .inl f))]) hP hD [1, 2] [0] rfl rfl (by decide) (by decide) hk1 hFc hP1 hD1
    generalize H1 = H at hP hS ⊢
    have hP : va_P (dC, dI) classes [(i0, .inr (6, [.ref h0, .int se])), (h0, .inr (0, [.int sec, .ref h1, .int pw])), (h1, .inl (cB, n, .inl f))] H := hP
    have hD : va_D A [(i0, .inr (6, [.ref h0, .int se])), (h0, .inr (0, [.int sec, .ref h1, .int pw])), (h1, .inl (cB, n, .inl f))] := hD
    refine lv_ldc (v := 61267) hx hb hown (hts _ (k_In_17)) d_In_isThere_17 ?_
    refine lv_icmp_ne (tgt := 26) hx hb d_In_isThere_19 (by decide) (fun c_4 => ?_) (fun c_4 => ?_)
    · refine lv_iconst (v := 0) hx hb d_In_isThere_26 (by decide) ?_
      exact W.zret (v := 0) hx hb hr rfl (fun t ht hW => ⟨⟨0, (), rfl, by rw [in_there, ← er_1, if_neg c_2, ← er_3, if_neg c_4], by rw [ht]; exact hP, va_K.moved hW.alike hK, hD⟩, hS.F ht⟩) hS.2.2 d_In_isThere_27
    · refine lv_iconst (v := 1) hx hb d_In_isThere_22 (by decide) ?_
      refine lv_goto (tgt := 27) hx hb d_In_isThere_23 (by decide) ?_
      exact W.zret (v := 1) hx hb hr rfl (fun t ht hW => ⟨⟨1, (), rfl, by rw [in_there, ← er_1, if_neg c_2, ← er_3, if_pos c_4], by rw [ht]; exact hP, va_K.moved hW.alike hK, hD⟩, hS.F ht⟩) hS.2.2 d_In_isThere_27
def in_iof (n : Nat) (f : Nat → Int32) (p1 : Int32) : Int32 := ((dk_four n f p1))
set_option maxHeartbeats 4000000 in
set_option maxRecDepth 100000 in
theorem c_In_inodeOf (l : Launch) (dC : Nat → ClassId) (dI : Nat → Nat → Nat) (i0 h0 sz : Nat) (se : Int32) (h1 : Nat) (cB : ClassId) (sec pw : Int32) (n : Nat) (f : Nat → Int32) (h4 : 4 ≤ n) (hn : n < 2 ^ 31) (p1 : Int32) : Met l y_In_inodeOf (.code y_In_inodeOf b_In_inodeOf 2 (some .int) :: V_In) ({ frames := 1, cells := 0, slots := 0, locals := 21 }) (va_Pc [.ref i0, .int p1] (fun U => U.heap.size = sz ∧ at_ (dC, dI) (fun _ => True) [(i0, .inr (6, [.ref h0, .int se])), (h0, .inr (0, [.int sec, .ref h1, .int pw])), (h1, .inl (cB, n, .inl f))] [(cB, .byte)] U)) (va_Qi (fun (r : Int32) (u : Unit) => r = in_iof n f p1) (fun (u : Unit) t => at_ (dC, dI) (va_A [(i0, .inr (6, [.ref h0, .int se])), (h0, .inr (0, [.int sec, .ref h1, .int pw])), (h1, .inl (cB, n, .inl f))] sz) [(i0, .inr (6, [.ref h0, .int se])), (h0, .inr (0, [.int sec, .ref h1, .int pw])), (h1, .inl (cB, n, .inl f))] [(cB, .byte)] t) (va_A [(i0, .inr (6, [.ref h0, .int se])), (h0, .inr (0, [.int sec, .ref h1, .int pw])), (h1, .inl (cB, n, .inl f))] sz)) 0 0 (va_A [(i0, .inr (6, [.ref h0, .int se])), (h0, .inr (0, [.int sec, .ref h1, .int pw])), (h1, .inl (cB, n, .inl f))] sz) := by
  refine Met.ofW (cc := b_In_inodeOf) (maxL := 2) (ret := (some .int)) (by decide) rfl ?_
  intro p e s m args below meth c s₁ B hml hv
  obtain ⟨rfl, hsz, hP, hK, hD0⟩ := hv
  have hx := B.exec
  have hb := B.bytes
  have hr := B.returns
  have hts0 := atoms_spec (ws := .code y_In_inodeOf b_In_inodeOf 2 (some .int) :: V_In) B.pre
  have hts : ∀ w ∈ V_In, w.before ([.ref i0, .int p1] : List Value).toArray s = true := fun w h => hts0 w (List.mem_cons_of_mem _ h)
  have hown : s.vm.findClass R_In = some m.cls := findClass_of_methodNamed B.named
  have hlocks := B.notSynchronized
  subst hsz
  have hD := hD0.self (sz := s.heap.size)
  generalize hAe : va_A [(i0, .inr (6, [.ref h0, .int se])), (h0, .inr (0, [.int sec, .ref h1, .int pw])), (h1, .inl (cB, n, .inl f))] s.heap.size = A at hD ⊢
  have hA : ∀ q : Nat, s.heap.size ≤ q → A q := fun q h => by rw [← hAe]; exact Or.inr h
  have hS : va_S A s.heap s.heap [] := va_S.rf
  have hP : va_P (dC, dI) classes [(i0, .inr (6, [.ref h0, .int se])), (h0, .inr (0, [.int sec, .ref h1, .int pw])), (h1, .inl (cB, n, .inl f))] s.heap := hP
  have hK : va_K (dC, dI) classes [(cB, .byte)] s := hK
  have hl := lv_entry ([.ref i0, .int p1]) (n := 2) (Nat.le_of_ble_eq_true rfl)
  rw [lg_entry_eq]
  generalize (lg_sl ([.ref i0, .int p1]) ++ List.replicate (2 - (lg_sl ([.ref i0, .int p1])).length) Slot.unset).toArray = ls at hl ⊢
  have hl : lv_has ls 2 [(0, .ref i0), (1, .int p1)] := hl
  refine lv_aload_n hx hb d_In_inodeOf_0 rfl (lv_at hl 0 rfl) ?_
  refine va_get (D := (dC, dI)) (ci := 6) (v := .ref h0) (C := R_In) (T := F_In) (N := 2) hx hb hts i_In hown hK hP 0 rfl rfl 0 (by decide) (hts _ (k_In_5)) (fun _ h9 => h9) rfl d_In_inodeOf_1 ?_
  refine lv_iload_n hx hb d_In_inodeOf_4 rfl (lv_at hl 1 rfl) ?_
  have hPc := hP.sub (ws' := [(h0, .inr (0, [.int sec, .ref h1, .int pw])), (h1, .inl (cB, n, .inl f))]) [1, 2] rfl
  have hDc := hD.sub (ws' := [(h0, .inr (0, [.int sec, .ref h1, .int pw])), (h1, .inl (cB, n, .inl f))]) [1, 2] (by decide) rfl
  have hKc := hK.sub (tys' := [(cB, .byte)]) [0] rfl
  have hFc := va_free (wc := [(h0, .inr (0, [.int sec, .ref h1, .int pw])), (h1, .inl (cB, n, .inl f))]) hD hS hA [1, 2] rfl
  refine va_calli (va_runV (As := [.int p1]) (rest := []) ⟨hx, hb, hml, hown, hts⟩ (c_Dk_four l dC dI h0 h1 s.heap.size cB sec pw n f h4 hn p1) (cwV 1 hts (gwV good_In (k_In_14) (u_In_Dk _ k_Dk_14) (u_In_Dk _ k_Dk_15) (u_In_Dk _ k_Dk_0) (wcs (u_In_Dk _ k_Dk_16) u_In_Dk)) rfl rfl rfl (by decide +kernel) ⟨Nat.le_of_ble_eq_true rfl, Nat.le_of_ble_eq_true rfl⟩) (pv_of hPc hKc hDc (va_recv hKc hPc (ci := 0) (q0 := 0) rfl rfl)) rfl rfl hl.1 rfl (lv_room (Nat.le_of_ble_eq_true rfl)) d_In_inodeOf_5 ⟨by decide, by decide⟩) hS (fun q _ h => hFc q h) hFc (fun r_1 u t H1 locs ht hvm hw hB hz1 hk1 hS => ?_)
  obtain ⟨er_1, rfl⟩ := hw
  obtain ⟨hP1, hK1, hD1⟩ := hB
  rw [ht] at hP1
  have hP1 : va_P (dC, dI) classes [(h0, .inr (0, [.int sec, .ref h1, .int pw])), (h1, .inl (cB, n, .inl f))] H1 := hP1
  have hD1 : va_D _ [(h0, .inr (0, [.int sec, .ref h1, .int pw])), (h1, .inl (cB, n, .inl f))] := hD1
  obtain ⟨hP, hD⟩ := va_join (wr := [(i0, .inr (6, [.ref h0, .int se]))]) (w1 := [(h0, .inr (0, [.int sec, .ref h1, .int pw])), (h1, .inl (cB, n, .inl f))]) hP hD [1, 2] [0] rfl rfl (by decide) (by decide) hk1 hFc hP1 hD1
  generalize H1 = H at hP hS ⊢
  have hP : va_P (dC, dI) classes [(i0, .inr (6, [.ref h0, .int se])), (h0, .inr (0, [.int sec, .ref h1, .int pw])), (h1, .inl (cB, n, .inl f))] H := hP
  have hD : va_D A [(i0, .inr (6, [.ref h0, .int se])), (h0, .inr (0, [.int sec, .ref h1, .int pw])), (h1, .inl (cB, n, .inl f))] := hD
  exact W.iret (v := r_1) hx hb hr (fun t ht hW => ⟨⟨r_1, (), rfl, by rw [in_iof, ← er_1], by rw [ht]; exact hP, va_K.moved hW.alike hK, hD⟩, hS.F ht⟩) hS.2.2 d_In_inodeOf_8
def in_dir (n : Nat) (f : Nat → Int32) (p1 : Int32) : Int32 := if (dk_one n f (p1 + 7)) = 2 then (1) else (0)
set_option maxHeartbeats 4000000 in
set_option maxRecDepth 100000 in
theorem c_In_isDirectory (l : Launch) (dC : Nat → ClassId) (dI : Nat → Nat → Nat) (i0 h0 sz : Nat) (se : Int32) (h1 : Nat) (cB : ClassId) (sec pw : Int32) (n : Nat) (f : Nat → Int32) (h4 : 4 ≤ n) (hn : n < 2 ^ 31) (p1 : Int32) : Met l y_In_isDirectory (.code y_In_isDirectory b_In_isDirectory 2 (some .boolean) :: V_In) ({ frames := 1, cells := 0, slots := 0, locals := 21 }) (va_Pc [.ref i0, .int p1] (fun U => U.heap.size = sz ∧ at_ (dC, dI) (fun _ => True) [(i0, .inr (6, [.ref h0, .int se])), (h0, .inr (0, [.int sec, .ref h1, .int pw])), (h1, .inl (cB, n, .inl f))] [(cB, .byte)] U)) (va_Qi (fun (r : Int32) (u : Unit) => r = in_dir n f p1) (fun (u : Unit) t => at_ (dC, dI) (va_A [(i0, .inr (6, [.ref h0, .int se])), (h0, .inr (0, [.int sec, .ref h1, .int pw])), (h1, .inl (cB, n, .inl f))] sz) [(i0, .inr (6, [.ref h0, .int se])), (h0, .inr (0, [.int sec, .ref h1, .int pw])), (h1, .inl (cB, n, .inl f))] [(cB, .byte)] t) (va_A [(i0, .inr (6, [.ref h0, .int se])), (h0, .inr (0, [.int sec, .ref h1, .int pw])), (h1, .inl (cB, n, .inl f))] sz)) 0 0 (va_A [(i0, .inr (6, [.ref h0, .int se])), (h0, .inr (0, [.int sec, .ref h1, .int pw])), (h1, .inl (cB, n, .inl f))] sz) := by
  refine Met.ofW (cc := b_In_isDirectory) (maxL := 2) (ret := (some .boolean)) (by decide) rfl ?_
  intro p e s m args below meth c s₁ B hml hv
  obtain ⟨rfl, hsz, hP, hK, hD0⟩ := hv
  have hx := B.exec
  have hb := B.bytes
  have hr := B.returns
  have hts0 := atoms_spec (ws := .code y_In_isDirectory b_In_isDirectory 2 (some .boolean) :: V_In) B.pre
  have hts : ∀ w ∈ V_In, w.before ([.ref i0, .int p1] : List Value).toArray s = true := fun w h => hts0 w (List.mem_cons_of_mem _ h)
  have hown : s.vm.findClass R_In = some m.cls := findClass_of_methodNamed B.named
  have hlocks := B.notSynchronized
  subst hsz
  have hD := hD0.self (sz := s.heap.size)
  generalize hAe : va_A [(i0, .inr (6, [.ref h0, .int se])), (h0, .inr (0, [.int sec, .ref h1, .int pw])), (h1, .inl (cB, n, .inl f))] s.heap.size = A at hD ⊢
  have hA : ∀ q : Nat, s.heap.size ≤ q → A q := fun q h => by rw [← hAe]; exact Or.inr h
  have hS : va_S A s.heap s.heap [] := va_S.rf
  have hP : va_P (dC, dI) classes [(i0, .inr (6, [.ref h0, .int se])), (h0, .inr (0, [.int sec, .ref h1, .int pw])), (h1, .inl (cB, n, .inl f))] s.heap := hP
  have hK : va_K (dC, dI) classes [(cB, .byte)] s := hK
  have hl := lv_entry ([.ref i0, .int p1]) (n := 2) (Nat.le_of_ble_eq_true rfl)
  rw [lg_entry_eq]
  generalize (lg_sl ([.ref i0, .int p1]) ++ List.replicate (2 - (lg_sl ([.ref i0, .int p1])).length) Slot.unset).toArray = ls at hl ⊢
  have hl : lv_has ls 2 [(0, .ref i0), (1, .int p1)] := hl
  refine lv_aload_n hx hb d_In_isDirectory_0 rfl (lv_at hl 0 rfl) ?_
  refine va_get (D := (dC, dI)) (ci := 6) (v := .ref h0) (C := R_In) (T := F_In) (N := 2) hx hb hts i_In hown hK hP 0 rfl rfl 0 (by decide) (hts _ (k_In_5)) (fun _ h9 => h9) rfl d_In_isDirectory_1 ?_
  refine lv_iload_n hx hb d_In_isDirectory_4 rfl (lv_at hl 1 rfl) ?_
  refine lv_bipush (v := 7) hx hb d_In_isDirectory_5 (by decide) ?_
  refine lv_iadd hx hb d_In_isDirectory_7 ?_
  have hPc := hP.sub (ws' := [(h0, .inr (0, [.int sec, .ref h1, .int pw])), (h1, .inl (cB, n, .inl f))]) [1, 2] rfl
  have hDc := hD.sub (ws' := [(h0, .inr (0, [.int sec, .ref h1, .int pw])), (h1, .inl (cB, n, .inl f))]) [1, 2] (by decide) rfl
  have hKc := hK.sub (tys' := [(cB, .byte)]) [0] rfl
  have hFc := va_free (wc := [(h0, .inr (0, [.int sec, .ref h1, .int pw])), (h1, .inl (cB, n, .inl f))]) hD hS hA [1, 2] rfl
  refine va_calli (va_runV (As := [.int (p1 + 7)]) (rest := []) ⟨hx, hb, hml, hown, hts⟩ (c_Dk_one l dC dI h0 h1 s.heap.size cB sec pw n f h4 hn (p1 + 7)) (cwV 1 hts (gwV good_In (k_In_25) (u_In_Dk _ k_Dk_20) (u_In_Dk _ k_Dk_21) (u_In_Dk _ k_Dk_0) (wcs (u_In_Dk _ k_Dk_22) u_In_Dk)) rfl rfl rfl (by decide +kernel) ⟨Nat.le_of_ble_eq_true rfl, Nat.le_of_ble_eq_true rfl⟩) (pv_of hPc hKc hDc (va_recv hKc hPc (ci := 0) (q0 := 0) rfl rfl)) rfl rfl hl.1 rfl (lv_room (Nat.le_of_ble_eq_true rfl)) d_In_isDirectory_8 ⟨by decide, by decide⟩) hS (fun q _ h => hFc q h) hFc (fun r_1 u t H1 locs ht hvm hw hB hz1 hk1 hS => ?_)
  obtain ⟨er_1, rfl⟩ := hw
  obtain ⟨hP1, hK1, hD1⟩ := hB
  rw [ht] at hP1
  have hP1 : va_P (dC, dI) classes [(h0, .inr (0, [.int sec, .ref h1, .int pw])), (h1, .inl (cB, n, .inl f))] H1 := hP1
  have hD1 : va_D _ [(h0, .inr (0, [.int sec, .ref h1, .int pw])), (h1, .inl (cB, n, .inl f))] := hD1
  obtain ⟨hP, hD⟩ := va_join (wr := [(i0, .inr (6, [.ref h0, .int se]))]) (w1 := [(h0, .inr (0, [.int sec, .ref h1, .int pw])), (h1, .inl (cB, n, .inl f))]) hP hD [1, 2] [0] rfl rfl (by decide) (by decide) hk1 hFc hP1 hD1
  generalize H1 = H at hP hS ⊢
  have hP : va_P (dC, dI) classes [(i0, .inr (6, [.ref h0, .int se])), (h0, .inr (0, [.int sec, .ref h1, .int pw])), (h1, .inl (cB, n, .inl f))] H := hP
  have hD : va_D A [(i0, .inr (6, [.ref h0, .int se])), (h0, .inr (0, [.int sec, .ref h1, .int pw])), (h1, .inl (cB, n, .inl f))] := hD
  refine lv_iconst (v := 2) hx hb d_In_isDirectory_11 (by decide) ?_
  refine lv_icmp_ne (tgt := 19) hx hb d_In_isDirectory_12 (by decide) (fun c_2 => ?_) (fun c_2 => ?_)
  · refine lv_iconst (v := 0) hx hb d_In_isDirectory_19 (by decide) ?_
    exact W.zret (v := 0) hx hb hr rfl (fun t ht hW => ⟨⟨0, (), rfl, by rw [in_dir, ← er_1, if_neg c_2], by rw [ht]; exact hP, va_K.moved hW.alike hK, hD⟩, hS.F ht⟩) hS.2.2 d_In_isDirectory_20
  · refine lv_iconst (v := 1) hx hb d_In_isDirectory_15 (by decide) ?_
    refine lv_goto (tgt := 20) hx hb d_In_isDirectory_16 (by decide) ?_
    exact W.zret (v := 1) hx hb hr rfl (fun t ht hW => ⟨⟨1, (), rfl, by rw [in_dir, ← er_1, if_pos c_2], by rw [ht]; exact hP, va_K.moved hW.alike hK, hD⟩, hS.F ht⟩) hS.2.2 d_In_isDirectory_20
def in_name (n : Nat) (f : Nat → Int32) (p1 p2 : Int32) : Int32 := if p2 < 0 then ((-1)) else if (dk_one n f (p1 + 6)) ≤ p2 then ((-1)) else ((dk_one n f ((p1 + 8) + p2)))
set_option maxHeartbeats 4000000 in
set_option maxRecDepth 100000 in
theorem c_In_nameByte (l : Launch) (dC : Nat → ClassId) (dI : Nat → Nat → Nat) (i0 h0 sz : Nat) (se : Int32) (h1 : Nat) (cB : ClassId) (sec pw : Int32) (n : Nat) (f : Nat → Int32) (h4 : 4 ≤ n) (hn : n < 2 ^ 31) (p1 p2 : Int32) : Met l y_In_nameByte (.code y_In_nameByte b_In_nameByte 3 (some .int) :: V_In) ({ frames := 1, cells := 0, slots := 0, locals := 21 }) (va_Pc [.ref i0, .int p1, .int p2] (fun U => U.heap.size = sz ∧ at_ (dC, dI) (fun _ => True) [(i0, .inr (6, [.ref h0, .int se])), (h0, .inr (0, [.int sec, .ref h1, .int pw])), (h1, .inl (cB, n, .inl f))] [(cB, .byte)] U)) (va_Qi (fun (r : Int32) (u : Unit) => r = in_name n f p1 p2) (fun (u : Unit) t => at_ (dC, dI) (va_A [(i0, .inr (6, [.ref h0, .int se])), (h0, .inr (0, [.int sec, .ref h1, .int pw])), (h1, .inl (cB, n, .inl f))] sz) [(i0, .inr (6, [.ref h0, .int se])), (h0, .inr (0, [.int sec, .ref h1, .int pw])), (h1, .inl (cB, n, .inl f))] [(cB, .byte)] t) (va_A [(i0, .inr (6, [.ref h0, .int se])), (h0, .inr (0, [.int sec, .ref h1, .int pw])), (h1, .inl (cB, n, .inl f))] sz)) 0 0 (va_A [(i0, .inr (6, [.ref h0, .int se])), (h0, .inr (0, [.int sec, .ref h1, .int pw])), (h1, .inl (cB, n, .inl f))] sz) := by
  refine Met.ofW (cc := b_In_nameByte) (maxL := 3) (ret := (some .int)) (by decide) rfl ?_
  intro p e s m args below meth c s₁ B hml hv
  obtain ⟨rfl, hsz, hP, hK, hD0⟩ := hv
  have hx := B.exec
  have hb := B.bytes
  have hr := B.returns
  have hts0 := atoms_spec (ws := .code y_In_nameByte b_In_nameByte 3 (some .int) :: V_In) B.pre
  have hts : ∀ w ∈ V_In, w.before ([.ref i0, .int p1, .int p2] : List Value).toArray s = true := fun w h => hts0 w (List.mem_cons_of_mem _ h)
  have hown : s.vm.findClass R_In = some m.cls := findClass_of_methodNamed B.named
  have hlocks := B.notSynchronized
  subst hsz
  have hD := hD0.self (sz := s.heap.size)
  generalize hAe : va_A [(i0, .inr (6, [.ref h0, .int se])), (h0, .inr (0, [.int sec, .ref h1, .int pw])), (h1, .inl (cB, n, .inl f))] s.heap.size = A at hD ⊢
  have hA : ∀ q : Nat, s.heap.size ≤ q → A q := fun q h => by rw [← hAe]; exact Or.inr h
  have hS : va_S A s.heap s.heap [] := va_S.rf
  have hP : va_P (dC, dI) classes [(i0, .inr (6, [.ref h0, .int se])), (h0, .inr (0, [.int sec, .ref h1, .int pw])), (h1, .inl (cB, n, .inl f))] s.heap := hP
  have hK : va_K (dC, dI) classes [(cB, .byte)] s := hK
  have hl := lv_entry ([.ref i0, .int p1, .int p2]) (n := 3) (Nat.le_of_ble_eq_true rfl)
  rw [lg_entry_eq]
  generalize (lg_sl ([.ref i0, .int p1, .int p2]) ++ List.replicate (3 - (lg_sl ([.ref i0, .int p1, .int p2])).length) Slot.unset).toArray = ls at hl ⊢
  have hl : lv_has ls 3 [(0, .ref i0), (1, .int p1), (2, .int p2)] := hl
  refine lv_iload_n hx hb d_In_nameByte_0 rfl (lv_at hl 2 rfl) ?_
  refine lv_if_lt (tgt := 35) hx hb d_In_nameByte_1 (by decide) (fun c_1 => ?_) (fun c_1 => ?_)
  · refine lv_iconst (v := (-1)) hx hb d_In_nameByte_35 (by decide) ?_
    exact W.iret (v := ((-1))) hx hb hr (fun t ht hW => ⟨⟨((-1)), (), rfl, by rw [in_name, if_pos c_1], by rw [ht]; exact hP, va_K.moved hW.alike hK, hD⟩, hS.F ht⟩) hS.2.2 d_In_nameByte_36
  · refine lv_iload_n hx hb d_In_nameByte_4 rfl (lv_at hl 2 rfl) ?_
    refine lv_aload_n hx hb d_In_nameByte_5 rfl (lv_at hl 0 rfl) ?_
    refine va_get (D := (dC, dI)) (ci := 6) (v := .ref h0) (C := R_In) (T := F_In) (N := 2) hx hb hts i_In hown hK hP 0 rfl rfl 0 (by decide) (hts _ (k_In_5)) (fun _ h9 => h9) rfl d_In_nameByte_6 ?_
    refine lv_iload_n hx hb d_In_nameByte_9 rfl (lv_at hl 1 rfl) ?_
    refine lv_bipush (v := 6) hx hb d_In_nameByte_10 (by decide) ?_
    refine lv_iadd hx hb d_In_nameByte_12 ?_
    have hPc := hP.sub (ws' := [(h0, .inr (0, [.int sec, .ref h1, .int pw])), (h1, .inl (cB, n, .inl f))]) [1, 2] rfl
    have hDc := hD.sub (ws' := [(h0, .inr (0, [.int sec, .ref h1, .int pw])), (h1, .inl (cB, n, .inl f))]) [1, 2] (by decide) rfl
    have hKc := hK.sub (tys' := [(cB, .byte)]) [0] rfl
    have hFc := va_free (wc := [(h0, .inr (0, [.int sec, .ref h1, .int pw])), (h1, .inl (cB, n, .inl f))]) hD hS hA [1, 2] rfl
    refine va_calli (va_runV (As := [.int (p1 + 6)]) (rest := [.int p2]) ⟨hx, hb, hml, hown, hts⟩ (c_Dk_one l dC dI h0 h1 s.heap.size cB sec pw n f h4 hn (p1 + 6)) (cwV 1 hts (gwV good_In (k_In_25) (u_In_Dk _ k_Dk_20) (u_In_Dk _ k_Dk_21) (u_In_Dk _ k_Dk_0) (wcs (u_In_Dk _ k_Dk_22) u_In_Dk)) rfl rfl rfl (by decide +kernel) ⟨Nat.le_of_ble_eq_true rfl, Nat.le_of_ble_eq_true rfl⟩) (pv_of hPc hKc hDc (va_recv hKc hPc (ci := 0) (q0 := 0) rfl rfl)) rfl rfl hl.1 rfl (lv_room (Nat.le_of_ble_eq_true rfl)) d_In_nameByte_13 ⟨by decide, by decide⟩) hS (fun q _ h => hFc q h) hFc (fun r_2 u t H1 locs ht hvm hw hB hz1 hk1 hS => ?_)
    obtain ⟨er_2, rfl⟩ := hw
    obtain ⟨hP1, hK1, hD1⟩ := hB
    rw [ht] at hP1
    have hP1 : va_P (dC, dI) classes [(h0, .inr (0, [.int sec, .ref h1, .int pw])), (h1, .inl (cB, n, .inl f))] H1 := hP1
    have hD1 : va_D _ [(h0, .inr (0, [.int sec, .ref h1, .int pw])), (h1, .inl (cB, n, .inl f))] := hD1
    obtain ⟨hP, hD⟩ := va_join (wr := [(i0, .inr (6, [.ref h0, .int se]))]) (w1 := [(h0, .inr (0, [.int sec, .ref h1, .int pw])), (h1, .inl (cB, n, .inl f))]) hP hD [1, 2] [0] rfl rfl (by decide) (by decide) hk1 hFc hP1 hD1
    generalize H1 = H at hP hS ⊢
    have hP : va_P (dC, dI) classes [(i0, .inr (6, [.ref h0, .int se])), (h0, .inr (0, [.int sec, .ref h1, .int pw])), (h1, .inl (cB, n, .inl f))] H := hP
    have hD : va_D A [(i0, .inr (6, [.ref h0, .int se])), (h0, .inr (0, [.int sec, .ref h1, .int pw])), (h1, .inl (cB, n, .inl f))] := hD
    refine lv_icmp_ge (tgt := 35) hx hb d_In_nameByte_16 (by decide) (fun c_3 => ?_) (fun c_3 => ?_)
    · refine lv_iconst (v := (-1)) hx hb d_In_nameByte_35 (by decide) ?_
      exact W.iret (v := ((-1))) hx hb hr (fun t ht hW => ⟨⟨((-1)), (), rfl, by rw [in_name, if_neg c_1, ← er_2, if_pos c_3], by rw [ht]; exact hP, va_K.moved hW.alike hK, hD⟩, hS.F ht⟩) hS.2.2 d_In_nameByte_36
    · refine lv_aload_n hx hb d_In_nameByte_19 rfl (lv_at hl 0 rfl) ?_
      refine va_get (D := (dC, dI)) (ci := 6) (v := .ref h0) (C := R_In) (T := F_In) (N := 2) hx hb hts i_In hown hK hP 0 rfl rfl 0 (by decide) (hts _ (k_In_5)) (fun _ h9 => h9) rfl d_In_nameByte_20 ?_
      refine lv_iload_n hx hb d_In_nameByte_23 rfl (lv_at hl 1 rfl) ?_
      refine lv_bipush (v := 8) hx hb d_In_nameByte_24 (by decide) ?_
      refine lv_iadd hx hb d_In_nameByte_26 ?_
      refine lv_iload_n hx hb d_In_nameByte_27 rfl (lv_at hl 2 rfl) ?_
      refine lv_iadd hx hb d_In_nameByte_28 ?_
      have hPc := hP.sub (ws' := [(h0, .inr (0, [.int sec, .ref h1, .int pw])), (h1, .inl (cB, n, .inl f))]) [1, 2] rfl
      have hDc := hD.sub (ws' := [(h0, .inr (0, [.int sec, .ref h1, .int pw])), (h1, .inl (cB, n, .inl f))]) [1, 2] (by decide) rfl
      have hKc := hK.sub (tys' := [(cB, .byte)]) [0] rfl
      have hFc := va_free (wc := [(h0, .inr (0, [.int sec, .ref h1, .int pw])), (h1, .inl (cB, n, .inl f))]) hD hS hA [1, 2] rfl
      refine va_calli (va_runV (As := [.int ((p1 + 8) + p2)]) (rest := []) ⟨hx, hb, hml, hown, hts⟩ (c_Dk_one l dC dI h0 h1 H.size cB sec pw n f h4 hn ((p1 + 8) + p2)) (cwV 1 hts (gwV good_In (k_In_25) (u_In_Dk _ k_Dk_20) (u_In_Dk _ k_Dk_21) (u_In_Dk _ k_Dk_0) (wcs (u_In_Dk _ k_Dk_22) u_In_Dk)) rfl rfl rfl (by decide +kernel) ⟨Nat.le_of_ble_eq_true rfl, Nat.le_of_ble_eq_true rfl⟩) (pv_of hPc hKc hDc (va_recv hKc hPc (ci := 0) (q0 := 0) rfl rfl)) rfl rfl hl.1 rfl (lv_room (Nat.le_of_ble_eq_true rfl)) d_In_nameByte_29 ⟨by decide, by decide⟩) hS (fun q _ h => hFc q h) hFc (fun r_4 u t H1 locs ht hvm hw hB hz1 hk1 hS => ?_)
      obtain ⟨er_4, rfl⟩ := hw
      obtain ⟨hP1, hK1, hD1⟩ := hB
      rw [ht] at hP1
      have hP1 : va_P (dC, dI) classes [(h0, .inr (0, [.int sec, .ref h1, .int pw])), (h1, .inl (cB, n, .inl f))] H1 := hP1
      have hD1 : va_D _ [(h0, .inr (0, [.int sec, .ref h1, .int pw])), (h1, .inl (cB, n, .inl f))] := hD1
      obtain ⟨hP, hD⟩ := va_join (wr := [(i0, .inr (6, [.ref h0, .int se]))]) (w1 := [(h0, .inr (0, [.int sec, .ref h1, .int pw])), (h1, .inl (cB, n, .inl f))]) hP hD [1, 2] [0] rfl rfl (by decide) (by decide) hk1 hFc hP1 hD1
      generalize H1 = H at hP hS ⊢
      have hP : va_P (dC, dI) classes [(i0, .inr (6, [.ref h0, .int se])), (h0, .inr (0, [.int sec, .ref h1, .int pw])), (h1, .inl (cB, n, .inl f))] H := hP
      have hD : va_D A [(i0, .inr (6, [.ref h0, .int se])), (h0, .inr (0, [.int sec, .ref h1, .int pw])), (h1, .inl (cB, n, .inl f))] := hD
      refine lv_goto (tgt := 36) hx hb d_In_nameByte_32 (by decide) ?_
      exact W.iret (v := r_4) hx hb hr (fun t ht hW => ⟨⟨r_4, (), rfl, by rw [in_name, if_neg c_1, ← er_2, if_neg c_3, ← er_4], by rw [ht]; exact hP, va_K.moved hW.alike hK, hD⟩, hS.F ht⟩) hS.2.2 d_In_nameByte_36
