theorem tb_len {sN : Nat} (h : sN ≤ 1024) : nI sN / 2 + 2 = nI (sN / 2 + 2) := by
  rw [show (2 : Int32) = nI 2 from rfl, pk_div (by omega) (by decide) (by decide), nI_add]
set_option maxHeartbeats 4000000 in
set_option maxRecDepth 100000 in
/-- Table(disk) -/
theorem c_Tb_init (l : Launch) (dC : Nat → ClassId) (dI : Nat → Nat → Nat) (b0 h0 h1 sz sN : Nat) (pw : Int32) (hs : sN ≤ 1024) : Met l y_Tb_init (.code y_Tb_init b_Tb_init 2 none :: V_Tb) ({ frames := 1, cells := 2, slots := 1028, locals := 12 }) (va_Pc [.ref b0, .ref h0] (fun U => U.heap.size = sz ∧ at_ (dC, dI) (fun _ => True) [(b0, .inr (4, [.null, .int 0, .int 0, .int 0, .int 0, .int 0, .int 0, .int 0, .null, .null])), (h0, .inr (0, [.int (nI sN), .ref h1, .int pw]))] [] U)) (va_Qv (fun u : (Nat × Nat) × (ClassId × ClassId) => True) (fun (u : (Nat × Nat) × (ClassId × ClassId)) t => at_ (dC, dI) (va_A [(b0, .inr (4, [.null, .int 0, .int 0, .int 0, .int 0, .int 0, .int 0, .int 0, .null, .null])), (h0, .inr (0, [.int (nI sN), .ref h1, .int pw]))] sz) [(b0, .inr (4, [.ref h0, .int 2, .int 8, .int 1, .int 1, .int 2, .int 10, .int 4, .ref u.1.1, .ref u.1.2])), (h0, .inr (0, [.int (nI sN), .ref h1, .int pw])), (u.1.1, .inl (u.2.1, sN / 2 + 2, .inl (fun _ => 0))), (u.1.2, .inl (u.2.2, sN / 2 + 2, .inl (fun _ => 0)))] [(u.2.1, .int), (u.2.2, .int)] t) (va_A [(b0, .inr (4, [.null, .int 0, .int 0, .int 0, .int 0, .int 0, .int 0, .int 0, .null, .null])), (h0, .inr (0, [.int (nI sN), .ref h1, .int pw]))] sz)) 2 1028 (va_A [(b0, .inr (4, [.null, .int 0, .int 0, .int 0, .int 0, .int 0, .int 0, .int 0, .null, .null])), (h0, .inr (0, [.int (nI sN), .ref h1, .int pw]))] sz) := by
  refine Met.ofW (cc := b_Tb_init) (maxL := 2) (ret := none) (by decide) rfl ?_
  intro p e s m args below meth c s₁ B hml hv
  obtain ⟨rfl, hsz, hP, hK, hD0⟩ := hv
  have hx := B.exec
  have hb := B.bytes
  have hr := B.returns
  have hts0 := atoms_spec (ws := .code y_Tb_init b_Tb_init 2 none :: V_Tb) B.pre
  have hts : ∀ w ∈ V_Tb, w.before ([.ref b0, .ref h0] : List Value).toArray s = true := fun w h => hts0 w (List.mem_cons_of_mem _ h)
  have hown : s.vm.findClass R_Tb = some m.cls := findClass_of_methodNamed B.named
  have hlocks := B.notSynchronized
  have hin : meth.name = "<init>" := (name_of_methodNamed B.named B.method).1
  subst hsz
  have hD := hD0.self (sz := s.heap.size)
  generalize hAe : va_A [(b0, .inr (4, [.null, .int 0, .int 0, .int 0, .int 0, .int 0, .int 0, .int 0, .null, .null])), (h0, .inr (0, [.int (nI sN), .ref h1, .int pw]))] s.heap.size = A at hD ⊢
  have hA : ∀ q : Nat, s.heap.size ≤ q → A q := fun q h => by rw [← hAe]; exact Or.inr h
  have hS : va_S A s.heap s.heap [] := va_S.rf
  have hP : va_P (dC, dI) classes [(b0, .inr (4, [.null, .int 0, .int 0, .int 0, .int 0, .int 0, .int 0, .int 0, .null, .null])), (h0, .inr (0, [.int (nI sN), .ref h1, .int pw]))] s.heap := hP
  have hK : va_K (dC, dI) classes [] s := hK
  have hl := lv_entry ([.ref b0, .ref h0]) (n := 2) (Nat.le_of_ble_eq_true rfl)
  rw [lg_entry_eq]
  generalize (lg_sl ([.ref b0, .ref h0]) ++ List.replicate (2 - (lg_sl ([.ref b0, .ref h0])).length) Slot.unset).toArray = ls at hl ⊢
  have hl : lv_has ls 2 [(0, .ref b0), (1, .ref h0)] := hl
  refine lv_aload_n hx hb d_Tb_init_0 rfl (lv_at hl 0 rfl) ?_
  refine W.objInit hx hb hown (hts _ (k_Tb_5)) (hts _ (u_Tb_J _ k_J_3)) (hts _ (u_Tb_J _ k_J_4)) rfl (by rw [hml]; exact hl.1) rfl d_Tb_init_1 (Nat.le_of_ble_eq_true rfl) (Nat.le_of_ble_eq_true rfl) ?_
  refine W.eq (g2 := F0 m 4 ls []) rfl ?_
  refine lv_aload_n hx hb d_Tb_init_4 rfl (lv_at hl 0 rfl) ?_
  refine lv_iconst (v := 2) hx hb d_Tb_init_5 (by decide) ?_
  refine va_put (D := (dC, dI)) (ci := 4) (v := .int 2) (ty := .int) (C := R_Tb) (T := F_Tb) (N := 10) hx hb hts i_Tb t_Tb t_Tb_ok n_Tb hown hK hP hD hS 0 rfl rfl 1 (by decide) (hts _ (k_Tb_7)) (fun _ h9 => h9) rfl (by decide +kernel) rfl rfl (Nat.le_of_ble_eq_true rfl) d_Tb_init_6 (fun H locs hP hD hS => ?_)
  have hP : va_P (dC, dI) classes [(b0, .inr (4, [.null, .int 2, .int 0, .int 0, .int 0, .int 0, .int 0, .int 0, .null, .null])), (h0, .inr (0, [.int (nI sN), .ref h1, .int pw]))] H := hP
  have hD : va_D A [(b0, .inr (4, [.null, .int 2, .int 0, .int 0, .int 0, .int 0, .int 0, .int 0, .null, .null])), (h0, .inr (0, [.int (nI sN), .ref h1, .int pw]))] := hD
  refine lv_aload_n hx hb d_Tb_init_9 rfl (lv_at hl 0 rfl) ?_
  refine lv_bipush (v := 8) hx hb d_Tb_init_10 (by decide) ?_
  refine va_put (D := (dC, dI)) (ci := 4) (v := .int 8) (ty := .int) (C := R_Tb) (T := F_Tb) (N := 10) hx hb hts i_Tb t_Tb t_Tb_ok n_Tb hown hK hP hD hS 0 rfl rfl 2 (by decide) (hts _ (k_Tb_8)) (fun _ h9 => h9) rfl (by decide +kernel) rfl rfl (Nat.le_of_ble_eq_true rfl) d_Tb_init_12 (fun H locs hP hD hS => ?_)
  have hP : va_P (dC, dI) classes [(b0, .inr (4, [.null, .int 2, .int 8, .int 0, .int 0, .int 0, .int 0, .int 0, .null, .null])), (h0, .inr (0, [.int (nI sN), .ref h1, .int pw]))] H := hP
  have hD : va_D A [(b0, .inr (4, [.null, .int 2, .int 8, .int 0, .int 0, .int 0, .int 0, .int 0, .null, .null])), (h0, .inr (0, [.int (nI sN), .ref h1, .int pw]))] := hD
  refine lv_aload_n hx hb d_Tb_init_15 rfl (lv_at hl 0 rfl) ?_
  refine lv_iconst (v := 1) hx hb d_Tb_init_16 (by decide) ?_
  refine va_put (D := (dC, dI)) (ci := 4) (v := .int 1) (ty := .int) (C := R_Tb) (T := F_Tb) (N := 10) hx hb hts i_Tb t_Tb t_Tb_ok n_Tb hown hK hP hD hS 0 rfl rfl 3 (by decide) (hts _ (k_Tb_9)) (fun _ h9 => h9) rfl (by decide +kernel) rfl rfl (Nat.le_of_ble_eq_true rfl) d_Tb_init_17 (fun H locs hP hD hS => ?_)
  have hP : va_P (dC, dI) classes [(b0, .inr (4, [.null, .int 2, .int 8, .int 1, .int 0, .int 0, .int 0, .int 0, .null, .null])), (h0, .inr (0, [.int (nI sN), .ref h1, .int pw]))] H := hP
  have hD : va_D A [(b0, .inr (4, [.null, .int 2, .int 8, .int 1, .int 0, .int 0, .int 0, .int 0, .null, .null])), (h0, .inr (0, [.int (nI sN), .ref h1, .int pw]))] := hD
  refine lv_aload_n hx hb d_Tb_init_20 rfl (lv_at hl 0 rfl) ?_
  refine lv_iconst (v := 1) hx hb d_Tb_init_21 (by decide) ?_
  refine va_put (D := (dC, dI)) (ci := 4) (v := .int 1) (ty := .int) (C := R_Tb) (T := F_Tb) (N := 10) hx hb hts i_Tb t_Tb t_Tb_ok n_Tb hown hK hP hD hS 0 rfl rfl 4 (by decide) (hts _ (k_Tb_10)) (fun _ h9 => h9) rfl (by decide +kernel) rfl rfl (Nat.le_of_ble_eq_true rfl) d_Tb_init_22 (fun H locs hP hD hS => ?_)
  have hP : va_P (dC, dI) classes [(b0, .inr (4, [.null, .int 2, .int 8, .int 1, .int 1, .int 0, .int 0, .int 0, .null, .null])), (h0, .inr (0, [.int (nI sN), .ref h1, .int pw]))] H := hP
  have hD : va_D A [(b0, .inr (4, [.null, .int 2, .int 8, .int 1, .int 1, .int 0, .int 0, .int 0, .null, .null])), (h0, .inr (0, [.int (nI sN), .ref h1, .int pw]))] := hD
  refine lv_aload_n hx hb d_Tb_init_25 rfl (lv_at hl 0 rfl) ?_
  refine lv_iconst (v := 2) hx hb d_Tb_init_26 (by decide) ?_
  refine va_put (D := (dC, dI)) (ci := 4) (v := .int 2) (ty := .int) (C := R_Tb) (T := F_Tb) (N := 10) hx hb hts i_Tb t_Tb t_Tb_ok n_Tb hown hK hP hD hS 0 rfl rfl 5 (by decide) (hts _ (k_Tb_11)) (fun _ h9 => h9) rfl (by decide +kernel) rfl rfl (Nat.le_of_ble_eq_true rfl) d_Tb_init_27 (fun H locs hP hD hS => ?_)
  have hP : va_P (dC, dI) classes [(b0, .inr (4, [.null, .int 2, .int 8, .int 1, .int 1, .int 2, .int 0, .int 0, .null, .null])), (h0, .inr (0, [.int (nI sN), .ref h1, .int pw]))] H := hP
  have hD : va_D A [(b0, .inr (4, [.null, .int 2, .int 8, .int 1, .int 1, .int 2, .int 0, .int 0, .null, .null])), (h0, .inr (0, [.int (nI sN), .ref h1, .int pw]))] := hD
  refine lv_aload_n hx hb d_Tb_init_30 rfl (lv_at hl 0 rfl) ?_
  refine lv_bipush (v := 10) hx hb d_Tb_init_31 (by decide) ?_
  refine va_put (D := (dC, dI)) (ci := 4) (v := .int 10) (ty := .int) (C := R_Tb) (T := F_Tb) (N := 10) hx hb hts i_Tb t_Tb t_Tb_ok n_Tb hown hK hP hD hS 0 rfl rfl 6 (by decide) (hts _ (k_Tb_12)) (fun _ h9 => h9) rfl (by decide +kernel) rfl rfl (Nat.le_of_ble_eq_true rfl) d_Tb_init_33 (fun H locs hP hD hS => ?_)
  have hP : va_P (dC, dI) classes [(b0, .inr (4, [.null, .int 2, .int 8, .int 1, .int 1, .int 2, .int 10, .int 0, .null, .null])), (h0, .inr (0, [.int (nI sN), .ref h1, .int pw]))] H := hP
  have hD : va_D A [(b0, .inr (4, [.null, .int 2, .int 8, .int 1, .int 1, .int 2, .int 10, .int 0, .null, .null])), (h0, .inr (0, [.int (nI sN), .ref h1, .int pw]))] := hD
  refine lv_aload_n hx hb d_Tb_init_36 rfl (lv_at hl 0 rfl) ?_
  refine lv_iconst (v := 4) hx hb d_Tb_init_37 (by decide) ?_
  refine va_put (D := (dC, dI)) (ci := 4) (v := .int 4) (ty := .int) (C := R_Tb) (T := F_Tb) (N := 10) hx hb hts i_Tb t_Tb t_Tb_ok n_Tb hown hK hP hD hS 0 rfl rfl 7 (by decide) (hts _ (k_Tb_13)) (fun _ h9 => h9) rfl (by decide +kernel) rfl rfl (Nat.le_of_ble_eq_true rfl) d_Tb_init_38 (fun H locs hP hD hS => ?_)
  have hP : va_P (dC, dI) classes [(b0, .inr (4, [.null, .int 2, .int 8, .int 1, .int 1, .int 2, .int 10, .int 4, .null, .null])), (h0, .inr (0, [.int (nI sN), .ref h1, .int pw]))] H := hP
  have hD : va_D A [(b0, .inr (4, [.null, .int 2, .int 8, .int 1, .int 1, .int 2, .int 10, .int 4, .null, .null])), (h0, .inr (0, [.int (nI sN), .ref h1, .int pw]))] := hD
  refine lv_aload_n hx hb d_Tb_init_41 rfl (lv_at hl 0 rfl) ?_
  refine lv_aload_n hx hb d_Tb_init_42 rfl (lv_at hl 1 rfl) ?_
  refine va_putF (D := (dC, dI)) (ci := 4) (v := .ref h0) (ty := .object "VolumeTurner$Disk") (C := R_Tb) (T := F_Tb) (N := 10) hx hb hts i_Tb t_Tb t_Tb_ok n_Tb hown hK hP hD hS 0 rfl rfl 0 (by decide) (hts _ (k_Tb_6)) (fun _ h9 => h9) rfl hin rfl (by decide +kernel) rfl rfl (Nat.le_of_ble_eq_true rfl) d_Tb_init_43 (fun H locs hP hD hS => ?_)
  have hP : va_P (dC, dI) classes [(b0, .inr (4, [.ref h0, .int 2, .int 8, .int 1, .int 1, .int 2, .int 10, .int 4, .null, .null])), (h0, .inr (0, [.int (nI sN), .ref h1, .int pw]))] H := hP
  have hD : va_D A [(b0, .inr (4, [.ref h0, .int 2, .int 8, .int 1, .int 1, .int 2, .int 10, .int 4, .null, .null])), (h0, .inr (0, [.int (nI sN), .ref h1, .int pw]))] := hD
  refine lv_aload_n hx hb d_Tb_init_46 rfl (lv_at hl 0 rfl) ?_
  refine lv_aload_n hx hb d_Tb_init_47 rfl (lv_at hl 1 rfl) ?_
  refine va_get (D := (dC, dI)) (ci := 0) (v := .int (nI sN)) (C := R_Dk) (T := F_Dk) (N := 3) hx hb hts (fun w h => u_Tb_Dk w (i_Dk w h)) hown hK hP 1 rfl rfl 0 (by decide) (hts _ (k_Tb_1)) (fun _ h9 => h9) rfl d_Tb_init_48 ?_
  refine lv_iconst (v := 2) hx hb d_Tb_init_51 (by decide) ?_
  refine lv_idiv hx hb d_Tb_init_52 (by decide) ?_
  refine lv_iconst (v := 2) hx hb d_Tb_init_53 (by decide) ?_
  refine lv_iadd hx hb d_Tb_init_54 ?_
  refine va_newa (atype := .int) (N' := (sN / 2 + 2)) (a0 := ((sN / 2 + 2), .inl (fun _ => 0))) hx hb (hts _ (u_Tb_J _ k_J_9)) rfl hK hP hD hS hA (fun _ => rfl) (by rw [tb_len hs]; exact nI_pos (by omega)) (by rw [tb_len hs]; exact nI_clamp (by omega)) (by show (sN / 2 + 2) * 4 ≤ 536870912; omega) (by decide) (by show _ ≤ 1028; omega) d_Tb_init_55 (fun q_1 cA_q_1 H hK hP hD hS => ?_)
  have hP : va_P (dC, dI) classes [(b0, .inr (4, [.ref h0, .int 2, .int 8, .int 1, .int 1, .int 2, .int 10, .int 4, .null, .null])), (h0, .inr (0, [.int (nI sN), .ref h1, .int pw])), (q_1, .inl (cA_q_1, (sN / 2 + 2), .inl ((fun _ => 0))))] H := hP
  have hD : va_D A [(b0, .inr (4, [.ref h0, .int 2, .int 8, .int 1, .int 1, .int 2, .int 10, .int 4, .null, .null])), (h0, .inr (0, [.int (nI sN), .ref h1, .int pw])), (q_1, .inl (cA_q_1, (sN / 2 + 2), .inl ((fun _ => 0))))] := hD
  have hK : va_K (dC, dI) classes [(cA_q_1, .int)] s := hK
  refine va_putF (D := (dC, dI)) (ci := 4) (v := .ref q_1) (ty := .array .int) (C := R_Tb) (T := F_Tb) (N := 10) hx hb hts i_Tb t_Tb t_Tb_ok n_Tb hown hK hP hD hS 0 rfl rfl 8 (by decide) (hts _ (k_Tb_14)) (fun _ h9 => h9) rfl hin rfl (by decide +kernel) rfl rfl (Nat.le_of_ble_eq_true rfl) d_Tb_init_57 (fun H locs hP hD hS => ?_)
  have hP : va_P (dC, dI) classes [(b0, .inr (4, [.ref h0, .int 2, .int 8, .int 1, .int 1, .int 2, .int 10, .int 4, .ref q_1, .null])), (h0, .inr (0, [.int (nI sN), .ref h1, .int pw])), (q_1, .inl (cA_q_1, (sN / 2 + 2), .inl ((fun _ => 0))))] H := hP
  have hD : va_D A [(b0, .inr (4, [.ref h0, .int 2, .int 8, .int 1, .int 1, .int 2, .int 10, .int 4, .ref q_1, .null])), (h0, .inr (0, [.int (nI sN), .ref h1, .int pw])), (q_1, .inl (cA_q_1, (sN / 2 + 2), .inl ((fun _ => 0))))] := hD
  refine lv_aload_n hx hb d_Tb_init_60 rfl (lv_at hl 0 rfl) ?_
  refine lv_aload_n hx hb d_Tb_init_61 rfl (lv_at hl 1 rfl) ?_
  refine va_get (D := (dC, dI)) (ci := 0) (v := .int (nI sN)) (C := R_Dk) (T := F_Dk) (N := 3) hx hb hts (fun w h => u_Tb_Dk w (i_Dk w h)) hown hK hP 1 rfl rfl 0 (by decide) (hts _ (k_Tb_1)) (fun _ h9 => h9) rfl d_Tb_init_62 ?_
  refine lv_iconst (v := 2) hx hb d_Tb_init_65 (by decide) ?_
  refine lv_idiv hx hb d_Tb_init_66 (by decide) ?_
  refine lv_iconst (v := 2) hx hb d_Tb_init_67 (by decide) ?_
  refine lv_iadd hx hb d_Tb_init_68 ?_
  refine va_newa (atype := .int) (N' := (sN / 2 + 2)) (a0 := ((sN / 2 + 2), .inl (fun _ => 0))) hx hb (hts _ (u_Tb_J _ k_J_9)) rfl hK hP hD hS hA (fun _ => rfl) (by rw [tb_len hs]; exact nI_pos (by omega)) (by rw [tb_len hs]; exact nI_clamp (by omega)) (by show (sN / 2 + 2) * 4 ≤ 536870912; omega) (by decide) (by show _ ≤ 1028; omega) d_Tb_init_69 (fun q_2 cA_q_2 H hK hP hD hS => ?_)
  have hP : va_P (dC, dI) classes [(b0, .inr (4, [.ref h0, .int 2, .int 8, .int 1, .int 1, .int 2, .int 10, .int 4, .ref q_1, .null])), (h0, .inr (0, [.int (nI sN), .ref h1, .int pw])), (q_1, .inl (cA_q_1, (sN / 2 + 2), .inl ((fun _ => 0)))), (q_2, .inl (cA_q_2, (sN / 2 + 2), .inl ((fun _ => 0))))] H := hP
  have hD : va_D A [(b0, .inr (4, [.ref h0, .int 2, .int 8, .int 1, .int 1, .int 2, .int 10, .int 4, .ref q_1, .null])), (h0, .inr (0, [.int (nI sN), .ref h1, .int pw])), (q_1, .inl (cA_q_1, (sN / 2 + 2), .inl ((fun _ => 0)))), (q_2, .inl (cA_q_2, (sN / 2 + 2), .inl ((fun _ => 0))))] := hD
  have hK : va_K (dC, dI) classes [(cA_q_1, .int), (cA_q_2, .int)] s := hK
  refine va_putF (D := (dC, dI)) (ci := 4) (v := .ref q_2) (ty := .array .int) (C := R_Tb) (T := F_Tb) (N := 10) hx hb hts i_Tb t_Tb t_Tb_ok n_Tb hown hK hP hD hS 0 rfl rfl 9 (by decide) (hts _ (k_Tb_15)) (fun _ h9 => h9) rfl hin rfl (by decide +kernel) rfl rfl (Nat.le_of_ble_eq_true rfl) d_Tb_init_71 (fun H locs hP hD hS => ?_)
  have hP : va_P (dC, dI) classes [(b0, .inr (4, [.ref h0, .int 2, .int 8, .int 1, .int 1, .int 2, .int 10, .int 4, .ref q_1, .ref q_2])), (h0, .inr (0, [.int (nI sN), .ref h1, .int pw])), (q_1, .inl (cA_q_1, (sN / 2 + 2), .inl ((fun _ => 0)))), (q_2, .inl (cA_q_2, (sN / 2 + 2), .inl ((fun _ => 0))))] H := hP
  have hD : va_D A [(b0, .inr (4, [.ref h0, .int 2, .int 8, .int 1, .int 1, .int 2, .int 10, .int 4, .ref q_1, .ref q_2])), (h0, .inr (0, [.int (nI sN), .ref h1, .int pw])), (q_1, .inl (cA_q_1, (sN / 2 + 2), .inl ((fun _ => 0)))), (q_2, .inl (cA_q_2, (sN / 2 + 2), .inl ((fun _ => 0))))] := hD
  refine W.widen (k := 2) (n := 1028) (by omega) (by omega) ?_
  exact W.vret hx hb hr (fun t ht hW => ⟨⟨((q_1, q_2), (cA_q_1, cA_q_2)), rfl, trivial, by rw [ht]; exact hP, va_K.moved hW.alike hK, hD⟩, hS.F ht⟩) hS.2.2 d_Tb_init_74