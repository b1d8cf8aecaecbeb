set_option maxHeartbeats 4000000 in
set_option maxRecDepth 100000 in
/-- Disk(sectors) -/
theorem c_Dk_init (l : Launch) (dC : Nat → ClassId) (dI : Nat → Nat → Nat) (h0 sz sN : Nat) (hs : sN ≤ 1024) : Met l y_Dk_init (.code y_Dk_init b_Dk_init 2 none :: V_Dk) ({ frames := 1, cells := 1, slots := 524288, locals := 12 }) (va_Pc [.ref h0, .int (nI sN)] (fun U => U.heap.size = sz ∧ at_ (dC, dI) (fun _ => True) [(h0, .inr (0, [.int 0, .null, .int 0]))] [] U)) (va_Qv (fun u : Nat × ClassId => True) (fun (u : Nat × ClassId) t => at_ (dC, dI) (va_A [(h0, .inr (0, [.int 0, .null, .int 0]))] sz) [(h0, .inr (0, [.int (nI sN), .ref u.1, .int (-1)])), (u.1, .inl (u.2, sN * 512, .inl (fun _ => 0)))] [(u.2, .byte)] t) (va_A [(h0, .inr (0, [.int 0, .null, .int 0]))] sz)) 1 524288 (va_A [(h0, .inr (0, [.int 0, .null, .int 0]))] sz) := by
  refine Met.ofW (cc := b_Dk_init) (maxL := 2) (ret := none) (by decide) rfl ?_
  intro p e s m args below meth c s₁ B hml hv
  obtain ⟨rfl, hsz, hP, hK, hD0⟩ := hv
  have hx := B.exec
  have hb := B.bytes
  have hr := B.returns
  have hts0 := atoms_spec (ws := .code y_Dk_init b_Dk_init 2 none :: V_Dk) B.pre
  have hts : ∀ w ∈ V_Dk, w.before ([.ref h0, .int (nI sN)] : List Value).toArray s = true := fun w h => hts0 w (List.mem_cons_of_mem _ h)
  have hown : s.vm.findClass R_Dk = some m.cls := findClass_of_methodNamed B.named
  have hlocks := B.notSynchronized
  have hin : meth.name = "<init>" := (name_of_methodNamed B.named B.method).1
  subst hsz
  have hD := hD0.self (sz := s.heap.size)
  generalize hAe : va_A [(h0, .inr (0, [.int 0, .null, .int 0]))] s.heap.size = A at hD ⊢
  have hA : ∀ q : Nat, s.heap.size ≤ q → A q := fun q h => by rw [← hAe]; exact Or.inr h
  have hS : va_S A s.heap s.heap [] := va_S.rf
  have hP : va_P (dC, dI) classes [(h0, .inr (0, [.int 0, .null, .int 0]))] s.heap := hP
  have hK : va_K (dC, dI) classes [] s := hK
  have hl := lv_entry ([.ref h0, .int (nI sN)]) (n := 2) (Nat.le_of_ble_eq_true rfl)
  rw [lg_entry_eq]
  generalize (lg_sl ([.ref h0, .int (nI sN)]) ++ List.replicate (2 - (lg_sl ([.ref h0, .int (nI sN)])).length) Slot.unset).toArray = ls at hl ⊢
  have hl : lv_has ls 2 [(0, .ref h0), (1, .int (nI sN))] := hl
  refine lv_aload_n hx hb d_Dk_init_0 rfl (lv_at hl 0 rfl) ?_
  refine W.objInit hx hb hown (hts _ (k_Dk_4)) (hts _ (u_Dk_J _ k_J_3)) (hts _ (u_Dk_J _ k_J_4)) rfl (by rw [hml]; exact hl.1) rfl d_Dk_init_1 (Nat.le_of_ble_eq_true rfl) (Nat.le_of_ble_eq_true rfl) ?_
  refine W.eq (g2 := F0 m 4 ls []) rfl ?_
  refine lv_aload_n hx hb d_Dk_init_4 rfl (lv_at hl 0 rfl) ?_
  refine lv_iconst (v := (-1)) hx hb d_Dk_init_5 (by decide) ?_
  refine va_put (D := (dC, dI)) (ci := 0) (v := .int ((-1))) (ty := .int) (C := R_Dk) (T := F_Dk) (N := 3) hx hb hts i_Dk t_Dk t_Dk_ok n_Dk hown hK hP hD hS 0 rfl rfl 2 (by decide) (hts _ (k_Dk_7)) (fun _ h9 => h9) rfl (by decide +kernel) rfl rfl (Nat.le_of_ble_eq_true rfl) d_Dk_init_6 (fun H locs hP hD hS => ?_)
  have hP : va_P (dC, dI) classes [(h0, .inr (0, [.int 0, .null, .int ((-1))]))] H := hP
  have hD : va_D A [(h0, .inr (0, [.int 0, .null, .int ((-1))]))] := hD
  refine lv_aload_n hx hb d_Dk_init_9 rfl (lv_at hl 0 rfl) ?_
  refine lv_iload_n hx hb d_Dk_init_10 rfl (lv_at hl 1 rfl) ?_
  refine va_putF (D := (dC, dI)) (ci := 0) (v := .int (nI sN)) (ty := .int) (C := R_Dk) (T := F_Dk) (N := 3) hx hb hts i_Dk t_Dk t_Dk_ok n_Dk hown hK hP hD hS 0 rfl rfl 0 (by decide) (hts _ (k_Dk_5)) (fun _ h9 => h9) rfl hin rfl (by decide +kernel) rfl rfl (Nat.le_of_ble_eq_true rfl) d_Dk_init_11 (fun H locs hP hD hS => ?_)
  have hP : va_P (dC, dI) classes [(h0, .inr (0, [.int (nI sN), .null, .int ((-1))]))] H := hP
  have hD : va_D A [(h0, .inr (0, [.int (nI sN), .null, .int ((-1))]))] := hD
  refine lv_aload_n hx hb d_Dk_init_14 rfl (lv_at hl 0 rfl) ?_
  refine lv_iload_n hx hb d_Dk_init_15 rfl (lv_at hl 1 rfl) ?_
  refine lv_sipush (v := 512) hx hb d_Dk_init_16 (by decide) ?_
  refine lv_imul hx hb d_Dk_init_19 ?_
  refine va_newa (atype := .byte) (N' := (sN * 512)) (a0 := ((sN * 512), .inl (fun _ => 0))) hx hb (hts _ (u_Dk_J _ k_J_10)) rfl hK hP hD hS hA (fun _ => rfl) (by rw [show nI sN * 512 = nI (sN * 512) from pk_mul sN 512]; exact nI_pos (by omega)) (by rw [show nI sN * 512 = nI (sN * 512) from pk_mul sN 512]; exact nI_clamp (by omega)) (by show sN * 512 * 1 ≤ 536870912; omega) (by decide) (by show 0 + sN * 512 ≤ 524288; omega) d_Dk_init_20 (fun q_1 cA_q_1 H hK hP hD hS => ?_)
  have hP : va_P (dC, dI) classes [(h0, .inr (0, [.int (nI sN), .null, .int ((-1))])), (q_1, .inl (cA_q_1, (sN * 512), .inl ((fun _ => 0))))] H := hP
  have hD : va_D A [(h0, .inr (0, [.int (nI sN), .null, .int ((-1))])), (q_1, .inl (cA_q_1, (sN * 512), .inl ((fun _ => 0))))] := hD
  have hK : va_K (dC, dI) classes [(cA_q_1, .byte)] s := hK
  refine va_putF (D := (dC, dI)) (ci := 0) (v := .ref q_1) (ty := .array .byte) (C := R_Dk) (T := F_Dk) (N := 3) hx hb hts i_Dk t_Dk t_Dk_ok n_Dk hown hK hP hD hS 0 rfl rfl 1 (by decide) (hts _ (k_Dk_6)) (fun _ h9 => h9) rfl hin rfl (by decide +kernel) rfl rfl (Nat.le_of_ble_eq_true rfl) d_Dk_init_22 (fun H locs hP hD hS => ?_)
  have hP : va_P (dC, dI) classes [(h0, .inr (0, [.int (nI sN), .ref q_1, .int ((-1))])), (q_1, .inl (cA_q_1, (sN * 512), .inl ((fun _ => 0))))] H := hP
  have hD : va_D A [(h0, .inr (0, [.int (nI sN), .ref q_1, .int ((-1))])), (q_1, .inl (cA_q_1, (sN * 512), .inl ((fun _ => 0))))] := hD
  refine W.widen (k := 1) (n := 524288) (by omega) (by omega) ?_
  exact W.vret hx hb hr (fun t ht hW => ⟨⟨(q_1, cA_q_1), rfl, trivial, by rw [ht]; exact hP, va_K.moved hW.alike hK, hD⟩, hS.F ht⟩) hS.2.2 d_Dk_init_25