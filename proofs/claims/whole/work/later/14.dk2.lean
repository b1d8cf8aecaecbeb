def dk_zero (n : Nat) (f : Nat → Int32) (a c : Int32) : Nat → Int32 := if a < 0 then f else if c < 0 then f else if nI n < c then f else if nI n - c < a then f else ar_fill f a.toNatClampNeg (a + c).toNatClampNeg 0
theorem in_add {a i N : Nat} (h : a + i < N) (hN : N < 2 ^ 31) : vp_in (nI a + nI i) N := by
  rw [nI_add]
  exact vp_in_nI h hN
theorem nge_add {a i N : Nat} (h : a + i < N) (hN : N < 2 ^ 31) : ¬ nI N ≤ nI a + nI i := by
  rw [nI_add]
  exact nI_ge h hN
theorem nle_of_lt {a b : Nat} (ha : a < 2 ^ 31) (h : ¬ nI a < nI b) (hb : b < 2 ^ 31) : b ≤ a := Nat.le_of_not_lt (fun q => h ((nI_ltI ha hb).mpr q))
set_option maxHeartbeats 4000000 in
set_option maxRecDepth 100000 in
/-- Disk(sectors) -/
theorem c_Dk_init (l : Launch) (dC : Nat → ClassId) (dI : Nat → Nat → Nat) (h0 sz sN : Nat) (hs : sN ≤ 1024) : Met l y_Dk_init (.code y_Dk_init b_Dk_init 2 none :: V_Dk) ({ frames := 1, cells := 1, slots := 524288, locals := 12 }) (va_Pc [.ref h0, .int (nI sN)] (fun U => U.heap.size = sz ∧ at_ (dC, dI) (fun _ => True) [(h0, .inr (0, [.int 0, .null, .int 0]))] [] U)) (va_Qv (fun u : Nat × ClassId => True) (fun (u : Nat × ClassId) t => at_ (dC, dI) (va_A [(h0, .inr (0, [.int 0, .null, .int 0]))] sz) [(h0, .inr (0, [.int (nI sN), .ref u.1, .int (-1)])), (u.1, .inl (u.2, sN * 512, .inl (fun _ => 0)))] [(u.2, .byte)] t) (va_A [(h0, .inr (0, [.int 0, .null, .int 0]))] sz)) 1 524288 (va_A [(h0, .inr (0, [.int 0, .null, .int 0]))] sz) := by
  refine Met.ofW (cc := b_Dk_init) (maxL := 2) (ret := none) (by decide) rfl ?_
  intro p e s m args below meth c s₁ B hml hv
  obtain ⟨rfl, hsz, hP, hK, hD0⟩ := hv
  have hx := B.exec
  have hb := B.bytes
  have hr := B.returns
  have hts0 := atoms_spec (ws := .code y_Dk_init b_Dk_init 2 none :: V_Dk) B.pre
  have hts : ∀ w ∈ V_Dk, w.before ([.ref h0, .int (nI sN)] : List Value).toArray s = true := fun w h => hts0 w (List.mem_cons_of_mem _ h)
  have hown : s.vm.findClass R_Dk = some m.cls := findClass_of_methodNamed B.named
  have hlocks := B.notSynchronized
  have hin : meth.name = "<init>" := (name_of_methodNamed B.named B.method).1
  subst hsz
  have hD := hD0.self (sz := s.heap.size)
  generalize hAe : va_A [(h0, .inr (0, [.int 0, .null, .int 0]))] s.heap.size = A at hD ⊢
  have hA : ∀ q : Nat, s.heap.size ≤ q → A q := fun q h => by rw [← hAe]; exact Or.inr h
  have hS : va_S A s.heap s.heap [] := va_S.rf
  have hP : va_P (dC, dI) classes [(h0, .inr (0, [.int 0, .null, .int 0]))] s.heap := hP
  have hK : va_K (dC, dI) classes [] s := hK
  have hl := lv_entry ([.ref h0, .int (nI sN)]) (n := 2) (Nat.le_of_ble_eq_true rfl)
  rw [lg_entry_eq]
  generalize (lg_sl ([.ref h0, .int (nI sN)]) ++ List.replicate (2 - (lg_sl ([.ref h0, .int (nI sN)])).length) Slot.unset).toArray = ls at hl ⊢
  have hl : lv_has ls 2 [(0, .ref h0), (1, .int (nI sN))] := hl
  refine lv_aload_n hx hb d_Dk_init_0 rfl (lv_at hl 0 rfl) ?_
  refine W.objInit hx hb hown (hts _ (k_Dk_4)) (hts _ (u_Dk_J _ k_J_3)) (hts _ (u_Dk_J _ k_J_4)) rfl (by rw [hml]; exact hl.1) rfl d_Dk_init_1 (Nat.le_of_ble_eq_true rfl) (Nat.le_of_ble_eq_true rfl) ?_
  refine W.eq (g2 := F0 m 4 ls []) rfl ?_
  refine lv_aload_n hx hb d_Dk_init_4 rfl (lv_at hl 0 rfl) ?_
  refine lv_iconst (v := (-1)) hx hb d_Dk_init_5 (by decide) ?_
  refine va_put (D := (dC, dI)) (ci := 0) (v := .int ((-1))) (ty := .int) (C := R_Dk) (T := F_Dk) (N := 3) hx hb hts i_Dk t_Dk t_Dk_ok n_Dk hown hK hP hD hS 0 rfl rfl 2 (by decide) (hts _ (k_Dk_7)) (fun _ h9 => h9) rfl (by decide +kernel) rfl rfl (Nat.le_of_ble_eq_true rfl) d_Dk_init_6 (fun H locs hP hD hS => ?_)
  have hP : va_P (dC, dI) classes [(h0, .inr (0, [.int 0, .null, .int ((-1))]))] H := hP
  have hD : va_D A [(h0, .inr (0, [.int 0, .null, .int ((-1))]))] := hD
  refine lv_aload_n hx hb d_Dk_init_9 rfl (lv_at hl 0 rfl) ?_
  refine lv_iload_n hx hb d_Dk_init_10 rfl (lv_at hl 1 rfl) ?_
  refine va_putF (D := (dC, dI)) (ci := 0) (v := .int (nI sN)) (ty := .int) (C := R_Dk) (T := F_Dk) (N := 3) hx hb hts i_Dk t_Dk t_Dk_ok n_Dk hown hK hP hD hS 0 rfl rfl 0 (by decide) (hts _ (k_Dk_5)) (fun _ h9 => h9) rfl hin rfl (by decide +kernel) rfl rfl (Nat.le_of_ble_eq_true rfl) d_Dk_init_11 (fun H locs hP hD hS => ?_)
  have hP : va_P (dC, dI) classes [(h0, .inr (0, [.int (nI sN), .null, .int ((-1))]))] H := hP
  have hD : va_D A [(h0, .inr (0, [.int (nI sN), .null, .int ((-1))]))] := hD
  refine lv_aload_n hx hb d_Dk_init_14 rfl (lv_at hl 0 rfl) ?_
  refine lv_iload_n hx hb d_Dk_init_15 rfl (lv_at hl 1 rfl) ?_
  refine lv_sipush (v := 512) hx hb d_Dk_init_16 (by decide) ?_
  refine lv_imul hx hb d_Dk_init_19 ?_
  refine va_newa (atype := .byte) (N' := (sN * 512)) (a0 := ((sN * 512), .inl (fun _ => 0))) hx hb (hts _ (u_Dk_J _ k_J_10)) rfl hK hP hD hS hA (fun _ => rfl) (by rw [show nI sN * 512 = nI (sN * 512) from pk_mul sN 512]; exact nI_pos (by omega)) (by rw [show nI sN * 512 = nI (sN * 512) from pk_mul sN 512]; exact nI_clamp (by omega)) (by show sN * 512 * 1 ≤ 536870912; omega) (by decide) (by show 0 + sN * 512 ≤ 524288; omega) d_Dk_init_20 (fun q_1 cA_q_1 H hK hP hD hS => ?_)
  have hP : va_P (dC, dI) classes [(h0, .inr (0, [.int (nI sN), .null, .int ((-1))])), (q_1, .inl (cA_q_1, (sN * 512), .inl ((fun _ => 0))))] H := hP
  have hD : va_D A [(h0, .inr (0, [.int (nI sN), .null, .int ((-1))])), (q_1, .inl (cA_q_1, (sN * 512), .inl ((fun _ => 0))))] := hD
  have hK : va_K (dC, dI) classes [(cA_q_1, .byte)] s := hK
  refine va_putF (D := (dC, dI)) (ci := 0) (v := .ref q_1) (ty := .array .byte) (C := R_Dk) (T := F_Dk) (N := 3) hx hb hts i_Dk t_Dk t_Dk_ok n_Dk hown hK hP hD hS 0 rfl rfl 1 (by decide) (hts _ (k_Dk_6)) (fun _ h9 => h9) rfl hin rfl (by decide +kernel) rfl rfl (Nat.le_of_ble_eq_true rfl) d_Dk_init_22 (fun H locs hP hD hS => ?_)
  have hP : va_P (dC, dI) classes [(h0, .inr (0, [.int (nI sN), .ref q_1, .int ((-1))])), (q_1, .inl (cA_q_1, (sN * 512), .inl ((fun _ => 0))))] H := hP
  have hD : va_D A [(h0, .inr (0, [.int (nI sN), .ref q_1, .int ((-1))])), (q_1, .inl (cA_q_1, (sN * 512), .inl ((fun _ => 0))))] := hD
  refine W.widen (k := 1) (n := 524288) (by omega) (by omega) ?_
  exact W.vret hx hb hr (fun t ht hW => ⟨⟨(q_1, cA_q_1), rfl, trivial, by rw [ht]; exact hP, va_K.moved hW.alike hK, hD⟩, hS.F ht⟩) hS.2.2 d_Dk_init_25
set_option maxHeartbeats 4000000 in
set_option maxRecDepth 100000 in
/-- zero: a range becomes 0, if there is such a one -/
theorem c_Dk_zero (l : Launch) (dC : Nat → ClassId) (dI : Nat → Nat → Nat) (h0 h1 sz : Nat) (cB : ClassId) (sec pw : Int32) (n : Nat) (f : Nat → Int32) (h4 : 4 ≤ n) (hn : n < 2 ^ 30) (p1 p2 : Int32) : Met l y_Dk_zero (.code y_Dk_zero b_Dk_zero 3 none :: V_Dk) ({ frames := 2, cells := 0, slots := 0, locals := 46 }) (va_Pc [.ref h0, .int p1, .int p2] (fun U => U.heap.size = sz ∧ at_ (dC, dI) (fun _ => True) [(h0, .inr (0, [.int sec, .ref h1, .int pw])), (h1, .inl (cB, n, .inl f))] [(cB, .byte)] U)) (va_Qv (fun u : Int32 × (Nat → Int32) => u = (pw, dk_zero n f p1 p2)) (fun (u : Int32 × (Nat → Int32)) t => at_ (dC, dI) (va_A [(h0, .inr (0, [.int sec, .ref h1, .int pw])), (h1, .inl (cB, n, .inl f))] sz) (wDk h0 h1 cB sec n u) [(cB, .byte)] t) (va_A [(h0, .inr (0, [.int sec, .ref h1, .int pw])), (h1, .inl (cB, n, .inl f))] sz)) 0 0 (va_A [(h0, .inr (0, [.int sec, .ref h1, .int pw])), (h1, .inl (cB, n, .inl f))] sz) := by
  refine Met.ofW (cc := b_Dk_zero) (maxL := 3) (ret := none) (by decide) rfl ?_
  intro p e s m args below meth c s₁ B hml hv
  obtain ⟨rfl, hsz, hP, hK, hD0⟩ := hv
  have hx := B.exec
  have hb := B.bytes
  have hr := B.returns
  have hts0 := atoms_spec (ws := .code y_Dk_zero b_Dk_zero 3 none :: V_Dk) B.pre
  have hts : ∀ w ∈ V_Dk, w.before ([.ref h0, .int p1, .int p2] : List Value).toArray s = true := fun w h => hts0 w (List.mem_cons_of_mem _ h)
  have hown : s.vm.findClass R_Dk = some m.cls := findClass_of_methodNamed B.named
  have hlocks := B.notSynchronized
  subst hsz
  have hD := hD0.self (sz := s.heap.size)
  generalize hAe : va_A [(h0, .inr (0, [.int sec, .ref h1, .int pw])), (h1, .inl (cB, n, .inl f))] s.heap.size = A at hD ⊢
  have hA : ∀ q : Nat, s.heap.size ≤ q → A q := fun q h => by rw [← hAe]; exact Or.inr h
  have hS : va_S A s.heap s.heap [] := va_S.rf
  have hP : va_P (dC, dI) classes [(h0, .inr (0, [.int sec, .ref h1, .int pw])), (h1, .inl (cB, n, .inl f))] s.heap := hP
  have hK : va_K (dC, dI) classes [(cB, .byte)] s := hK
  have hl := lv_entry ([.ref h0, .int p1, .int p2]) (n := 3) (Nat.le_of_ble_eq_true rfl)
  rw [lg_entry_eq]
  generalize (lg_sl ([.ref h0, .int p1, .int p2]) ++ List.replicate (3 - (lg_sl ([.ref h0, .int p1, .int p2])).length) Slot.unset).toArray = ls at hl ⊢
  have hl : lv_has ls 3 [(0, .ref h0), (1, .int p1), (2, .int p2)] := hl
  refine lv_iload_n hx hb d_Dk_zero_0 rfl (lv_at hl 1 rfl) ?_
  refine lv_if_lt (tgt := 40) hx hb d_Dk_zero_1 (by decide) (fun c_1 => ?_) (fun c_1 => ?_)
  · exact W.vret hx hb hr (fun t ht hW => ⟨⟨(pw, f), rfl, by rw [dk_zero, if_pos c_1], by rw [ht]; exact hP, va_K.moved hW.alike hK, hD⟩, hS.F ht⟩) hS.2.2 d_Dk_zero_40
  · refine lv_iload_n hx hb d_Dk_zero_4 rfl (lv_at hl 2 rfl) ?_
    refine lv_if_lt (tgt := 40) hx hb d_Dk_zero_5 (by decide) (fun c_2 => ?_) (fun c_2 => ?_)
    · exact W.vret hx hb hr (fun t ht hW => ⟨⟨(pw, f), rfl, by rw [dk_zero, if_neg c_1, if_pos c_2], by rw [ht]; exact hP, va_K.moved hW.alike hK, hD⟩, hS.F ht⟩) hS.2.2 d_Dk_zero_40
    · refine lv_iload_n hx hb d_Dk_zero_8 rfl (lv_at hl 2 rfl) ?_
      refine lv_aload_n hx hb d_Dk_zero_9 rfl (lv_at hl 0 rfl) ?_
      refine va_get (D := (dC, dI)) (ci := 0) (v := .ref h1) (C := R_Dk) (T := F_Dk) (N := 3) hx hb hts i_Dk hown hK hP 0 rfl rfl 1 (by decide) (hts _ (k_Dk_6)) (fun _ h9 => h9) rfl d_Dk_zero_10 ?_
      refine va_alen (v := nI n) hx hb hK hP 1 0 rfl rfl rfl d_Dk_zero_13 ?_
      refine lv_icmp_gt (tgt := 40) hx hb d_Dk_zero_14 (by decide) (fun c_3 => ?_) (fun c_3 => ?_)
      · exact W.vret hx hb hr (fun t ht hW => ⟨⟨(pw, f), rfl, by rw [dk_zero, if_neg c_1, if_neg c_2, if_pos c_3], by rw [ht]; exact hP, va_K.moved hW.alike hK, hD⟩, hS.F ht⟩) hS.2.2 d_Dk_zero_40
      · refine lv_iload_n hx hb d_Dk_zero_17 rfl (lv_at hl 1 rfl) ?_
        refine lv_aload_n hx hb d_Dk_zero_18 rfl (lv_at hl 0 rfl) ?_
        refine va_get (D := (dC, dI)) (ci := 0) (v := .ref h1) (C := R_Dk) (T := F_Dk) (N := 3) hx hb hts i_Dk hown hK hP 0 rfl rfl 1 (by decide) (hts _ (k_Dk_6)) (fun _ h9 => h9) rfl d_Dk_zero_19 ?_
        refine va_alen (v := nI n) hx hb hK hP 1 0 rfl rfl rfl d_Dk_zero_22 ?_
        refine lv_iload_n hx hb d_Dk_zero_23 rfl (lv_at hl 2 rfl) ?_
        refine lv_isub hx hb d_Dk_zero_24 ?_
        refine lv_icmp_gt (tgt := 40) hx hb d_Dk_zero_25 (by decide) (fun c_4 => ?_) (fun c_4 => ?_)
        · exact W.vret hx hb hr (fun t ht hW => ⟨⟨(pw, f), rfl, by rw [dk_zero, if_neg c_1, if_neg c_2, if_neg c_3, if_pos c_4], by rw [ht]; exact hP, va_K.moved hW.alike hK, hD⟩, hS.F ht⟩) hS.2.2 d_Dk_zero_40
        · obtain ⟨lo, hlo, rfl⟩ := nI_of c_1
          obtain ⟨cc, hcc, rfl⟩ := nI_of c_2
          have hcn : cc ≤ n := nle_of_lt (by omega) c_3 hcc
          have hz : lo + cc ≤ n := by rw [pk_sub hcn] at c_4; have := nle_of_lt (by omega) c_4 hlo; omega
          have hn := (show n < 2 ^ 31 by omega)
          refine lv_aload_n hx hb d_Dk_zero_28 rfl (lv_at hl 0 rfl) ?_
          refine va_get (D := (dC, dI)) (ci := 0) (v := .ref h1) (C := R_Dk) (T := F_Dk) (N := 3) hx hb hts i_Dk hown hK hP 0 rfl rfl 1 (by decide) (hts _ (k_Dk_6)) (fun _ h9 => h9) rfl d_Dk_zero_29 ?_
          refine lv_iload_n hx hb d_Dk_zero_32 rfl (lv_at hl 1 rfl) ?_
          refine lv_iload_n hx hb d_Dk_zero_33 rfl (lv_at hl 1 rfl) ?_
          refine lv_iload_n hx hb d_Dk_zero_34 rfl (lv_at hl 2 rfl) ?_
          refine lv_iadd hx hb d_Dk_zero_35 ?_
          rw [nI_add]
          refine lv_iconst (v := 0) hx hb d_Dk_zero_36 (by decide) ?_
          have hPc := hP.sub (ws' := [(h1, .inl (cB, n, .inl f))]) [1] rfl
          have hDc := hD.sub (ws' := [(h1, .inl (cB, n, .inl f))]) [1] (by decide) rfl
          have hKc := hK.sub (tys' := [(cB, .byte)]) [0] rfl
          have hFc := va_free (wc := [(h1, .inl (cB, n, .inl f))]) hD hS hA [1] rfl
          refine va_callv (va_runS (As := [.ref h1, .int (nI lo), .int (nI (lo + cc)), .int 0]) (rest := []) ⟨hx, hb, hml, hown, hts⟩ (c_Ar_fillBR l dC dI h1 s.heap.size cB n f hn lo (lo + cc) (Nat.le_add_right _ _) hz 0) (va_cwS 4 hts (gwS good_Dk (k_Dk_26) (u_Dk_J _ k_J_24) (u_Dk_J _ k_J_2) (wcs (u_Dk_J _ k_J_25) u_Dk_J)) rfl rfl rfl (by decide +kernel) ⟨Nat.le_of_ble_eq_true rfl, Nat.le_of_ble_eq_true rfl⟩) (ps_of hPc hKc hDc) rfl rfl hl.1 rfl (lv_room (Nat.le_of_ble_eq_true rfl)) d_Dk_zero_37 ⟨by decide, by decide⟩) hS (fun q _ h => hFc q h) hFc (fun u t H1 locs ht hvm hw hB hz1 hk1 hS => ?_)
          subst hw
          obtain ⟨hP1, hK1, hD1⟩ := hB
          rw [ht] at hP1
          have hP1 : va_P (dC, dI) classes [(h1, .inl (cB, n, .inl (ar_fill f lo (lo + cc) (vp_nar .byte 0))))] H1 := hP1
          have hD1 : va_D _ [(h1, .inl (cB, n, .inl (ar_fill f lo (lo + cc) (vp_nar .byte 0))))] := hD1
          obtain ⟨hP, hD⟩ := va_join (wr := [(h0, .inr (0, [.int sec, .ref h1, .int pw]))]) (w1 := [(h1, .inl (cB, n, .inl (ar_fill f lo (lo + cc) (vp_nar .byte 0))))]) hP hD [1] [0] rfl rfl (by decide) (by decide) hk1 hFc hP1 hD1
          generalize H1 = H at hP hS ⊢
          have hP : va_P (dC, dI) classes [(h0, .inr (0, [.int sec, .ref h1, .int pw])), (h1, .inl (cB, n, .inl (ar_fill f lo (lo + cc) (vp_nar .byte 0))))] H := hP
          have hD : va_D A [(h0, .inr (0, [.int sec, .ref h1, .int pw])), (h1, .inl (cB, n, .inl (ar_fill f lo (lo + cc) (vp_nar .byte 0))))] := hD
          exact W.vret hx hb hr (fun t ht hW => ⟨⟨(pw, ar_fill f lo (lo + cc) (vp_nar .byte 0)), rfl, by rw [dk_zero, if_neg c_1, if_neg c_2, if_neg c_3, if_neg c_4, nI_add, nI_clamp hlo, nI_clamp (by omega)]; rfl, by rw [ht]; exact hP, va_K.moved hW.alike hK, hD⟩, hS.F ht⟩) hS.2.2 d_Dk_zero_40
