def tp_app (tb tr : Nat → Int32) (us n : Int32) : Int32 × ((Nat → Int32) × (Nat → Int32) × Int32) := if n < 0 then (-1, (tb, tr, us)) else if 20 < n then (-1, (tb, tr, us)) else if us + n ≤ 4096 then (us + n, (va_cpy tr tb (0 : Int32).toNatClampNeg us.toNatClampNeg n.toNatClampNeg, ar_fill tr 0 20 (vp_nar .byte 0), us + n)) else (-1, (tb, tr, us))
set_option maxHeartbeats 4000000 in
set_option maxRecDepth 100000 in
/-- append: the first n of the bytes that are ready come to the tape -/
theorem c_Tp_append (l : Launch) (dC : Nat → ClassId) (dI : Nat → Nat → Nat) (t0 t1 t2 sz : Nat) (c1 c2 : ClassId) (tb tr : Nat → Int32) (un : Nat) (hun : un ≤ 4096) (hft : sb_Fit tr) (p1 : Int32) : Met l y_Tp_append (.code y_Tp_append b_Tp_append 2 (some .int) :: V_Tp) ({ frames := 1, cells := 0, slots := 0, locals := 25 }) (va_Pc [.ref t0, .int p1] (fun U => U.heap.size = sz ∧ at_ (dC, dI) (fun _ => True) [(t0, .inr (3, [.ref t1, .ref t2, .int (nI un)])), (t1, .inl (c1, 4096, .inl tb)), (t2, .inl (c2, 20, .inl tr))] [(c1, .byte), (c2, .byte)] U)) (va_Qi (fun (r : Int32) (u : (Nat → Int32) × (Nat → Int32) × Int32) => (r, u) = tp_app tb tr (nI un) p1) (fun (u : (Nat → Int32) × (Nat → Int32) × Int32) t => at_ (dC, dI) (va_A [(t0, .inr (3, [.ref t1, .ref t2, .int (nI un)])), (t1, .inl (c1, 4096, .inl tb)), (t2, .inl (c2, 20, .inl tr))] sz) (wTp t0 t1 t2 c1 c2 u) [(c1, .byte), (c2, .byte)] t) (va_A [(t0, .inr (3, [.ref t1, .ref t2, .int (nI un)])), (t1, .inl (c1, 4096, .inl tb)), (t2, .inl (c2, 20, .inl tr))] sz)) 0 0 (va_A [(t0, .inr (3, [.ref t1, .ref t2, .int (nI un)])), (t1, .inl (c1, 4096, .inl tb)), (t2, .inl (c2, 20, .inl tr))] sz) := by
  refine Met.ofW (cc := b_Tp_append) (maxL := 2) (ret := (some .int)) (by decide) rfl ?_
  intro p e s m args below meth c s₁ B hml hv
  obtain ⟨rfl, hsz, hP, hK, hD0⟩ := hv
  have hx := B.exec
  have hb := B.bytes
  have hr := B.returns
  have hts0 := atoms_spec (ws := .code y_Tp_append b_Tp_append 2 (some .int) :: V_Tp) B.pre
  have hts : ∀ w ∈ V_Tp, w.before ([.ref t0, .int p1] : List Value).toArray s = true := fun w h => hts0 w (List.mem_cons_of_mem _ h)
  have hown : s.vm.findClass R_Tp = some m.cls := findClass_of_methodNamed B.named
  have hlocks := B.notSynchronized
  subst hsz
  have hD := hD0.self (sz := s.heap.size)
  generalize hAe : va_A [(t0, .inr (3, [.ref t1, .ref t2, .int (nI un)])), (t1, .inl (c1, 4096, .inl tb)), (t2, .inl (c2, 20, .inl tr))] s.heap.size = A at hD ⊢
  have hA : ∀ q : Nat, s.heap.size ≤ q → A q := fun q h => by rw [← hAe]; exact Or.inr h
  have hS : va_S A s.heap s.heap [] := va_S.rf
  have hP : va_P (dC, dI) classes [(t0, .inr (3, [.ref t1, .ref t2, .int (nI un)])), (t1, .inl (c1, 4096, .inl tb)), (t2, .inl (c2, 20, .inl tr))] s.heap := hP
  have hK : va_K (dC, dI) classes [(c1, .byte), (c2, .byte)] s := hK
  have hl := lv_entry ([.ref t0, .int p1]) (n := 2) (Nat.le_of_ble_eq_true rfl)
  rw [lg_entry_eq]
  generalize (lg_sl ([.ref t0, .int p1]) ++ List.replicate (2 - (lg_sl ([.ref t0, .int p1])).length) Slot.unset).toArray = ls at hl ⊢
  have hl : lv_has ls 2 [(0, .ref t0), (1, .int p1)] := hl
  refine lv_iload_n hx hb d_Tp_append_0 rfl (lv_at hl 1 rfl) ?_
  refine lv_if_lt (tgt := 22) hx hb d_Tp_append_1 (by decide) (fun c_1 => ?_) (fun c_1 => ?_)
  · refine lv_iconst (v := (-1)) hx hb d_Tp_append_22 (by decide) ?_
    exact W.iret (v := ((-1))) hx hb hr (fun t ht hW => ⟨⟨((-1)), (tb, tr, (nI un)), rfl, by rw [tp_app, if_pos c_1], by rw [ht]; exact hP, va_K.moved hW.alike hK, hD⟩, hS.F ht⟩) hS.2.2 d_Tp_append_23
  · refine lv_iload_n hx hb d_Tp_append_4 rfl (lv_at hl 1 rfl) ?_
    refine lv_bipush (v := 20) hx hb d_Tp_append_5 (by decide) ?_
    refine lv_icmp_gt (tgt := 22) hx hb d_Tp_append_7 (by decide) (fun c_2 => ?_) (fun c_2 => ?_)
    · refine lv_iconst (v := (-1)) hx hb d_Tp_append_22 (by decide) ?_
      exact W.iret (v := ((-1))) hx hb hr (fun t ht hW => ⟨⟨((-1)), (tb, tr, (nI un)), rfl, by rw [tp_app, if_neg c_1, if_pos c_2], by rw [ht]; exact hP, va_K.moved hW.alike hK, hD⟩, hS.F ht⟩) hS.2.2 d_Tp_append_23
    · refine lv_aload_n hx hb d_Tp_append_10 rfl (lv_at hl 0 rfl) ?_
      refine va_get (D := (dC, dI)) (ci := 3) (v := .int (nI un)) (C := R_Tp) (T := F_Tp) (N := 3) hx hb hts i_Tp hown hK hP 0 rfl rfl 2 (by decide) (hts _ (k_Tp_7)) (fun _ h9 => h9) rfl d_Tp_append_11 ?_
      refine lv_iload_n hx hb d_Tp_append_14 rfl (lv_at hl 1 rfl) ?_
      refine lv_iadd hx hb d_Tp_append_15 ?_
      refine lv_sipush (v := 4096) hx hb d_Tp_append_16 (by decide) ?_
      refine lv_icmp_le (tgt := 24) hx hb d_Tp_append_19 (by decide) (fun c_3 => ?_) (fun c_3 => ?_)
      · obtain ⟨k, hk, rfl⟩ := nI_of c_1
        have hk20 : k ≤ 20 := nle_of_lt (a := 20) (by decide) c_2 hk
        have hu2 : un + k ≤ 4096 := by have q := c_3; rw [nI_add] at q; exact (nI_leI (b := 4096) (by omega) (by decide)).mp q
        refine lv_aload_n hx hb d_Tp_append_24 rfl (lv_at hl 0 rfl) ?_
        refine va_get (D := (dC, dI)) (ci := 3) (v := .ref t2) (C := R_Tp) (T := F_Tp) (N := 3) hx hb hts i_Tp hown hK hP 0 rfl rfl 1 (by decide) (hts _ (k_Tp_6)) (fun _ h9 => h9) rfl d_Tp_append_25 ?_
        refine lv_iconst (v := 0) hx hb d_Tp_append_28 (by decide) ?_
        refine lv_aload_n hx hb d_Tp_append_29 rfl (lv_at hl 0 rfl) ?_
        refine va_get (D := (dC, dI)) (ci := 3) (v := .ref t1) (C := R_Tp) (T := F_Tp) (N := 3) hx hb hts i_Tp hown hK hP 0 rfl rfl 0 (by decide) (hts _ (k_Tp_5)) (fun _ h9 => h9) rfl d_Tp_append_30 ?_
        refine lv_aload_n hx hb d_Tp_append_33 rfl (lv_at hl 0 rfl) ?_
        refine va_get (D := (dC, dI)) (ci := 3) (v := .int (nI un)) (C := R_Tp) (T := F_Tp) (N := 3) hx hb hts i_Tp hown hK hP 0 rfl rfl 2 (by decide) (hts _ (k_Tp_7)) (fun _ h9 => h9) rfl d_Tp_append_34 ?_
        refine lv_iload_n hx hb d_Tp_append_37 rfl (lv_at hl 1 rfl) ?_
        refine va_copyi (ty := .byte) hx hb (by rw [hml]; exact hl.1.symm) hown (hts _ (k_Tp_14)) (hts _ (u_Tp_J _ k_J_13)) (hts _ (u_Tp_J _ k_J_12)) (hts _ (u_Tp_J _ k_J_1)) hK hP hD hS 2 1 1 0 rfl rfl rfl rfl rfl (by decide) (nI_pos (by omega)) (nI_pos hk) (by rw [nI_clamp hk]; exact (by show 0 + k ≤ 20; omega)) (by rw [nI_clamp hk, nI_clamp (by omega)]; exact hu2) (fun i _ => hft _) (Nat.le_of_ble_eq_true rfl) (Nat.le_of_ble_eq_true rfl) d_Tp_append_38 (fun H locs hP hD hS => ?_)
        have hP : va_P (dC, dI) classes [(t0, .inr (3, [.ref t1, .ref t2, .int (nI un)])), (t1, .inl (c1, 4096, .inl (va_cpy tr tb (0 : Int32).toNatClampNeg (nI un).toNatClampNeg (nI k).toNatClampNeg))), (t2, .inl (c2, 20, .inl tr))] H := hP
        have hD : va_D A [(t0, .inr (3, [.ref t1, .ref t2, .int (nI un)])), (t1, .inl (c1, 4096, .inl (va_cpy tr tb (0 : Int32).toNatClampNeg (nI un).toNatClampNeg (nI k).toNatClampNeg))), (t2, .inl (c2, 20, .inl tr))] := hD
        refine lv_aload_n hx hb d_Tp_append_41 rfl (lv_at hl 0 rfl) ?_
        refine va_get (D := (dC, dI)) (ci := 3) (v := .ref t2) (C := R_Tp) (T := F_Tp) (N := 3) hx hb hts i_Tp hown hK hP 0 rfl rfl 1 (by decide) (hts _ (k_Tp_6)) (fun _ h9 => h9) rfl d_Tp_append_42 ?_
        refine lv_iconst (v := 0) hx hb d_Tp_append_45 (by decide) ?_
        have hPc := hP.sub (ws' := [(t2, .inl (c2, 20, .inl tr))]) [2] rfl
        have hDc := hD.sub (ws' := [(t2, .inl (c2, 20, .inl tr))]) [2] (by decide) rfl
        have hKc := hK.sub (tys' := [(c2, .byte)]) [1] rfl
        have hFc := va_free (wc := [(t2, .inl (c2, 20, .inl tr))]) hD hS hA [2] rfl
        refine va_callv (va_runS (As := [.ref t2, .int 0]) (rest := []) ⟨hx, hb, hml, hown, hts⟩ (c_Ar_fillB l dC dI t2 H.size c2 20 tr (by decide) 0) (va_cwS 2 hts (gwS good_Tp (k_Tp_15) (u_Tp_J _ k_J_14) (u_Tp_J _ k_J_2) (wcs (u_Tp_J _ k_J_15) u_Tp_J)) rfl rfl rfl (by decide +kernel) ⟨Nat.le_of_ble_eq_true rfl, Nat.le_of_ble_eq_true rfl⟩) (ps_of hPc hKc hDc) rfl rfl hl.1 rfl (lv_room (Nat.le_of_ble_eq_true rfl)) d_Tp_append_46 ⟨by decide, by decide⟩) hS (fun q _ h => hFc q h) hFc (fun u t H1 locs ht hvm hw hB hz1 hk1 hS => ?_)
        subst hw
        obtain ⟨hP1, hK1, hD1⟩ := hB
        rw [ht] at hP1
        have hP1 : va_P (dC, dI) classes [(t2, .inl (c2, 20, .inl (ar_fill tr 0 20 (vp_nar .byte 0))))] H1 := hP1
        have hD1 : va_D _ [(t2, .inl (c2, 20, .inl (ar_fill tr 0 20 (vp_nar .byte 0))))] := hD1
        obtain ⟨hP, hD⟩ := va_join (wr := [(t0, .inr (3, [.ref t1, .ref t2, .int (nI un)])), (t1, .inl (c1, 4096, .inl (va_cpy tr tb (0 : Int32).toNatClampNeg (nI un).toNatClampNeg (nI k).toNatClampNeg)))]) (w1 := [(t2, .inl (c2, 20, .inl (ar_fill tr 0 20 (vp_nar .byte 0))))]) hP hD [2] [0, 1] rfl rfl (by decide) (by decide) hk1 hFc hP1 hD1
        generalize H1 = H at hP hS ⊢
        have hP : va_P (dC, dI) classes [(t0, .inr (3, [.ref t1, .ref t2, .int (nI un)])), (t1, .inl (c1, 4096, .inl (va_cpy tr tb (0 : Int32).toNatClampNeg (nI un).toNatClampNeg (nI k).toNatClampNeg))), (t2, .inl (c2, 20, .inl (ar_fill tr 0 20 (vp_nar .byte 0))))] H := hP
        have hD : va_D A [(t0, .inr (3, [.ref t1, .ref t2, .int (nI un)])), (t1, .inl (c1, 4096, .inl (va_cpy tr tb (0 : Int32).toNatClampNeg (nI un).toNatClampNeg (nI k).toNatClampNeg))), (t2, .inl (c2, 20, .inl (ar_fill tr 0 20 (vp_nar .byte 0))))] := hD
        refine lv_aload_n hx hb d_Tp_append_49 rfl (lv_at hl 0 rfl) ?_
        refine lv_dup hx hb d_Tp_append_50 rfl ?_
        refine va_get (D := (dC, dI)) (ci := 3) (v := .int (nI un)) (C := R_Tp) (T := F_Tp) (N := 3) hx hb hts i_Tp hown hK hP 0 rfl rfl 2 (by decide) (hts _ (k_Tp_7)) (fun _ h9 => h9) rfl d_Tp_append_51 ?_
        refine lv_iload_n hx hb d_Tp_append_54 rfl (lv_at hl 1 rfl) ?_
        refine lv_iadd hx hb d_Tp_append_55 ?_
        refine lv_topi (fun x_5 ex_5 => ?_)
        refine va_put (D := (dC, dI)) (ci := 3) (v := .int x_5) (ty := .int) (C := R_Tp) (T := F_Tp) (N := 3) hx hb hts i_Tp t_Tp t_Tp_ok n_Tp hown hK hP hD hS 0 rfl rfl 2 (by decide) (hts _ (k_Tp_7)) (fun _ h9 => h9) rfl (by decide +kernel) rfl rfl (Nat.le_of_ble_eq_true rfl) d_Tp_append_56 (fun H locs hP hD hS => ?_)
        have hP : va_P (dC, dI) classes [(t0, .inr (3, [.ref t1, .ref t2, .int x_5])), (t1, .inl (c1, 4096, .inl (va_cpy tr tb (0 : Int32).toNatClampNeg (nI un).toNatClampNeg (nI k).toNatClampNeg))), (t2, .inl (c2, 20, .inl (ar_fill tr 0 20 (vp_nar .byte 0))))] H := hP
        have hD : va_D A [(t0, .inr (3, [.ref t1, .ref t2, .int x_5])), (t1, .inl (c1, 4096, .inl (va_cpy tr tb (0 : Int32).toNatClampNeg (nI un).toNatClampNeg (nI k).toNatClampNeg))), (t2, .inl (c2, 20, .inl (ar_fill tr 0 20 (vp_nar .byte 0))))] := hD
        refine lv_aload_n hx hb d_Tp_append_59 rfl (lv_at hl 0 rfl) ?_
        refine va_get (D := (dC, dI)) (ci := 3) (v := .int x_5) (C := R_Tp) (T := F_Tp) (N := 3) hx hb hts i_Tp hown hK hP 0 rfl rfl 2 (by decide) (hts _ (k_Tp_7)) (fun _ h9 => h9) rfl d_Tp_append_60 ?_
        exact W.iret (v := x_5) hx hb hr (fun t ht hW => ⟨⟨x_5, (va_cpy tr tb (0 : Int32).toNatClampNeg (nI un).toNatClampNeg (nI k).toNatClampNeg, ar_fill tr 0 20 (vp_nar .byte 0), x_5), rfl, by rw [tp_app, if_neg c_1, if_neg c_2, if_pos c_3, ex_5], by rw [ht]; exact hP, va_K.moved hW.alike hK, hD⟩, hS.F ht⟩) hS.2.2 d_Tp_append_63
      · refine lv_iconst (v := (-1)) hx hb d_Tp_append_22 (by decide) ?_
        exact W.iret (v := ((-1))) hx hb hr (fun t ht hW => ⟨⟨((-1)), (tb, tr, (nI un)), rfl, by rw [tp_app, if_neg c_1, if_neg c_2, if_neg c_3], by rw [ht]; exact hP, va_K.moved hW.alike hK, hD⟩, hS.F ht⟩) hS.2.2 d_Tp_append_23
