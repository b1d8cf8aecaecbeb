def tb_link (n : Nat) (f : Nat → Int32) (nl : Nat) (nx : Nat → Int32) (ks be co le p1 p2 : Int32) : (Nat → Int32) × (Nat → Int32) := if p1 < 0 then ((nx, f)) else if (ks + 2) ≤ p1 then ((nx, f)) else if p1 < (nI nl) then if co ≤ 0 then ((upd nx p1.toNatClampNeg p2, f)) else if co ≤ 1 then ((upd nx p1.toNatClampNeg p2, (dk_put4 n f (((be + (0 * le)) * 512) + (4 * p1)) (((dk_four n f (((be + (0 * le)) * 512) + (4 * p1))) &&& ((-268435456))) ||| p2)))) else ((upd nx p1.toNatClampNeg p2, (dk_put4 n (dk_put4 n f (((be + (0 * le)) * 512) + (4 * p1)) (((dk_four n f (((be + (0 * le)) * 512) + (4 * p1))) &&& ((-268435456))) ||| p2)) (((be + (1 * le)) * 512) + (4 * p1)) (((dk_four n (dk_put4 n f (((be + (0 * le)) * 512) + (4 * p1)) (((dk_four n f (((be + (0 * le)) * 512) + (4 * p1))) &&& ((-268435456))) ||| p2)) (((be + (1 * le)) * 512) + (4 * p1))) &&& ((-268435456))) ||| p2)))) else ((nx, f))
set_option maxHeartbeats 4000000 in
set_option maxRecDepth 100000 in
theorem c_Tb_link (l : Launch) (dC : Nat → ClassId) (dI : Nat → Nat → Nat) (b0 b1 b2 h0 sz : Nat) (cl be co le ro sa ks : Int32) (c1 : ClassId) (nl : Nat) (nx : Nat → Int32) (hnl : nl < 2 ^ 31) (h1 : Nat) (cB : ClassId) (sec pw : Int32) (n : Nat) (f : Nat → Int32) (h4 : 4 ≤ n) (hn : n < 2 ^ 31) (hco : co ≤ 2) (p1 p2 : Int32) : Met l y_Tb_link (.code y_Tb_link b_Tb_link 5 none :: V_Tb) ({ frames := 1, cells := 0, slots := 0, locals := 22 }) (va_Pc [.ref b0, .int p1, .int p2] (fun U => U.heap.size = sz ∧ at_ (dC, dI) (fun _ => True) [(b0, .inr (4, [.ref h0, .int cl, .int be, .int co, .int le, .int ro, .int sa, .int ks, .ref b1, .ref b2])), (b1, .inl (c1, nl, .inl nx)), (h0, .inr (0, [.int sec, .ref h1, .int pw])), (h1, .inl (cB, n, .inl f))] [(c1, .int), (cB, .byte)] U)) (va_Qv (fun u : (Nat → Int32) × (Nat → Int32) => u = tb_link n f nl nx ks be co le p1 p2) (fun (u : (Nat → Int32) × (Nat → Int32)) t => at_ (dC, dI) (va_A [(b0, .inr (4, [.ref h0, .int cl, .int be, .int co, .int le, .int ro, .int sa, .int ks, .ref b1, .ref b2])), (b1, .inl (c1, nl, .inl nx)), (h0, .inr (0, [.int sec, .ref h1, .int pw])), (h1, .inl (cB, n, .inl f))] sz) [(b0, .inr (4, [.ref h0, .int cl, .int be, .int co, .int le, .int ro, .int sa, .int ks, .ref b1, .ref b2])), (b1, .inl (c1, nl, .inl u.1)), (h0, .inr (0, [.int sec, .ref h1, .int pw])), (h1, .inl (cB, n, .inl u.2))] [(c1, .int), (cB, .byte)] t) (va_A [(b0, .inr (4, [.ref h0, .int cl, .int be, .int co, .int le, .int ro, .int sa, .int ks, .ref b1, .ref b2])), (b1, .inl (c1, nl, .inl nx)), (h0, .inr (0, [.int sec, .ref h1, .int pw])), (h1, .inl (cB, n, .inl f))] sz)) 0 0 (va_A [(b0, .inr (4, [.ref h0, .int cl, .int be, .int co, .int le, .int ro, .int sa, .int ks, .ref b1, .ref b2])), (b1, .inl (c1, nl, .inl nx)), (h0, .inr (0, [.int sec, .ref h1, .int pw])), (h1, .inl (cB, n, .inl f))] sz) := by
  refine Met.ofW (cc := b_Tb_link) (maxL := 5) (ret := none) (by decide) rfl ?_
  intro p e s m args below meth c s₁ B hml hv
  obtain ⟨rfl, hsz, hP, hK, hD0⟩ := hv
  have hx := B.exec
  have hb := B.bytes
  have hr := B.returns
  have hts0 := atoms_spec (ws := .code y_Tb_link b_Tb_link 5 none :: V_Tb) B.pre
  have hts : ∀ w ∈ V_Tb, w.before ([.ref b0, .int p1, .int p2] : List Value).toArray s = true := fun w h => hts0 w (List.mem_cons_of_mem _ h)
  have hown : s.vm.findClass R_Tb = some m.cls := findClass_of_methodNamed B.named
  have hlocks := B.notSynchronized
  subst hsz
  have hD := hD0.self (sz := s.heap.size)
  generalize hAe : va_A [(b0, .inr (4, [.ref h0, .int cl, .int be, .int co, .int le, .int ro, .int sa, .int ks, .ref b1, .ref b2])), (b1, .inl (c1, nl, .inl nx)), (h0, .inr (0, [.int sec, .ref h1, .int pw])), (h1, .inl (cB, n, .inl f))] s.heap.size = A at hD ⊢
  have hA : ∀ q : Nat, s.heap.size ≤ q → A q := fun q h => by rw [← hAe]; exact Or.inr h
  have hS : va_S A s.heap s.heap [] := va_S.rf
  have hP : va_P (dC, dI) classes [(b0, .inr (4, [.ref h0, .int cl, .int be, .int co, .int le, .int ro, .int sa, .int ks, .ref b1, .ref b2])), (b1, .inl (c1, nl, .inl nx)), (h0, .inr (0, [.int sec, .ref h1, .int pw])), (h1, .inl (cB, n, .inl f))] s.heap := hP
  have hK : va_K (dC, dI) classes [(c1, .int), (cB, .byte)] s := hK
  have hl := lv_entry ([.ref b0, .int p1, .int p2]) (n := 5) (Nat.le_of_ble_eq_true rfl)
  rw [lg_entry_eq]
  generalize (lg_sl ([.ref b0, .int p1, .int p2]) ++ List.replicate (5 - (lg_sl ([.ref b0, .int p1, .int p2])).length) Slot.unset).toArray = ls at hl ⊢
  have hl : lv_has ls 5 [(0, .ref b0), (1, .int p1), (2, .int p2)] := hl
  refine lv_iload_n hx hb d_Tb_link_0 rfl (lv_at hl 1 rfl) ?_
  refine lv_if_lt (tgt := 23) hx hb d_Tb_link_1 (by decide) (fun c_1 => ?_) (fun c_1 => ?_)
  · exact W.vret hx hb hr (fun t ht hW => ⟨⟨(nx, f), rfl, by rw [tb_link]; try rw [if_pos c_1]; try rfl, by rw [ht]; exact hP, va_K.moved hW.alike hK, hD⟩, hS.F ht⟩) hS.2.2 d_Tb_link_23
  · refine lv_iload_n hx hb d_Tb_link_4 rfl (lv_at hl 1 rfl) ?_
    refine lv_aload_n hx hb d_Tb_link_5 rfl (lv_at hl 0 rfl) ?_
    refine va_get (D := (dC, dI)) (ci := 4) (v := .int ks) (C := R_Tb) (T := F_Tb) (N := 10) hx hb hts i_Tb hown hK hP 0 rfl rfl 7 (by decide) (hts _ (k_Tb_13)) (fun _ h9 => h9) rfl d_Tb_link_6 ?_
    refine lv_iconst (v := 2) hx hb d_Tb_link_9 (by decide) ?_
    refine lv_iadd hx hb d_Tb_link_10 ?_
    refine lv_icmp_ge (tgt := 23) hx hb d_Tb_link_11 (by decide) (fun c_2 => ?_) (fun c_2 => ?_)
    · exact W.vret hx hb hr (fun t ht hW => ⟨⟨(nx, f), rfl, by rw [tb_link]; try rw [if_neg c_1]; try rw [if_pos c_2]; try rfl, by rw [ht]; exact hP, va_K.moved hW.alike hK, hD⟩, hS.F ht⟩) hS.2.2 d_Tb_link_23
    · refine lv_iload_n hx hb d_Tb_link_14 rfl (lv_at hl 1 rfl) ?_
      refine lv_aload_n hx hb d_Tb_link_15 rfl (lv_at hl 0 rfl) ?_
      refine va_get (D := (dC, dI)) (ci := 4) (v := .ref b1) (C := R_Tb) (T := F_Tb) (N := 10) hx hb hts i_Tb hown hK hP 0 rfl rfl 8 (by decide) (hts _ (k_Tb_14)) (fun _ h9 => h9) rfl d_Tb_link_16 ?_
      refine va_alen (v := nI nl) hx hb hK hP 1 0 rfl rfl rfl d_Tb_link_19 ?_
      refine lv_icmp_lt (tgt := 24) hx hb d_Tb_link_20 (by decide) (fun c_3 => ?_) (fun c_3 => ?_)
      · have c_3n : ¬ nI nl ≤ p1 := fun h => absurd c_3 (Int32.not_lt.mpr h)
        refine lv_aload_n hx hb d_Tb_link_24 rfl (lv_at hl 0 rfl) ?_
        refine va_get (D := (dC, dI)) (ci := 4) (v := .ref b1) (C := R_Tb) (T := F_Tb) (N := 10) hx hb hts i_Tb hown hK hP 0 rfl rfl 8 (by decide) (hts _ (k_Tb_14)) (fun _ h9 => h9) rfl d_Tb_link_25 ?_
        refine lv_iload_n hx hb d_Tb_link_28 rfl (lv_at hl 1 rfl) ?_
        refine lv_iload_n hx hb d_Tb_link_29 rfl (lv_at hl 2 rfl) ?_
        refine va_iast hx hb hK hP hD hS 1 0 rfl rfl (in_of c_1 c_3n hnl) d_Tb_link_30 (fun H locs hP hD hS => ?_)
        have hP : va_P (dC, dI) classes [(b0, .inr (4, [.ref h0, .int cl, .int be, .int co, .int le, .int ro, .int sa, .int ks, .ref b1, .ref b2])), (b1, .inl (c1, nl, .inl (upd nx p1.toNatClampNeg p2))), (h0, .inr (0, [.int sec, .ref h1, .int pw])), (h1, .inl (cB, n, .inl f))] H := hP
        have hD : va_D A [(b0, .inr (4, [.ref h0, .int cl, .int be, .int co, .int le, .int ro, .int sa, .int ks, .ref b1, .ref b2])), (b1, .inl (c1, nl, .inl (upd nx p1.toNatClampNeg p2))), (h0, .inr (0, [.int sec, .ref h1, .int pw])), (h1, .inl (cB, n, .inl f))] := hD
        refine lv_iconst (v := 0) hx hb d_Tb_link_31 (by decide) ?_
        refine lv_istore_n (lv' := [(3, .int 0), (0, .ref b0), (1, .int p1), (2, .int p2)]) hx hb d_Tb_link_32 rfl hl (by decide) rfl (fun ls hl => ?_)
        refine lv_iload_n hx hb d_Tb_link_33 rfl (lv_at hl 0 rfl) ?_
        refine lv_aload_n hx hb d_Tb_link_34 rfl (lv_at hl 1 rfl) ?_
        refine va_get (D := (dC, dI)) (ci := 4) (v := .int co) (C := R_Tb) (T := F_Tb) (N := 10) hx hb hts i_Tb hown hK hP 0 rfl rfl 3 (by decide) (hts _ (k_Tb_9)) (fun _ h9 => h9) rfl d_Tb_link_35 ?_
        refine lv_icmp_ge (tgt := 91) hx hb d_Tb_link_38 (by decide) (fun c_4 => ?_) (fun c_4 => ?_)
        · exact W.vret hx hb hr (fun t ht hW => ⟨⟨(upd nx p1.toNatClampNeg p2, f), rfl, by rw [tb_link]; try rw [if_neg c_1]; try rw [if_neg c_2]; try rw [if_pos c_3]; try rw [if_pos c_4]; try rfl, by rw [ht]; exact hP, va_K.moved hW.alike hK, hD⟩, hS.F ht⟩) hS.2.2 d_Tb_link_91
        · refine lv_aload_n hx hb d_Tb_link_41 rfl (lv_at hl 1 rfl) ?_
          refine va_get (D := (dC, dI)) (ci := 4) (v := .int be) (C := R_Tb) (T := F_Tb) (N := 10) hx hb hts i_Tb hown hK hP 0 rfl rfl 2 (by decide) (hts _ (k_Tb_8)) (fun _ h9 => h9) rfl d_Tb_link_42 ?_
          refine lv_iload_n hx hb d_Tb_link_45 rfl (lv_at hl 0 rfl) ?_
          refine lv_aload_n hx hb d_Tb_link_46 rfl (lv_at hl 1 rfl) ?_
          refine va_get (D := (dC, dI)) (ci := 4) (v := .int le) (C := R_Tb) (T := F_Tb) (N := 10) hx hb hts i_Tb hown hK hP 0 rfl rfl 4 (by decide) (hts _ (k_Tb_10)) (fun _ h9 => h9) rfl d_Tb_link_47 ?_
          refine lv_imul hx hb d_Tb_link_50 ?_
          refine lv_iadd hx hb d_Tb_link_51 ?_
          refine lv_sipush (v := 512) hx hb d_Tb_link_52 (by decide) ?_
          refine lv_imul hx hb d_Tb_link_55 ?_
          refine lv_iconst (v := 4) hx hb d_Tb_link_56 (by decide) ?_
          refine lv_iload_n hx hb d_Tb_link_57 rfl (lv_at hl 2 rfl) ?_
          refine lv_imul hx hb d_Tb_link_58 ?_
          refine lv_iadd hx hb d_Tb_link_59 ?_
          refine lv_topi (fun x_5 ex_5 => ?_)
          refine lv_istore (lv' := [(4, .int x_5), (3, .int 0), (0, .ref b0), (1, .int p1), (2, .int p2)]) hx hb d_Tb_link_60 hl (by decide) rfl (fun ls hl => ?_)
          refine lv_aload_n hx hb d_Tb_link_62 rfl (lv_at hl 2 rfl) ?_
          refine va_get (D := (dC, dI)) (ci := 4) (v := .ref h0) (C := R_Tb) (T := F_Tb) (N := 10) hx hb hts i_Tb hown hK hP 0 rfl rfl 0 (by decide) (hts _ (k_Tb_6)) (fun _ h9 => h9) rfl d_Tb_link_63 ?_
          refine lv_iload hx hb d_Tb_link_66 (lv_at hl 0 rfl) ?_
          refine lv_aload_n hx hb d_Tb_link_68 rfl (lv_at hl 2 rfl) ?_
          refine va_get (D := (dC, dI)) (ci := 4) (v := .ref h0) (C := R_Tb) (T := F_Tb) (N := 10) hx hb hts i_Tb hown hK hP 0 rfl rfl 0 (by decide) (hts _ (k_Tb_6)) (fun _ h9 => h9) rfl d_Tb_link_69 ?_
          refine lv_iload hx hb d_Tb_link_72 (lv_at hl 0 rfl) ?_
          have hPc := hP.sub (ws' := [(h0, .inr (0, [.int sec, .ref h1, .int pw])), (h1, .inl (cB, n, .inl f))]) [2, 3] rfl
          have hDc := hD.sub (ws' := [(h0, .inr (0, [.int sec, .ref h1, .int pw])), (h1, .inl (cB, n, .inl f))]) [2, 3] (by decide) rfl
          have hKc := hK.sub (tys' := [(cB, .byte)]) [1] rfl
          have hFc := va_free (wc := [(h0, .inr (0, [.int sec, .ref h1, .int pw])), (h1, .inl (cB, n, .inl f))]) hD hS hA [2, 3] rfl
          refine va_calli (va_runV (As := [.int x_5]) (rest := [.int x_5, .ref h0]) ⟨hx, hb, hml, hown, hts⟩ (c_Dk_four l dC dI h0 h1 H.size cB sec pw n f h4 hn x_5) (cwV 1 hts (gwV good_Tb (k_Tb_24) (u_Tb_Dk _ k_Dk_14) (u_Tb_Dk _ k_Dk_15) (u_Tb_Dk _ k_Dk_0) (wcs (u_Tb_Dk _ k_Dk_16) u_Tb_Dk)) rfl rfl rfl (by decide +kernel) ⟨Nat.le_of_ble_eq_true rfl, Nat.le_of_ble_eq_true rfl⟩) (pv_of hPc hKc hDc (va_recv hKc hPc (ci := 0) (q0 := 0) rfl rfl)) rfl rfl hl.1 rfl (lv_room (Nat.le_of_ble_eq_true rfl)) d_Tb_link_74 ⟨by decide, by decide⟩) hS (fun q _ h => hFc q h) hFc (fun r_6 u t H1 locs ht hvm hw hB hz1 hk1 hS => ?_)
          obtain ⟨er_6, rfl⟩ := hw
          obtain ⟨hP1, hK1, hD1⟩ := hB
          rw [ht] at hP1
          have hP1 : va_P (dC, dI) classes [(h0, .inr (0, [.int sec, .ref h1, .int pw])), (h1, .inl (cB, n, .inl f))] H1 := hP1
          have hD1 : va_D _ [(h0, .inr (0, [.int sec, .ref h1, .int pw])), (h1, .inl (cB, n, .inl f))] := hD1
          obtain ⟨hP, hD⟩ := va_join (wr := [(b0, .inr (4, [.ref h0, .int cl, .int be, .int co, .int le, .int ro, .int sa, .int ks, .ref b1, .ref b2])), (b1, .inl (c1, nl, .inl (upd nx p1.toNatClampNeg p2)))]) (w1 := [(h0, .inr (0, [.int sec, .ref h1, .int pw])), (h1, .inl (cB, n, .inl f))]) hP hD [2, 3] [0, 1] rfl rfl (by decide) (by decide) hk1 hFc hP1 hD1
          generalize H1 = H at hP hS ⊢
          have hP : va_P (dC, dI) classes [(b0, .inr (4, [.ref h0, .int cl, .int be, .int co, .int le, .int ro, .int sa, .int ks, .ref b1, .ref b2])), (b1, .inl (c1, nl, .inl (upd nx p1.toNatClampNeg p2))), (h0, .inr (0, [.int sec, .ref h1, .int pw])), (h1, .inl (cB, n, .inl f))] H := hP
          have hD : va_D A [(b0, .inr (4, [.ref h0, .int cl, .int be, .int co, .int le, .int ro, .int sa, .int ks, .ref b1, .ref b2])), (b1, .inl (c1, nl, .inl (upd nx p1.toNatClampNeg p2))), (h0, .inr (0, [.int sec, .ref h1, .int pw])), (h1, .inl (cB, n, .inl f))] := hD
          refine lv_ldc (v := (-268435456)) hx hb hown (hts _ (k_Tb_95)) d_Tb_link_77 ?_
          refine lv_iand hx hb d_Tb_link_79 ?_
          refine lv_iload_n hx hb d_Tb_link_80 rfl (lv_at hl 4 rfl) ?_
          refine lv_ior hx hb d_Tb_link_81 ?_
          have hPc := hP.sub (ws' := [(h0, .inr (0, [.int sec, .ref h1, .int pw])), (h1, .inl (cB, n, .inl f))]) [2, 3] rfl
          have hDc := hD.sub (ws' := [(h0, .inr (0, [.int sec, .ref h1, .int pw])), (h1, .inl (cB, n, .inl f))]) [2, 3] (by decide) rfl
          have hKc := hK.sub (tys' := [(cB, .byte)]) [1] rfl
          have hFc := va_free (wc := [(h0, .inr (0, [.int sec, .ref h1, .int pw])), (h1, .inl (cB, n, .inl f))]) hD hS hA [2, 3] rfl
          refine va_callv (va_runV (As := [.int x_5, .int ((r_6 &&& ((-268435456))) ||| p2)]) (rest := []) ⟨hx, hb, hml, hown, hts⟩ (c_Dk_putFour l dC dI h0 h1 H.size cB sec pw n f h4 hn x_5 ((r_6 &&& ((-268435456))) ||| p2)) (cwV 2 hts (gwV good_Tb (k_Tb_84) (u_Tb_Dk _ k_Dk_30) (u_Tb_Dk _ k_Dk_31) (u_Tb_Dk _ k_Dk_0) (wcs (u_Tb_Dk _ k_Dk_32) u_Tb_Dk)) rfl rfl rfl (by decide +kernel) ⟨Nat.le_of_ble_eq_true rfl, Nat.le_of_ble_eq_true rfl⟩) (pv_of hPc hKc hDc (va_recv hKc hPc (ci := 0) (q0 := 0) rfl rfl)) rfl rfl hl.1 rfl (lv_room (Nat.le_of_ble_eq_true rfl)) d_Tb_link_82 ⟨by decide, by decide⟩) hS (fun q _ h => hFc q h) hFc (fun u t H1 locs ht hvm hw hB hz1 hk1 hS => ?_)
          subst hw
          obtain ⟨hP1, hK1, hD1⟩ := hB
          rw [ht] at hP1
          obtain ⟨f_7, ef_7⟩ : ∃ g : Nat → Int32, g = dk_put4 n f x_5 ((r_6 &&& ((-268435456))) ||| p2) := ⟨_, rfl⟩
          rw [← ef_7] at hP1 hD1
          have hP1 : va_P (dC, dI) classes [(h0, .inr (0, [.int sec, .ref h1, .int pw])), (h1, .inl (cB, n, .inl f_7))] H1 := hP1
          have hD1 : va_D _ [(h0, .inr (0, [.int sec, .ref h1, .int pw])), (h1, .inl (cB, n, .inl f_7))] := hD1
          obtain ⟨hP, hD⟩ := va_join (wr := [(b0, .inr (4, [.ref h0, .int cl, .int be, .int co, .int le, .int ro, .int sa, .int ks, .ref b1, .ref b2])), (b1, .inl (c1, nl, .inl (upd nx p1.toNatClampNeg p2)))]) (w1 := [(h0, .inr (0, [.int sec, .ref h1, .int pw])), (h1, .inl (cB, n, .inl f_7))]) hP hD [2, 3] [0, 1] rfl rfl (by decide) (by decide) hk1 hFc hP1 hD1
          generalize H1 = H at hP hS ⊢
          have hP : va_P (dC, dI) classes [(b0, .inr (4, [.ref h0, .int cl, .int be, .int co, .int le, .int ro, .int sa, .int ks, .ref b1, .ref b2])), (b1, .inl (c1, nl, .inl (upd nx p1.toNatClampNeg p2))), (h0, .inr (0, [.int sec, .ref h1, .int pw])), (h1, .inl (cB, n, .inl f_7))] H := hP
          have hD : va_D A [(b0, .inr (4, [.ref h0, .int cl, .int be, .int co, .int le, .int ro, .int sa, .int ks, .ref b1, .ref b2])), (b1, .inl (c1, nl, .inl (upd nx p1.toNatClampNeg p2))), (h0, .inr (0, [.int sec, .ref h1, .int pw])), (h1, .inl (cB, n, .inl f_7))] := hD
          refine lv_iinc (v := 1) (lv' := [(3, .int 1), (4, .int x_5), (0, .ref b0), (1, .int p1), (2, .int p2)]) hx hb d_Tb_link_85 hl (k := 1) rfl (by decide) (by decide) rfl (fun ls hl => ?_)
          refine lv_goto (tgt := 33) hx hb d_Tb_link_88 (by decide) ?_
          refine lv_iload_n hx hb d_Tb_link_33 rfl (lv_at hl 0 rfl) ?_
          refine lv_aload_n hx hb d_Tb_link_34 rfl (lv_at hl 2 rfl) ?_
          refine va_get (D := (dC, dI)) (ci := 4) (v := .int co) (C := R_Tb) (T := F_Tb) (N := 10) hx hb hts i_Tb hown hK hP 0 rfl rfl 3 (by decide) (hts _ (k_Tb_9)) (fun _ h9 => h9) rfl d_Tb_link_35 ?_
          refine lv_icmp_ge (tgt := 91) hx hb d_Tb_link_38 (by decide) (fun c_8 => ?_) (fun c_8 => ?_)
          · exact W.vret hx hb hr (fun t ht hW => ⟨⟨(upd nx p1.toNatClampNeg p2, f_7), rfl, by rw [tb_link]; try rw [if_neg c_1]; try rw [if_neg c_2]; try rw [if_pos c_3]; try rw [if_neg c_4]; try rw [← ex_5]; try rw [← er_6]; try rw [← ef_7]; try rw [if_pos c_8]; try rfl, by rw [ht]; exact hP, va_K.moved hW.alike hK, hD⟩, hS.F ht⟩) hS.2.2 d_Tb_link_91
          · refine lv_aload_n hx hb d_Tb_link_41 rfl (lv_at hl 2 rfl) ?_
            refine va_get (D := (dC, dI)) (ci := 4) (v := .int be) (C := R_Tb) (T := F_Tb) (N := 10) hx hb hts i_Tb hown hK hP 0 rfl rfl 2 (by decide) (hts _ (k_Tb_8)) (fun _ h9 => h9) rfl d_Tb_link_42 ?_
            refine lv_iload_n hx hb d_Tb_link_45 rfl (lv_at hl 0 rfl) ?_
            refine lv_aload_n hx hb d_Tb_link_46 rfl (lv_at hl 2 rfl) ?_
            refine va_get (D := (dC, dI)) (ci := 4) (v := .int le) (C := R_Tb) (T := F_Tb) (N := 10) hx hb hts i_Tb hown hK hP 0 rfl rfl 4 (by decide) (hts _ (k_Tb_10)) (fun _ h9 => h9) rfl d_Tb_link_47 ?_
            refine lv_imul hx hb d_Tb_link_50 ?_
            refine lv_iadd hx hb d_Tb_link_51 ?_
            refine lv_sipush (v := 512) hx hb d_Tb_link_52 (by decide) ?_
            refine lv_imul hx hb d_Tb_link_55 ?_
            refine lv_iconst (v := 4) hx hb d_Tb_link_56 (by decide) ?_
            refine lv_iload_n hx hb d_Tb_link_57 rfl (lv_at hl 3 rfl) ?_
            refine lv_imul hx hb d_Tb_link_58 ?_
            refine lv_iadd hx hb d_Tb_link_59 ?_
            refine lv_topi (fun x_9 ex_9 => ?_)
            refine lv_istore (lv' := [(4, .int x_9), (3, .int 1), (0, .ref b0), (1, .int p1), (2, .int p2)]) hx hb d_Tb_link_60 hl (by decide) rfl (fun ls hl => ?_)
            refine lv_aload_n hx hb d_Tb_link_62 rfl (lv_at hl 2 rfl) ?_
            refine va_get (D := (dC, dI)) (ci := 4) (v := .ref h0) (C := R_Tb) (T := F_Tb) (N := 10) hx hb hts i_Tb hown hK hP 0 rfl rfl 0 (by decide) (hts _ (k_Tb_6)) (fun _ h9 => h9) rfl d_Tb_link_63 ?_
            refine lv_iload hx hb d_Tb_link_66 (lv_at hl 0 rfl) ?_
            refine lv_aload_n hx hb d_Tb_link_68 rfl (lv_at hl 2 rfl) ?_
            refine va_get (D := (dC, dI)) (ci := 4) (v := .ref h0) (C := R_Tb) (T := F_Tb) (N := 10) hx hb hts i_Tb hown hK hP 0 rfl rfl 0 (by decide) (hts _ (k_Tb_6)) (fun _ h9 => h9) rfl d_Tb_link_69 ?_
            refine lv_iload hx hb d_Tb_link_72 (lv_at hl 0 rfl) ?_
            have hPc := hP.sub (ws' := [(h0, .inr (0, [.int sec, .ref h1, .int pw])), (h1, .inl (cB, n, .inl f_7))]) [2, 3] rfl
            have hDc := hD.sub (ws' := [(h0, .inr (0, [.int sec, .ref h1, .int pw])), (h1, .inl (cB, n, .inl f_7))]) [2, 3] (by decide) rfl
            have hKc := hK.sub (tys' := [(cB, .byte)]) [1] rfl
            have hFc := va_free (wc := [(h0, .inr (0, [.int sec, .ref h1, .int pw])), (h1, .inl (cB, n, .inl f_7))]) hD hS hA [2, 3] rfl
            refine va_calli (va_runV (As := [.int x_9]) (rest := [.int x_9, .ref h0]) ⟨hx, hb, hml, hown, hts⟩ (c_Dk_four l dC dI h0 h1 H.size cB sec pw n f_7 h4 hn x_9) (cwV 1 hts (gwV good_Tb (k_Tb_24) (u_Tb_Dk _ k_Dk_14) (u_Tb_Dk _ k_Dk_15) (u_Tb_Dk _ k_Dk_0) (wcs (u_Tb_Dk _ k_Dk_16) u_Tb_Dk)) rfl rfl rfl (by decide +kernel) ⟨Nat.le_of_ble_eq_true rfl, Nat.le_of_ble_eq_true rfl⟩) (pv_of hPc hKc hDc (va_recv hKc hPc (ci := 0) (q0 := 0) rfl rfl)) rfl rfl hl.1 rfl (lv_room (Nat.le_of_ble_eq_true rfl)) d_Tb_link_74 ⟨by decide, by decide⟩) hS (fun q _ h => hFc q h) hFc (fun r_10 u t H1 locs ht hvm hw hB hz1 hk1 hS => ?_)
            obtain ⟨er_10, rfl⟩ := hw
            obtain ⟨hP1, hK1, hD1⟩ := hB
            rw [ht] at hP1
            have hP1 : va_P (dC, dI) classes [(h0, .inr (0, [.int sec, .ref h1, .int pw])), (h1, .inl (cB, n, .inl f_7))] H1 := hP1
            have hD1 : va_D _ [(h0, .inr (0, [.int sec, .ref h1, .int pw])), (h1, .inl (cB, n, .inl f_7))] := hD1
            obtain ⟨hP, hD⟩ := va_join (wr := [(b0, .inr (4, [.ref h0, .int cl, .int be, .int co, .int le, .int ro, .int sa, .int ks, .ref b1, .ref b2])), (b1, .inl (c1, nl, .inl (upd nx p1.toNatClampNeg p2)))]) (w1 := [(h0, .inr (0, [.int sec, .ref h1, .int pw])), (h1, .inl (cB, n, .inl f_7))]) hP hD [2, 3] [0, 1] rfl rfl (by decide) (by decide) hk1 hFc hP1 hD1
            generalize H1 = H at hP hS ⊢
            have hP : va_P (dC, dI) classes [(b0, .inr (4, [.ref h0, .int cl, .int be, .int co, .int le, .int ro, .int sa, .int ks, .ref b1, .ref b2])), (b1, .inl (c1, nl, .inl (upd nx p1.toNatClampNeg p2))), (h0, .inr (0, [.int sec, .ref h1, .int pw])), (h1, .inl (cB, n, .inl f_7))] H := hP
            have hD : va_D A [(b0, .inr (4, [.ref h0, .int cl, .int be, .int co, .int le, .int ro, .int sa, .int ks, .ref b1, .ref b2])), (b1, .inl (c1, nl, .inl (upd nx p1.toNatClampNeg p2))), (h0, .inr (0, [.int sec, .ref h1, .int pw])), (h1, .inl (cB, n, .inl f_7))] := hD
            refine lv_ldc (v := (-268435456)) hx hb hown (hts _ (k_Tb_95)) d_Tb_link_77 ?_
            refine lv_iand hx hb d_Tb_link_79 ?_
            refine lv_iload_n hx hb d_Tb_link_80 rfl (lv_at hl 4 rfl) ?_
            refine lv_ior hx hb d_Tb_link_81 ?_
            have hPc := hP.sub (ws' := [(h0, .inr (0, [.int sec, .ref h1, .int pw])), (h1, .inl (cB, n, .inl f_7))]) [2, 3] rfl
            have hDc := hD.sub (ws' := [(h0, .inr (0, [.int sec, .ref h1, .int pw])), (h1, .inl (cB, n, .inl f_7))]) [2, 3] (by decide) rfl
            have hKc := hK.sub (tys' := [(cB, .byte)]) [1] rfl
            have hFc := va_free (wc := [(h0, .inr (0, [.int sec, .ref h1, .int pw])), (h1, .inl (cB, n, .inl f_7))]) hD hS hA [2, 3] rfl
            refine va_callv (va_runV (As := [.int x_9, .int ((r_10 &&& ((-268435456))) ||| p2)]) (rest := []) ⟨hx, hb, hml, hown, hts⟩ (c_Dk_putFour l dC dI h0 h1 H.size cB sec pw n f_7 h4 hn x_9 ((r_10 &&& ((-268435456))) ||| p2)) (cwV 2 hts (gwV good_Tb (k_Tb_84) (u_Tb_Dk _ k_Dk_30) (u_Tb_Dk _ k_Dk_31) (u_Tb_Dk _ k_Dk_0) (wcs (u_Tb_Dk _ k_Dk_32) u_Tb_Dk)) rfl rfl rfl (by decide +kernel) ⟨Nat.le_of_ble_eq_true rfl, Nat.le_of_ble_eq_true rfl⟩) (pv_of hPc hKc hDc (va_recv hKc hPc (ci := 0) (q0 := 0) rfl rfl)) rfl rfl hl.1 rfl (lv_room (Nat.le_of_ble_eq_true rfl)) d_Tb_link_82 ⟨by decide, by decide⟩) hS (fun q _ h => hFc q h) hFc (fun u t H1 locs ht hvm hw hB hz1 hk1 hS => ?_)
            subst hw
            obtain ⟨hP1, hK1, hD1⟩ := hB
            rw [ht] at hP1
            obtain ⟨f_11, ef_11⟩ : ∃ g : Nat → Int32, g = dk_put4 n f_7 x_9 ((r_10 &&& ((-268435456))) ||| p2) := ⟨_, rfl⟩
            rw [← ef_11] at hP1 hD1
            have hP1 : va_P (dC, dI) classes [(h0, .inr (0, [.int sec, .ref h1, .int pw])), (h1, .inl (cB, n, .inl f_11))] H1 := hP1
            have hD1 : va_D _ [(h0, .inr (0, [.int sec, .ref h1, .int pw])), (h1, .inl (cB, n, .inl f_11))] := hD1
            obtain ⟨hP, hD⟩ := va_join (wr := [(b0, .inr (4, [.ref h0, .int cl, .int be, .int co, .int le, .int ro, .int sa, .int ks, .ref b1, .ref b2])), (b1, .inl (c1, nl, .inl (upd nx p1.toNatClampNeg p2)))]) (w1 := [(h0, .inr (0, [.int sec, .ref h1, .int pw])), (h1, .inl (cB, n, .inl f_11))]) hP hD [2, 3] [0, 1] rfl rfl (by decide) (by decide) hk1 hFc hP1 hD1
            generalize H1 = H at hP hS ⊢
            have hP : va_P (dC, dI) classes [(b0, .inr (4, [.ref h0, .int cl, .int be, .int co, .int le, .int ro, .int sa, .int ks, .ref b1, .ref b2])), (b1, .inl (c1, nl, .inl (upd nx p1.toNatClampNeg p2))), (h0, .inr (0, [.int sec, .ref h1, .int pw])), (h1, .inl (cB, n, .inl f_11))] H := hP
            have hD : va_D A [(b0, .inr (4, [.ref h0, .int cl, .int be, .int co, .int le, .int ro, .int sa, .int ks, .ref b1, .ref b2])), (b1, .inl (c1, nl, .inl (upd nx p1.toNatClampNeg p2))), (h0, .inr (0, [.int sec, .ref h1, .int pw])), (h1, .inl (cB, n, .inl f_11))] := hD
            refine lv_iinc (v := 2) (lv' := [(3, .int 2), (4, .int x_9), (0, .ref b0), (1, .int p1), (2, .int p2)]) hx hb d_Tb_link_85 hl (k := 1) rfl (by decide) (by decide) rfl (fun ls hl => ?_)
            refine lv_goto (tgt := 33) hx hb d_Tb_link_88 (by decide) ?_
            refine lv_iload_n hx hb d_Tb_link_33 rfl (lv_at hl 0 rfl) ?_
            refine lv_aload_n hx hb d_Tb_link_34 rfl (lv_at hl 2 rfl) ?_
            refine va_get (D := (dC, dI)) (ci := 4) (v := .int co) (C := R_Tb) (T := F_Tb) (N := 10) hx hb hts i_Tb hown hK hP 0 rfl rfl 3 (by decide) (hts _ (k_Tb_9)) (fun _ h9 => h9) rfl d_Tb_link_35 ?_
            refine lv_icmp_ge (tgt := 91) hx hb d_Tb_link_38 (by decide) (fun c_12 => ?_) (fun c_12 => ?_)
            · exact W.vret hx hb hr (fun t ht hW => ⟨⟨(upd nx p1.toNatClampNeg p2, f_11), rfl, by rw [tb_link]; try rw [if_neg c_1]; try rw [if_neg c_2]; try rw [if_pos c_3]; try rw [if_neg c_4]; try rw [← ex_5]; try rw [← er_6]; try rw [← ef_7]; try rw [if_neg c_8]; try rw [← ex_9]; try rw [← er_10]; try rw [← ef_11]; try rw [if_pos c_12]; try rfl, by rw [ht]; exact hP, va_K.moved hW.alike hK, hD⟩, hS.F ht⟩) hS.2.2 d_Tb_link_91
            · exact absurd hco c_12
      · exact W.vret hx hb hr (fun t ht hW => ⟨⟨(nx, f), rfl, by rw [tb_link]; try rw [if_neg c_1]; try rw [if_neg c_2]; try rw [if_neg c_3]; try rfl, by rw [ht]; exact hP, va_K.moved hW.alike hK, hD⟩, hS.F ht⟩) hS.2.2 d_Tb_link_23
