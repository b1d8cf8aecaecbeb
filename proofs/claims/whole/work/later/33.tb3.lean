def tb_first (n : Nat) (f : Nat → Int32) (sec p1 p2 p3 p4 p5 : Int32) : Nat → Int32 := (dk_put4 n (dk_put4 n (dk_put4 n (dk_put4 n (dk_put4 n (dk_put2 n (dk_put4 n (dk_put2 n (dk_put2 n (dk_put4 n (dk_put4 n (dk_put4 n (dk_put1 n (dk_put2 n (dk_put1 n (dk_put2 n (dk_put1 n (dk_put1 n (dk_put1 n (dk_put1 n (dk_put1 n (dk_put1 n (dk_put1 n (dk_put1 n (dk_put2 n (dk_put4 n (dk_put2 n (dk_put2 n (dk_put4 n (dk_put4 n (dk_put4 n (dk_put1 n (dk_put2 n (dk_put1 n (dk_put2 n (dk_put1 n (dk_put1 n (dk_put1 n (dk_put1 n (dk_put1 n (dk_put1 n (dk_put1 n (dk_put1 n f (0 + 3) 32) (0 + 4) 32) (0 + 5) 32) (0 + 6) 32) (0 + 7) 32) (0 + 8) 32) (0 + 9) 32) (0 + 10) 32) (0 + 11) 512) (0 + 13) p1) (0 + 14) p2) (0 + 16) p3) (0 + 32) sec) (0 + 36) p4) (0 + 44) 2) (0 + 48) 1) (0 + 50) 6) (0 + 67) p5) (0 + 510) 43605) (3072 + 3) 32) (3072 + 4) 32) (3072 + 5) 32) (3072 + 6) 32) (3072 + 7) 32) (3072 + 8) 32) (3072 + 9) 32) (3072 + 10) 32) (3072 + 11) 512) (3072 + 13) p1) (3072 + 14) p2) (3072 + 16) p3) (3072 + 32) sec) (3072 + 36) p4) (3072 + 44) 2) (3072 + 48) 1) (3072 + 50) 6) (3072 + 67) p5) (3072 + 510) 43605) 512 1096897106) 996 1631679090) 1000 ((-1))) 1004 ((-1))) 1020 ((-1437270016)))
set_option maxHeartbeats 4000000 in
set_option maxRecDepth 100000 in
theorem c_Tb_writeFirstSectors (l : Launch) (dC : Nat → ClassId) (dI : Nat → Nat → Nat) (b0 b1 b2 h0 sz : Nat) (cl be co le ro sa ks : Int32) (h1 : Nat) (cB : ClassId) (sec pw : Int32) (n : Nat) (f : Nat → Int32) (h4 : 4 ≤ n) (hn : n < 2 ^ 31) (p1 p2 p3 p4 p5 : Int32) : Met l y_Tb_writeFirstSectors (.code y_Tb_writeFirstSectors b_Tb_writeFirstSectors 8 none :: V_Tb) ({ frames := 1, cells := 0, slots := 0, locals := 22 }) (va_Pc [.ref b0, .int p1, .int p2, .int p3, .int p4, .int p5] (fun U => U.heap.size = sz ∧ at_ (dC, dI) (fun _ => True) [(b0, .inr (4, [.ref h0, .int cl, .int be, .int co, .int le, .int ro, .int sa, .int ks, .ref b1, .ref b2])), (h0, .inr (0, [.int sec, .ref h1, .int pw])), (h1, .inl (cB, n, .inl f))] [(cB, .byte)] U)) (va_Qv (fun u : Nat → Int32 => u = tb_first n f sec p1 p2 p3 p4 p5) (fun (u : Nat → Int32) t => at_ (dC, dI) (va_A [(b0, .inr (4, [.ref h0, .int cl, .int be, .int co, .int le, .int ro, .int sa, .int ks, .ref b1, .ref b2])), (h0, .inr (0, [.int sec, .ref h1, .int pw])), (h1, .inl (cB, n, .inl f))] sz) [(b0, .inr (4, [.ref h0, .int cl, .int be, .int co, .int le, .int ro, .int sa, .int ks, .ref b1, .ref b2])), (h0, .inr (0, [.int sec, .ref h1, .int pw])), (h1, .inl (cB, n, .inl u))] [(cB, .byte)] t) (va_A [(b0, .inr (4, [.ref h0, .int cl, .int be, .int co, .int le, .int ro, .int sa, .int ks, .ref b1, .ref b2])), (h0, .inr (0, [.int sec, .ref h1, .int pw])), (h1, .inl (cB, n, .inl f))] sz)) 0 0 (va_A [(b0, .inr (4, [.ref h0, .int cl, .int be, .int co, .int le, .int ro, .int sa, .int ks, .ref b1, .ref b2])), (h0, .inr (0, [.int sec, .ref h1, .int pw])), (h1, .inl (cB, n, .inl f))] sz) := by
  refine Met.ofW (cc := b_Tb_writeFirstSectors) (maxL := 8) (ret := none) (by decide) rfl ?_
  intro p e s m args below meth c s₁ B hml hv
  obtain ⟨rfl, hsz, hP, hK, hD0⟩ := hv
  have hx := B.exec
  have hb := B.bytes
  have hr := B.returns
  have hts0 := atoms_spec (ws := .code y_Tb_writeFirstSectors b_Tb_writeFirstSectors 8 none :: V_Tb) B.pre
  have hts : ∀ w ∈ V_Tb, w.before ([.ref b0, .int p1, .int p2, .int p3, .int p4, .int p5] : List Value).toArray s = true := fun w h => hts0 w (List.mem_cons_of_mem _ h)
  have hown : s.vm.findClass R_Tb = some m.cls := findClass_of_methodNamed B.named
  have hlocks := B.notSynchronized
  subst hsz
  have hD := hD0.self (sz := s.heap.size)
  generalize hAe : va_A [(b0, .inr (4, [.ref h0, .int cl, .int be, .int co, .int le, .int ro, .int sa, .int ks, .ref b1, .ref b2])), (h0, .inr (0, [.int sec, .ref h1, .int pw])), (h1, .inl (cB, n, .inl f))] s.heap.size = A at hD ⊢
  have hA : ∀ q : Nat, s.heap.size ≤ q → A q := fun q h => by rw [← hAe]; exact Or.inr h
  have hS : va_S A s.heap s.heap [] := va_S.rf
  have hP : va_P (dC, dI) classes [(b0, .inr (4, [.ref h0, .int cl, .int be, .int co, .int le, .int ro, .int sa, .int ks, .ref b1, .ref b2])), (h0, .inr (0, [.int sec, .ref h1, .int pw])), (h1, .inl (cB, n, .inl f))] s.heap := hP
  have hK : va_K (dC, dI) classes [(cB, .byte)] s := hK
  have hl := lv_entry ([.ref b0, .int p1, .int p2, .int p3, .int p4, .int p5]) (n := 8) (Nat.le_of_ble_eq_true rfl)
  rw [lg_entry_eq]
  generalize (lg_sl ([.ref b0, .int p1, .int p2, .int p3, .int p4, .int p5]) ++ List.replicate (8 - (lg_sl ([.ref b0, .int p1, .int p2, .int p3, .int p4, .int p5])).length) Slot.unset).toArray = ls at hl ⊢
  have hl : lv_has ls 8 [(0, .ref b0), (1, .int p1), (2, .int p2), (3, .int p3), (4, .int p4), (5, .int p5)] := hl
  refine lv_iconst (v := 0) hx hb d_Tb_writeFirstSectors_0 (by decide) ?_
  refine lv_istore (lv' := [(6, .int 0), (0, .ref b0), (1, .int p1), (2, .int p2), (3, .int p3), (4, .int p4), (5, .int p5)]) hx hb d_Tb_writeFirstSectors_1 hl (by decide) rfl (fun ls hl => ?_)
  refine lv_iload hx hb d_Tb_writeFirstSectors_3 (lv_at hl 0 rfl) ?_
  refine lv_sipush (v := 3072) hx hb d_Tb_writeFirstSectors_5 (by decide) ?_
  refine lv_icmp_gt (tgt := 206) hx hb d_Tb_writeFirstSectors_8 (by decide) (fun c_1 => ?_) (fun c_1 => ?_)
  · exact absurd c_1 (by decide)
  · refine lv_iconst (v := 3) hx hb d_Tb_writeFirstSectors_11 (by decide) ?_
    refine lv_istore (lv' := [(7, .int 3), (6, .int 0), (0, .ref b0), (1, .int p1), (2, .int p2), (3, .int p3), (4, .int p4), (5, .int p5)]) hx hb d_Tb_writeFirstSectors_12 hl (by decide) rfl (fun ls hl => ?_)
    refine lv_iload hx hb d_Tb_writeFirstSectors_14 (lv_at hl 0 rfl) ?_
    refine lv_bipush (v := 11) hx hb d_Tb_writeFirstSectors_16 (by decide) ?_
    refine lv_icmp_ge (tgt := 41) hx hb d_Tb_writeFirstSectors_18 (by decide) (fun c_2 => ?_) (fun c_2 => ?_)
    · exact absurd c_2 (by decide)
    · refine lv_aload_n hx hb d_Tb_writeFirstSectors_21 rfl (lv_at hl 2 rfl) ?_
      refine va_get (D := (dC, dI)) (ci := 4) (v := .ref h0) (C := R_Tb) (T := F_Tb) (N := 10) hx hb hts i_Tb hown hK hP 0 rfl rfl 0 (by decide) (hts _ (k_Tb_6)) (fun _ h9 => h9) rfl d_Tb_writeFirstSectors_22 ?_
      refine lv_iload hx hb d_Tb_writeFirstSectors_25 (lv_at hl 1 rfl) ?_
      refine lv_iload hx hb d_Tb_writeFirstSectors_27 (lv_at hl 0 rfl) ?_
      refine lv_iadd hx hb d_Tb_writeFirstSectors_29 ?_
      refine lv_bipush (v := 32) hx hb d_Tb_writeFirstSectors_30 (by decide) ?_
      have hPc := hP.sub (ws' := [(h0, .inr (0, [.int sec, .ref h1, .int pw])), (h1, .inl (cB, n, .inl f))]) [1, 2] rfl
      have hDc := hD.sub (ws' := [(h0, .inr (0, [.int sec, .ref h1, .int pw])), (h1, .inl (cB, n, .inl f))]) [1, 2] (by decide) rfl
      have hKc := hK.sub (tys' := [(cB, .byte)]) [0] rfl
      have hFc := va_free (wc := [(h0, .inr (0, [.int sec, .ref h1, .int pw])), (h1, .inl (cB, n, .inl f))]) hD hS hA [1, 2] rfl
      refine va_callv (va_runV (As := [.int (0 + 3), .int 32]) (rest := []) ⟨hx, hb, hml, hown, hts⟩ (c_Dk_putOne l dC dI h0 h1 s.heap.size cB sec pw n f h4 hn (0 + 3) 32) (cwV 2 hts (gwV good_Tb (k_Tb_82) (u_Tb_Dk _ k_Dk_11) (u_Tb_Dk _ k_Dk_12) (u_Tb_Dk _ k_Dk_0) (wcs (u_Tb_Dk _ k_Dk_13) u_Tb_Dk)) rfl rfl rfl (by decide +kernel) ⟨Nat.le_of_ble_eq_true rfl, Nat.le_of_ble_eq_true rfl⟩) (pv_of hPc hKc hDc (va_recv hKc hPc (ci := 0) (q0 := 0) rfl rfl)) rfl rfl hl.1 rfl (lv_room (Nat.le_of_ble_eq_true rfl)) d_Tb_writeFirstSectors_32 ⟨by decide, by decide⟩) hS (fun q _ h => hFc q h) hFc (fun u t H1 locs ht hvm hw hB hz1 hk1 hS => ?_)
      subst hw
      obtain ⟨hP1, hK1, hD1⟩ := hB
      rw [ht] at hP1
      obtain ⟨f_3, ef_3⟩ : ∃ g : Nat → Int32, g = dk_put1 n f (0 + 3) 32 := ⟨_, rfl⟩
      rw [← ef_3] at hP1 hD1
      have hP1 : va_P (dC, dI) classes [(h0, .inr (0, [.int sec, .ref h1, .int pw])), (h1, .inl (cB, n, .inl f_3))] H1 := hP1
      have hD1 : va_D _ [(h0, .inr (0, [.int sec, .ref h1, .int pw])), (h1, .inl (cB, n, .inl f_3))] := hD1
      obtain ⟨hP, hD⟩ := va_join (wr := [(b0, .inr (4, [.ref h0, .int cl, .int be, .int co, .int le, .int ro, .int sa, .int ks, .ref b1, .ref b2]))]) (w1 := [(h0, .inr (0, [.int sec, .ref h1, .int pw])), (h1, .inl (cB, n, .inl f_3))]) hP hD [1, 2] [0] rfl rfl (by decide) (by decide) hk1 hFc hP1 hD1
      generalize H1 = H at hP hS ⊢
      have hP : va_P (dC, dI) classes [(b0, .inr (4, [.ref h0, .int cl, .int be, .int co, .int le, .int ro, .int sa, .int ks, .ref b1, .ref b2])), (h0, .inr (0, [.int sec, .ref h1, .int pw])), (h1, .inl (cB, n, .inl f_3))] H := hP
      have hD : va_D A [(b0, .inr (4, [.ref h0, .int cl, .int be, .int co, .int le, .int ro, .int sa, .int ks, .ref b1, .ref b2])), (h0, .inr (0, [.int sec, .ref h1, .int pw])), (h1, .inl (cB, n, .inl f_3))] := hD
      refine lv_iinc (v := 4) (lv' := [(7, .int 4), (6, .int 0), (0, .ref b0), (1, .int p1), (2, .int p2), (3, .int p3), (4, .int p4), (5, .int p5)]) hx hb d_Tb_writeFirstSectors_35 hl (k := 0) rfl (by decide) (by decide) rfl (fun ls hl => ?_)
      refine lv_goto (tgt := 14) hx hb d_Tb_writeFirstSectors_38 (by decide) ?_
      refine lv_iload hx hb d_Tb_writeFirstSectors_14 (lv_at hl 0 rfl) ?_
      refine lv_bipush (v := 11) hx hb d_Tb_writeFirstSectors_16 (by decide) ?_
      refine lv_icmp_ge (tgt := 41) hx hb d_Tb_writeFirstSectors_18 (by decide) (fun c_4 => ?_) (fun c_4 => ?_)
      · exact absurd c_4 (by decide)
      · refine lv_aload_n hx hb d_Tb_writeFirstSectors_21 rfl (lv_at hl 2 rfl) ?_
        refine va_get (D := (dC, dI)) (ci := 4) (v := .ref h0) (C := R_Tb) (T := F_Tb) (N := 10) hx hb hts i_Tb hown hK hP 0 rfl rfl 0 (by decide) (hts _ (k_Tb_6)) (fun _ h9 => h9) rfl d_Tb_writeFirstSectors_22 ?_
        refine lv_iload hx hb d_Tb_writeFirstSectors_25 (lv_at hl 1 rfl) ?_
        refine lv_iload hx hb d_Tb_writeFirstSectors_27 (lv_at hl 0 rfl) ?_
        refine lv_iadd hx hb d_Tb_writeFirstSectors_29 ?_
        refine lv_bipush (v := 32) hx hb d_Tb_writeFirstSectors_30 (by decide) ?_
        have hPc := hP.sub (ws' := [(h0, .inr (0, [.int sec, .ref h1, .int pw])), (h1, .inl (cB, n, .inl f_3))]) [1, 2] rfl
        have hDc := hD.sub (ws' := [(h0, .inr (0, [.int sec, .ref h1, .int pw])), (h1, .inl (cB, n, .inl f_3))]) [1, 2] (by decide) rfl
        have hKc := hK.sub (tys' := [(cB, .byte)]) [0] rfl
        have hFc := va_free (wc := [(h0, .inr (0, [.int sec, .ref h1, .int pw])), (h1, .inl (cB, n, .inl f_3))]) hD hS hA [1, 2] rfl
        refine va_callv (va_runV (As := [.int (0 + 4), .int 32]) (rest := []) ⟨hx, hb, hml, hown, hts⟩ (c_Dk_putOne l dC dI h0 h1 H.size cB sec pw n f_3 h4 hn (0 + 4) 32) (cwV 2 hts (gwV good_Tb (k_Tb_82) (u_Tb_Dk _ k_Dk_11) (u_Tb_Dk _ k_Dk_12) (u_Tb_Dk _ k_Dk_0) (wcs (u_Tb_Dk _ k_Dk_13) u_Tb_Dk)) rfl rfl rfl (by decide +kernel) ⟨Nat.le_of_ble_eq_true rfl, Nat.le_of_ble_eq_true rfl⟩) (pv_of hPc hKc hDc (va_recv hKc hPc (ci := 0) (q0 := 0) rfl rfl)) rfl rfl hl.1 rfl (lv_room (Nat.le_of_ble_eq_true rfl)) d_Tb_writeFirstSectors_32 ⟨by decide, by decide⟩) hS (fun q _ h => hFc q h) hFc (fun u t H1 locs ht hvm hw hB hz1 hk1 hS => ?_)
        subst hw
        obtain ⟨hP1, hK1, hD1⟩ := hB
        rw [ht] at hP1
        obtain ⟨f_5, ef_5⟩ : ∃ g : Nat → Int32, g = dk_put1 n f_3 (0 + 4) 32 := ⟨_, rfl⟩
        rw [← ef_5] at hP1 hD1
        have hP1 : va_P (dC, dI) classes [(h0, .inr (0, [.int sec, .ref h1, .int pw])), (h1, .inl (cB, n, .inl f_5))] H1 := hP1
        have hD1 : va_D _ [(h0, .inr (0, [.int sec, .ref h1, .int pw])), (h1, .inl (cB, n, .inl f_5))] := hD1
        obtain ⟨hP, hD⟩ := va_join (wr := [(b0, .inr (4, [.ref h0, .int cl, .int be, .int co, .int le, .int ro, .int sa, .int ks, .ref b1, .ref b2]))]) (w1 := [(h0, .inr (0, [.int sec, .ref h1, .int pw])), (h1, .inl (cB, n, .inl f_5))]) hP hD [1, 2] [0] rfl rfl (by decide) (by decide) hk1 hFc hP1 hD1
        generalize H1 = H at hP hS ⊢
        have hP : va_P (dC, dI) classes [(b0, .inr (4, [.ref h0, .int cl, .int be, .int co, .int le, .int ro, .int sa, .int ks, .ref b1, .ref b2])), (h0, .inr (0, [.int sec, .ref h1, .int pw])), (h1, .inl (cB, n, .inl f_5))] H := hP
        have hD : va_D A [(b0, .inr (4, [.ref h0, .int cl, .int be, .int co, .int le, .int ro, .int sa, .int ks, .ref b1, .ref b2])), (h0, .inr (0, [.int sec, .ref h1, .int pw])), (h1, .inl (cB, n, .inl f_5))] := hD
        refine lv_iinc (v := 5) (lv' := [(7, .int 5), (6, .int 0), (0, .ref b0), (1, .int p1), (2, .int p2), (3, .int p3), (4, .int p4), (5, .int p5)]) hx hb d_Tb_writeFirstSectors_35 hl (k := 0) rfl (by decide) (by decide) rfl (fun ls hl => ?_)
        refine lv_goto (tgt := 14) hx hb d_Tb_writeFirstSectors_38 (by decide) ?_
        refine lv_iload hx hb d_Tb_writeFirstSectors_14 (lv_at hl 0 rfl) ?_
        refine lv_bipush (v := 11) hx hb d_Tb_writeFirstSectors_16 (by decide) ?_
        refine lv_icmp_ge (tgt := 41) hx hb d_Tb_writeFirstSectors_18 (by decide) (fun c_6 => ?_) (fun c_6 => ?_)
        · exact absurd c_6 (by decide)
        · refine lv_aload_n hx hb d_Tb_writeFirstSectors_21 rfl (lv_at hl 2 rfl) ?_
          refine va_get (D := (dC, dI)) (ci := 4) (v := .ref h0) (C := R_Tb) (T := F_Tb) (N := 10) hx hb hts i_Tb hown hK hP 0 rfl rfl 0 (by decide) (hts _ (k_Tb_6)) (fun _ h9 => h9) rfl d_Tb_writeFirstSectors_22 ?_
          refine lv_iload hx hb d_Tb_writeFirstSectors_25 (lv_at hl 1 rfl) ?_
          refine lv_iload hx hb d_Tb_writeFirstSectors_27 (lv_at hl 0 rfl) ?_
          refine lv_iadd hx hb d_Tb_writeFirstSectors_29 ?_
          refine lv_bipush (v := 32) hx hb d_Tb_writeFirstSectors_30 (by decide) ?_
          have hPc := hP.sub (ws' := [(h0, .inr (0, [.int sec, .ref h1, .int pw])), (h1, .inl (cB, n, .inl f_5))]) [1, 2] rfl
          have hDc := hD.sub (ws' := [(h0, .inr (0, [.int sec, .ref h1, .int pw])), (h1, .inl (cB, n, .inl f_5))]) [1, 2] (by decide) rfl
          have hKc := hK.sub (tys' := [(cB, .byte)]) [0] rfl
          have hFc := va_free (wc := [(h0, .inr (0, [.int sec, .ref h1, .int pw])), (h1, .inl (cB, n, .inl f_5))]) hD hS hA [1, 2] rfl
          refine va_callv (va_runV (As := [.int (0 + 5), .int 32]) (rest := []) ⟨hx, hb, hml, hown, hts⟩ (c_Dk_putOne l dC dI h0 h1 H.size cB sec pw n f_5 h4 hn (0 + 5) 32) (cwV 2 hts (gwV good_Tb (k_Tb_82) (u_Tb_Dk _ k_Dk_11) (u_Tb_Dk _ k_Dk_12) (u_Tb_Dk _ k_Dk_0) (wcs (u_Tb_Dk _ k_Dk_13) u_Tb_Dk)) rfl rfl rfl (by decide +kernel) ⟨Nat.le_of_ble_eq_true rfl, Nat.le_of_ble_eq_true rfl⟩) (pv_of hPc hKc hDc (va_recv hKc hPc (ci := 0) (q0 := 0) rfl rfl)) rfl rfl hl.1 rfl (lv_room (Nat.le_of_ble_eq_true rfl)) d_Tb_writeFirstSectors_32 ⟨by decide, by decide⟩) hS (fun q _ h => hFc q h) hFc (fun u t H1 locs ht hvm hw hB hz1 hk1 hS => ?_)
          subst hw
          obtain ⟨hP1, hK1, hD1⟩ := hB
          rw [ht] at hP1
          obtain ⟨f_7, ef_7⟩ : ∃ g : Nat → Int32, g = dk_put1 n f_5 (0 + 5) 32 := ⟨_, rfl⟩
          rw [← ef_7] at hP1 hD1
          have hP1 : va_P (dC, dI) classes [(h0, .inr (0, [.int sec, .ref h1, .int pw])), (h1, .inl (cB, n, .inl f_7))] H1 := hP1
          have hD1 : va_D _ [(h0, .inr (0, [.int sec, .ref h1, .int pw])), (h1, .inl (cB, n, .inl f_7))] := hD1
          obtain ⟨hP, hD⟩ := va_join (wr := [(b0, .inr (4, [.ref h0, .int cl, .int be, .int co, .int le, .int ro, .int sa, .int ks, .ref b1, .ref b2]))]) (w1 := [(h0, .inr (0, [.int sec, .ref h1, .int pw])), (h1, .inl (cB, n, .inl f_7))]) hP hD [1, 2] [0] rfl rfl (by decide) (by decide) hk1 hFc hP1 hD1
          generalize H1 = H at hP hS ⊢
          have hP : va_P (dC, dI) classes [(b0, .inr (4, [.ref h0, .int cl, .int be, .int co, .int le, .int ro, .int sa, .int ks, .ref b1, .ref b2])), (h0, .inr (0, [.int sec, .ref h1, .int pw])), (h1, .inl (cB, n, .inl f_7))] H := hP
          have hD : va_D A [(b0, .inr (4, [.ref h0, .int cl, .int be, .int co, .int le, .int ro, .int sa, .int ks, .ref b1, .ref b2])), (h0, .inr (0, [.int sec, .ref h1, .int pw])), (h1, .inl (cB, n, .inl f_7))] := hD
          refine lv_iinc (v := 6) (lv' := [(7, .int 6), (6, .int 0), (0, .ref b0), (1, .int p1), (2, .int p2), (3, .int p3), (4, .int p4), (5, .int p5)]) hx hb d_Tb_writeFirstSectors_35 hl (k := 0) rfl (by decide) (by decide) rfl (fun ls hl => ?_)
          refine lv_goto (tgt := 14) hx hb d_Tb_writeFirstSectors_38 (by decide) ?_
          refine lv_iload hx hb d_Tb_writeFirstSectors_14 (lv_at hl 0 rfl) ?_
          refine lv_bipush (v := 11) hx hb d_Tb_writeFirstSectors_16 (by decide) ?_
          refine lv_icmp_ge (tgt := 41) hx hb d_Tb_writeFirstSectors_18 (by decide) (fun c_8 => ?_) (fun c_8 => ?_)
          · exact absurd c_8 (by decide)
          · refine lv_aload_n hx hb d_Tb_writeFirstSectors_21 rfl (lv_at hl 2 rfl) ?_
            refine va_get (D := (dC, dI)) (ci := 4) (v := .ref h0) (C := R_Tb) (T := F_Tb) (N := 10) hx hb hts i_Tb hown hK hP 0 rfl rfl 0 (by decide) (hts _ (k_Tb_6)) (fun _ h9 => h9) rfl d_Tb_writeFirstSectors_22 ?_
            refine lv_iload hx hb d_Tb_writeFirstSectors_25 (lv_at hl 1 rfl) ?_
            refine lv_iload hx hb d_Tb_writeFirstSectors_27 (lv_at hl 0 rfl) ?_
            refine lv_iadd hx hb d_Tb_writeFirstSectors_29 ?_
            refine lv_bipush (v := 32) hx hb d_Tb_writeFirstSectors_30 (by decide) ?_
            have hPc := hP.sub (ws' := [(h0, .inr (0, [.int sec, .ref h1, .int pw])), (h1, .inl (cB, n, .inl f_7))]) [1, 2] rfl
            have hDc := hD.sub (ws' := [(h0, .inr (0, [.int sec, .ref h1, .int pw])), (h1, .inl (cB, n, .inl f_7))]) [1, 2] (by decide) rfl
            have hKc := hK.sub (tys' := [(cB, .byte)]) [0] rfl
            have hFc := va_free (wc := [(h0, .inr (0, [.int sec, .ref h1, .int pw])), (h1, .inl (cB, n, .inl f_7))]) hD hS hA [1, 2] rfl
            refine va_callv (va_runV (As := [.int (0 + 6), .int 32]) (rest := []) ⟨hx, hb, hml, hown, hts⟩ (c_Dk_putOne l dC dI h0 h1 H.size cB sec pw n f_7 h4 hn (0 + 6) 32) (cwV 2 hts (gwV good_Tb (k_Tb_82) (u_Tb_Dk _ k_Dk_11) (u_Tb_Dk _ k_Dk_12) (u_Tb_Dk _ k_Dk_0) (wcs (u_Tb_Dk _ k_Dk_13) u_Tb_Dk)) rfl rfl rfl (by decide +kernel) ⟨Nat.le_of_ble_eq_true rfl, Nat.le_of_ble_eq_true rfl⟩) (pv_of hPc hKc hDc (va_recv hKc hPc (ci := 0) (q0 := 0) rfl rfl)) rfl rfl hl.1 rfl (lv_room (Nat.le_of_ble_eq_true rfl)) d_Tb_writeFirstSectors_32 ⟨by decide, by decide⟩) hS (fun q _ h => hFc q h) hFc (fun u t H1 locs ht hvm hw hB hz1 hk1 hS => ?_)
            subst hw
            obtain ⟨hP1, hK1, hD1⟩ := hB
            rw [ht] at hP1
            obtain ⟨f_9, ef_9⟩ : ∃ g : Nat → Int32, g = dk_put1 n f_7 (0 + 6) 32 := ⟨_, rfl⟩
            rw [← ef_9] at hP1 hD1
            have hP1 : va_P (dC, dI) classes [(h0, .inr (0, [.int sec, .ref h1, .int pw])), (h1, .inl (cB, n, .inl f_9))] H1 := hP1
            have hD1 : va_D _ [(h0, .inr (0, [.int sec, .ref h1, .int pw])), (h1, .inl (cB, n, .inl f_9))] := hD1
            obtain ⟨hP, hD⟩ := va_join (wr := [(b0, .inr (4, [.ref h0, .int cl, .int be, .int co, .int le, .int ro, .int sa, .int ks, .ref b1, .ref b2]))]) (w1 := [(h0, .inr (0, [.int sec, .ref h1, .int pw])), (h1, .inl (cB, n, .inl f_9))]) hP hD [1, 2] [0] rfl rfl (by decide) (by decide) hk1 hFc hP1 hD1
            generalize H1 = H at hP hS ⊢
            have hP : va_P (dC, dI) classes [(b0, .inr (4, [.ref h0, .int cl, .int be, .int co, .int le, .int ro, .int sa, .int ks, .ref b1, .ref b2])), (h0, .inr (0, [.int sec, .ref h1, .int pw])), (h1, .inl (cB, n, .inl f_9))] H := hP
            have hD : va_D A [(b0, .inr (4, [.ref h0, .int cl, .int be, .int co, .int le, .int ro, .int sa, .int ks, .ref b1, .ref b2])), (h0, .inr (0, [.int sec, .ref h1, .int pw])), (h1, .inl (cB, n, .inl f_9))] := hD
            refine lv_iinc (v := 7) (lv' := [(7, .int 7), (6, .int 0), (0, .ref b0), (1, .int p1), (2, .int p2), (3, .int p3), (4, .int p4), (5, .int p5)]) hx hb d_Tb_writeFirstSectors_35 hl (k := 0) rfl (by decide) (by decide) rfl (fun ls hl => ?_)
            refine lv_goto (tgt := 14) hx hb d_Tb_writeFirstSectors_38 (by decide) ?_
            refine lv_iload hx hb d_Tb_writeFirstSectors_14 (lv_at hl 0 rfl) ?_
            refine lv_bipush (v := 11) hx hb d_Tb_writeFirstSectors_16 (by decide) ?_
            refine lv_icmp_ge (tgt := 41) hx hb d_Tb_writeFirstSectors_18 (by decide) (fun c_10 => ?_) (fun c_10 => ?_)
            · exact absurd c_10 (by decide)
            · refine lv_aload_n hx hb d_Tb_writeFirstSectors_21 rfl (lv_at hl 2 rfl) ?_
              refine va_get (D := (dC, dI)) (ci := 4) (v := .ref h0) (C := R_Tb) (T := F_Tb) (N := 10) hx hb hts i_Tb hown hK hP 0 rfl rfl 0 (by decide) (hts _ (k_Tb_6)) (fun _ h9 => h9) rfl d_Tb_writeFirstSectors_22 ?_
              refine lv_iload hx hb d_Tb_writeFirstSectors_25 (lv_at hl 1 rfl) ?_
              refine lv_iload hx hb d_Tb_writeFirstSectors_27 (lv_at hl 0 rfl) ?_
              refine lv_iadd hx hb d_Tb_writeFirstSectors_29 ?_
              refine lv_bipush (v := 32) hx hb d_Tb_writeFirstSectors_30 (by decide) ?_
              have hPc := hP.sub (ws' := [(h0, .inr (0, [.int sec, .ref h1, .int pw])), (h1, .inl (cB, n, .inl f_9))]) [1, 2] rfl
              have hDc := hD.sub (ws' := [(h0, .inr (0, [.int sec, .ref h1, .int pw])), (h1, .inl (cB, n, .inl f_9))]) [1, 2] (by decide) rfl
              have hKc := hK.sub (tys' := [(cB, .byte)]) [0] rfl
              have hFc := va_free (wc := [(h0, .inr (0, [.int sec, .ref h1, .int pw])), (h1, .inl (cB, n, .inl f_9))]) hD hS hA [1, 2] rfl
              refine va_callv (va_runV (As := [.int (0 + 7), .int 32]) (rest := []) ⟨hx, hb, hml, hown, hts⟩ (c_Dk_putOne l dC dI h0 h1 H.size cB sec pw n f_9 h4 hn (0 + 7) 32) (cwV 2 hts (gwV good_Tb (k_Tb_82) (u_Tb_Dk _ k_Dk_11) (u_Tb_Dk _ k_Dk_12) (u_Tb_Dk _ k_Dk_0) (wcs (u_Tb_Dk _ k_Dk_13) u_Tb_Dk)) rfl rfl rfl (by decide +kernel) ⟨Nat.le_of_ble_eq_true rfl, Nat.le_of_ble_eq_true rfl⟩) (pv_of hPc hKc hDc (va_recv hKc hPc (ci := 0) (q0 := 0) rfl rfl)) rfl rfl hl.1 rfl (lv_room (Nat.le_of_ble_eq_true rfl)) d_Tb_writeFirstSectors_32 ⟨by decide, by decide⟩) hS (fun q _ h => hFc q h) hFc (fun u t H1 locs ht hvm hw hB hz1 hk1 hS => ?_)
              subst hw
              obtain ⟨hP1, hK1, hD1⟩ := hB
              rw [ht] at hP1
              obtain ⟨f_11, ef_11⟩ : ∃ g : Nat → Int32, g = dk_put1 n f_9 (0 + 7) 32 := ⟨_, rfl⟩
              rw [← ef_11] at hP1 hD1
              have hP1 : va_P (dC, dI) classes [(h0, .inr (0, [.int sec, .ref h1, .int pw])), (h1, .inl (cB, n, .inl f_11))] H1 := hP1
              have hD1 : va_D _ [(h0, .inr (0, [.int sec, .ref h1, .int pw])), (h1, .inl (cB, n, .inl f_11))] := hD1
              obtain ⟨hP, hD⟩ := va_join (wr := [(b0, .inr (4, [.ref h0, .int cl, .int be, .int co, .int le, .int ro, .int sa, .int ks, .ref b1, .ref b2]))]) (w1 := [(h0, .inr (0, [.int sec, .ref h1, .int pw])), (h1, .inl (cB, n, .inl f_11))]) hP hD [1, 2] [0] rfl rfl (by decide) (by decide) hk1 hFc hP1 hD1
              generalize H1 = H at hP hS ⊢
              have hP : va_P (dC, dI) classes [(b0, .inr (4, [.ref h0, .int cl, .int be, .int co, .int le, .int ro, .int sa, .int ks, .ref b1, .ref b2])), (h0, .inr (0, [.int sec, .ref h1, .int pw])), (h1, .inl (cB, n, .inl f_11))] H := hP
              have hD : va_D A [(b0, .inr (4, [.ref h0, .int cl, .int be, .int co, .int le, .int ro, .int sa, .int ks, .ref b1, .ref b2])), (h0, .inr (0, [.int sec, .ref h1, .int pw])), (h1, .inl (cB, n, .inl f_11))] := hD
              refine lv_iinc (v := 8) (lv' := [(7, .int 8), (6, .int 0), (0, .ref b0), (1, .int p1), (2, .int p2), (3, .int p3), (4, .int p4), (5, .int p5)]) hx hb d_Tb_writeFirstSectors_35 hl (k := 0) rfl (by decide) (by decide) rfl (fun ls hl => ?_)
              refine lv_goto (tgt := 14) hx hb d_Tb_writeFirstSectors_38 (by decide) ?_
              refine lv_iload hx hb d_Tb_writeFirstSectors_14 (lv_at hl 0 rfl) ?_
              refine lv_bipush (v := 11) hx hb d_Tb_writeFirstSectors_16 (by decide) ?_
              refine lv_icmp_ge (tgt := 41) hx hb d_Tb_writeFirstSectors_18 (by decide) (fun c_12 => ?_) (fun c_12 => ?_)
              · exact absurd c_12 (by decide)
              · refine lv_aload_n hx hb d_Tb_writeFirstSectors_21 rfl (lv_at hl 2 rfl) ?_
                refine va_get (D := (dC, dI)) (ci := 4) (v := .ref h0) (C := R_Tb) (T := F_Tb) (N := 10) hx hb hts i_Tb hown hK hP 0 rfl rfl 0 (by decide) (hts _ (k_Tb_6)) (fun _ h9 => h9) rfl d_Tb_writeFirstSectors_22 ?_
                refine lv_iload hx hb d_Tb_writeFirstSectors_25 (lv_at hl 1 rfl) ?_
                refine lv_iload hx hb d_Tb_writeFirstSectors_27 (lv_at hl 0 rfl) ?_
                refine lv_iadd hx hb d_Tb_writeFirstSectors_29 ?_
                refine lv_bipush (v := 32) hx hb d_Tb_writeFirstSectors_30 (by decide) ?_
                have hPc := hP.sub (ws' := [(h0, .inr (0, [.int sec, .ref h1, .int pw])), (h1, .inl (cB, n, .inl f_11))]) [1, 2] rfl
                have hDc := hD.sub (ws' := [(h0, .inr (0, [.int sec, .ref h1, .int pw])), (h1, .inl (cB, n, .inl f_11))]) [1, 2] (by decide) rfl
                have hKc := hK.sub (tys' := [(cB, .byte)]) [0] rfl
                have hFc := va_free (wc := [(h0, .inr (0, [.int sec, .ref h1, .int pw])), (h1, .inl (cB, n, .inl f_11))]) hD hS hA [1, 2] rfl
                refine va_callv (va_runV (As := [.int (0 + 8), .int 32]) (rest := []) ⟨hx, hb, hml, hown, hts⟩ (c_Dk_putOne l dC dI h0 h1 H.size cB sec pw n f_11 h4 hn (0 + 8) 32) (cwV 2 hts (gwV good_Tb (k_Tb_82) (u_Tb_Dk _ k_Dk_11) (u_Tb_Dk _ k_Dk_12) (u_Tb_Dk _ k_Dk_0) (wcs (u_Tb_Dk _ k_Dk_13) u_Tb_Dk)) rfl rfl rfl (by decide +kernel) ⟨Nat.le_of_ble_eq_true rfl, Nat.le_of_ble_eq_true rfl⟩) (pv_of hPc hKc hDc (va_recv hKc hPc (ci := 0) (q0 := 0) rfl rfl)) rfl rfl hl.1 rfl (lv_room (Nat.le_of_ble_eq_true rfl)) d_Tb_writeFirstSectors_32 ⟨by decide, by decide⟩) hS (fun q _ h => hFc q h) hFc (fun u t H1 locs ht hvm hw hB hz1 hk1 hS => ?_)
                subst hw
                obtain ⟨hP1, hK1, hD1⟩ := hB
                rw [ht] at hP1
                obtain ⟨f_13, ef_13⟩ : ∃ g : Nat → Int32, g = dk_put1 n f_11 (0 + 8) 32 := ⟨_, rfl⟩
                rw [← ef_13] at hP1 hD1
                have hP1 : va_P (dC, dI) classes [(h0, .inr (0, [.int sec, .ref h1, .int pw])), (h1, .inl (cB, n, .inl f_13))] H1 := hP1
                have hD1 : va_D _ [(h0, .inr (0, [.int sec, .ref h1, .int pw])), (h1, .inl (cB, n, .inl f_13))] := hD1
                obtain ⟨hP, hD⟩ := va_join (wr := [(b0, .inr (4, [.ref h0, .int cl, .int be, .int co, .int le, .int ro, .int sa, .int ks, .ref b1, .ref b2]))]) (w1 := [(h0, .inr (0, [.int sec, .ref h1, .int pw])), (h1, .inl (cB, n, .inl f_13))]) hP hD [1, 2] [0] rfl rfl (by decide) (by decide) hk1 hFc hP1 hD1
                generalize H1 = H at hP hS ⊢
                have hP : va_P (dC, dI) classes [(b0, .inr (4, [.ref h0, .int cl, .int be, .int co, .int le, .int ro, .int sa, .int ks, .ref b1, .ref b2])), (h0, .inr (0, [.int sec, .ref h1, .int pw])), (h1, .inl (cB, n, .inl f_13))] H := hP
                have hD : va_D A [(b0, .inr (4, [.ref h0, .int cl, .int be, .int co, .int le, .int ro, .int sa, .int ks, .ref b1, .ref b2])), (h0, .inr (0, [.int sec, .ref h1, .int pw])), (h1, .inl (cB, n, .inl f_13))] := hD
                refine lv_iinc (v := 9) (lv' := [(7, .int 9), (6, .int 0), (0, .ref b0), (1, .int p1), (2, .int p2), (3, .int p3), (4, .int p4), (5, .int p5)]) hx hb d_Tb_writeFirstSectors_35 hl (k := 0) rfl (by decide) (by decide) rfl (fun ls hl => ?_)
                refine lv_goto (tgt := 14) hx hb d_Tb_writeFirstSectors_38 (by decide) ?_
                refine lv_iload hx hb d_Tb_writeFirstSectors_14 (lv_at hl 0 rfl) ?_
                refine lv_bipush (v := 11) hx hb d_Tb_writeFirstSectors_16 (by decide) ?_
                refine lv_icmp_ge (tgt := 41) hx hb d_Tb_writeFirstSectors_18 (by decide) (fun c_14 => ?_) (fun c_14 => ?_)
                · exact absurd c_14 (by decide)
                · refine lv_aload_n hx hb d_Tb_writeFirstSectors_21 rfl (lv_at hl 2 rfl) ?_
                  refine va_get (D := (dC, dI)) (ci := 4) (v := .ref h0) (C := R_Tb) (T := F_Tb) (N := 10) hx hb hts i_Tb hown hK hP 0 rfl rfl 0 (by decide) (hts _ (k_Tb_6)) (fun _ h9 => h9) rfl d_Tb_writeFirstSectors_22 ?_
                  refine lv_iload hx hb d_Tb_writeFirstSectors_25 (lv_at hl 1 rfl) ?_
                  refine lv_iload hx hb d_Tb_writeFirstSectors_27 (lv_at hl 0 rfl) ?_
                  refine lv_iadd hx hb d_Tb_writeFirstSectors_29 ?_
                  refine lv_bipush (v := 32) hx hb d_Tb_writeFirstSectors_30 (by decide) ?_
                  have hPc := hP.sub (ws' := [(h0, .inr (0, [.int sec, .ref h1, .int pw])), (h1, .inl (cB, n, .inl f_13))]) [1, 2] rfl
                  have hDc := hD.sub (ws' := [(h0, .inr (0, [.int sec, .ref h1, .int pw])), (h1, .inl (cB, n, .inl f_13))]) [1, 2] (by decide) rfl
                  have hKc := hK.sub (tys' := [(cB, .byte)]) [0] rfl
                  have hFc := va_free (wc := [(h0, .inr (0, [.int sec, .ref h1, .int pw])), (h1, .inl (cB, n, .inl f_13))]) hD hS hA [1, 2] rfl
                  refine va_callv (va_runV (As := [.int (0 + 9), .int 32]) (rest := []) ⟨hx, hb, hml, hown, hts⟩ (c_Dk_putOne l dC dI h0 h1 H.size cB sec pw n f_13 h4 hn (0 + 9) 32) (cwV 2 hts (gwV good_Tb (k_Tb_82) (u_Tb_Dk _ k_Dk_11) (u_Tb_Dk _ k_Dk_12) (u_Tb_Dk _ k_Dk_0) (wcs (u_Tb_Dk _ k_Dk_13) u_Tb_Dk)) rfl rfl rfl (by decide +kernel) ⟨Nat.le_of_ble_eq_true rfl, Nat.le_of_ble_eq_true rfl⟩) (pv_of hPc hKc hDc (va_recv hKc hPc (ci := 0) (q0 := 0) rfl rfl)) rfl rfl hl.1 rfl (lv_room (Nat.le_of_ble_eq_true rfl)) d_Tb_writeFirstSectors_32 ⟨by decide, by decide⟩) hS (fun q _ h => hFc q h) hFc (fun u t H1 locs ht hvm hw hB hz1 hk1 hS => ?_)
                  subst hw
                  obtain ⟨hP1, hK1, hD1⟩ := hB
                  rw [ht] at hP1
                  obtain ⟨f_15, ef_15⟩ : ∃ g : Nat → Int32, g = dk_put1 n f_13 (0 + 9) 32 := ⟨_, rfl⟩
                  rw [← ef_15] at hP1 hD1
                  have hP1 : va_P (dC, dI) classes [(h0, .inr (0, [.int sec, .ref h1, .int pw])), (h1, .inl (cB, n, .inl f_15))] H1 := hP1
                  have hD1 : va_D _ [(h0, .inr (0, [.int sec, .ref h1, .int pw])), (h1, .inl (cB, n, .inl f_15))] := hD1
                  obtain ⟨hP, hD⟩ := va_join (wr := [(b0, .inr (4, [.ref h0, .int cl, .int be, .int co, .int le, .int ro, .int sa, .int ks, .ref b1, .ref b2]))]) (w1 := [(h0, .inr (0, [.int sec, .ref h1, .int pw])), (h1, .inl (cB, n, .inl f_15))]) hP hD [1, 2] [0] rfl rfl (by decide) (by decide) hk1 hFc hP1 hD1
                  generalize H1 = H at hP hS ⊢
                  have hP : va_P (dC, dI) classes [(b0, .inr (4, [.ref h0, .int cl, .int be, .int co, .int le, .int ro, .int sa, .int ks, .ref b1, .ref b2])), (h0, .inr (0, [.int sec, .ref h1, .int pw])), (h1, .inl (cB, n, .inl f_15))] H := hP
                  have hD : va_D A [(b0, .inr (4, [.ref h0, .int cl, .int be, .int co, .int le, .int ro, .int sa, .int ks, .ref b1, .ref b2])), (h0, .inr (0, [.int sec, .ref h1, .int pw])), (h1, .inl (cB, n, .inl f_15))] := hD
                  refine lv_iinc (v := 10) (lv' := [(7, .int 10), (6, .int 0), (0, .ref b0), (1, .int p1), (2, .int p2), (3, .int p3), (4, .int p4), (5, .int p5)]) hx hb d_Tb_writeFirstSectors_35 hl (k := 0) rfl (by decide) (by decide) rfl (fun ls hl => ?_)
                  refine lv_goto (tgt := 14) hx hb d_Tb_writeFirstSectors_38 (by decide) ?_
                  refine lv_iload hx hb d_Tb_writeFirstSectors_14 (lv_at hl 0 rfl) ?_
                  refine lv_bipush (v := 11) hx hb d_Tb_writeFirstSectors_16 (by decide) ?_
                  refine lv_icmp_ge (tgt := 41) hx hb d_Tb_writeFirstSectors_18 (by decide) (fun c_16 => ?_) (fun c_16 => ?_)
                  · exact absurd c_16 (by decide)
                  · refine lv_aload_n hx hb d_Tb_writeFirstSectors_21 rfl (lv_at hl 2 rfl) ?_
                    refine va_get (D := (dC, dI)) (ci := 4) (v := .ref h0) (C := R_Tb) (T := F_Tb) (N := 10) hx hb hts i_Tb hown hK hP 0 rfl rfl 0 (by decide) (hts _ (k_Tb_6)) (fun _ h9 => h9) rfl d_Tb_writeFirstSectors_22 ?_
                    refine lv_iload hx hb d_Tb_writeFirstSectors_25 (lv_at hl 1 rfl) ?_
                    refine lv_iload hx hb d_Tb_writeFirstSectors_27 (lv_at hl 0 rfl) ?_
                    refine lv_iadd hx hb d_Tb_writeFirstSectors_29 ?_
                    refine lv_bipush (v := 32) hx hb d_Tb_writeFirstSectors_30 (by decide) ?_
                    have hPc := hP.sub (ws' := [(h0, .inr (0, [.int sec, .ref h1, .int pw])), (h1, .inl (cB, n, .inl f_15))]) [1, 2] rfl
                    have hDc := hD.sub (ws' := [(h0, .inr (0, [.int sec, .ref h1, .int pw])), (h1, .inl (cB, n, .inl f_15))]) [1, 2] (by decide) rfl
                    have hKc := hK.sub (tys' := [(cB, .byte)]) [0] rfl
                    have hFc := va_free (wc := [(h0, .inr (0, [.int sec, .ref h1, .int pw])), (h1, .inl (cB, n, .inl f_15))]) hD hS hA [1, 2] rfl
                    refine va_callv (va_runV (As := [.int (0 + 10), .int 32]) (rest := []) ⟨hx, hb, hml, hown, hts⟩ (c_Dk_putOne l dC dI h0 h1 H.size cB sec pw n f_15 h4 hn (0 + 10) 32) (cwV 2 hts (gwV good_Tb (k_Tb_82) (u_Tb_Dk _ k_Dk_11) (u_Tb_Dk _ k_Dk_12) (u_Tb_Dk _ k_Dk_0) (wcs (u_Tb_Dk _ k_Dk_13) u_Tb_Dk)) rfl rfl rfl (by decide +kernel) ⟨Nat.le_of_ble_eq_true rfl, Nat.le_of_ble_eq_true rfl⟩) (pv_of hPc hKc hDc (va_recv hKc hPc (ci := 0) (q0 := 0) rfl rfl)) rfl rfl hl.1 rfl (lv_room (Nat.le_of_ble_eq_true rfl)) d_Tb_writeFirstSectors_32 ⟨by decide, by decide⟩) hS (fun q _ h => hFc q h) hFc (fun u t H1 locs ht hvm hw hB hz1 hk1 hS => ?_)
                    subst hw
                    obtain ⟨hP1, hK1, hD1⟩ := hB
                    rw [ht] at hP1
                    obtain ⟨f_17, ef_17⟩ : ∃ g : Nat → Int32, g = dk_put1 n f_15 (0 + 10) 32 := ⟨_, rfl⟩
                    rw [← ef_17] at hP1 hD1
                    have hP1 : va_P (dC, dI) classes [(h0, .inr (0, [.int sec, .ref h1, .int pw])), (h1, .inl (cB, n, .inl f_17))] H1 := hP1
                    have hD1 : va_D _ [(h0, .inr (0, [.int sec, .ref h1, .int pw])), (h1, .inl (cB, n, .inl f_17))] := hD1
                    obtain ⟨hP, hD⟩ := va_join (wr := [(b0, .inr (4, [.ref h0, .int cl, .int be, .int co, .int le, .int ro, .int sa, .int ks, .ref b1, .ref b2]))]) (w1 := [(h0, .inr (0, [.int sec, .ref h1, .int pw])), (h1, .inl (cB, n, .inl f_17))]) hP hD [1, 2] [0] rfl rfl (by decide) (by decide) hk1 hFc hP1 hD1
                    generalize H1 = H at hP hS ⊢
                    have hP : va_P (dC, dI) classes [(b0, .inr (4, [.ref h0, .int cl, .int be, .int co, .int le, .int ro, .int sa, .int ks, .ref b1, .ref b2])), (h0, .inr (0, [.int sec, .ref h1, .int pw])), (h1, .inl (cB, n, .inl f_17))] H := hP
                    have hD : va_D A [(b0, .inr (4, [.ref h0, .int cl, .int be, .int co, .int le, .int ro, .int sa, .int ks, .ref b1, .ref b2])), (h0, .inr (0, [.int sec, .ref h1, .int pw])), (h1, .inl (cB, n, .inl f_17))] := hD
                    refine lv_iinc (v := 11) (lv' := [(7, .int 11), (6, .int 0), (0, .ref b0), (1, .int p1), (2, .int p2), (3, .int p3), (4, .int p4), (5, .int p5)]) hx hb d_Tb_writeFirstSectors_35 hl (k := 0) rfl (by decide) (by decide) rfl (fun ls hl => ?_)
                    refine lv_goto (tgt := 14) hx hb d_Tb_writeFirstSectors_38 (by decide) ?_
                    refine lv_iload hx hb d_Tb_writeFirstSectors_14 (lv_at hl 0 rfl) ?_
                    refine lv_bipush (v := 11) hx hb d_Tb_writeFirstSectors_16 (by decide) ?_
                    refine lv_icmp_ge (tgt := 41) hx hb d_Tb_writeFirstSectors_18 (by decide) (fun c_18 => ?_) (fun c_18 => ?_)
                    · refine lv_aload_n hx hb d_Tb_writeFirstSectors_41 rfl (lv_at hl 2 rfl) ?_
                      refine va_get (D := (dC, dI)) (ci := 4) (v := .ref h0) (C := R_Tb) (T := F_Tb) (N := 10) hx hb hts i_Tb hown hK hP 0 rfl rfl 0 (by decide) (hts _ (k_Tb_6)) (fun _ h9 => h9) rfl d_Tb_writeFirstSectors_42 ?_
                      refine lv_iload hx hb d_Tb_writeFirstSectors_45 (lv_at hl 1 rfl) ?_
                      refine lv_bipush (v := 11) hx hb d_Tb_writeFirstSectors_47 (by decide) ?_
                      refine lv_iadd hx hb d_Tb_writeFirstSectors_49 ?_
                      refine lv_sipush (v := 512) hx hb d_Tb_writeFirstSectors_50 (by decide) ?_
                      have hPc := hP.sub (ws' := [(h0, .inr (0, [.int sec, .ref h1, .int pw])), (h1, .inl (cB, n, .inl f_17))]) [1, 2] rfl
                      have hDc := hD.sub (ws' := [(h0, .inr (0, [.int sec, .ref h1, .int pw])), (h1, .inl (cB, n, .inl f_17))]) [1, 2] (by decide) rfl
                      have hKc := hK.sub (tys' := [(cB, .byte)]) [0] rfl
                      have hFc := va_free (wc := [(h0, .inr (0, [.int sec, .ref h1, .int pw])), (h1, .inl (cB, n, .inl f_17))]) hD hS hA [1, 2] rfl
                      refine va_callv (va_runV (As := [.int (0 + 11), .int 512]) (rest := []) ⟨hx, hb, hml, hown, hts⟩ (c_Dk_putTwo l dC dI h0 h1 H.size cB sec pw n f_17 h4 hn (0 + 11) 512) (cwV 2 hts (gwV good_Tb (k_Tb_83) (u_Tb_Dk _ k_Dk_27) (u_Tb_Dk _ k_Dk_28) (u_Tb_Dk _ k_Dk_0) (wcs (u_Tb_Dk _ k_Dk_29) u_Tb_Dk)) rfl rfl rfl (by decide +kernel) ⟨Nat.le_of_ble_eq_true rfl, Nat.le_of_ble_eq_true rfl⟩) (pv_of hPc hKc hDc (va_recv hKc hPc (ci := 0) (q0 := 0) rfl rfl)) rfl rfl hl.1 rfl (lv_room (Nat.le_of_ble_eq_true rfl)) d_Tb_writeFirstSectors_53 ⟨by decide, by decide⟩) hS (fun q _ h => hFc q h) hFc (fun u t H1 locs ht hvm hw hB hz1 hk1 hS => ?_)
                      subst hw
                      obtain ⟨hP1, hK1, hD1⟩ := hB
                      rw [ht] at hP1
                      obtain ⟨f_19, ef_19⟩ : ∃ g : Nat → Int32, g = dk_put2 n f_17 (0 + 11) 512 := ⟨_, rfl⟩
                      rw [← ef_19] at hP1 hD1
                      have hP1 : va_P (dC, dI) classes [(h0, .inr (0, [.int sec, .ref h1, .int pw])), (h1, .inl (cB, n, .inl f_19))] H1 := hP1
                      have hD1 : va_D _ [(h0, .inr (0, [.int sec, .ref h1, .int pw])), (h1, .inl (cB, n, .inl f_19))] := hD1
                      obtain ⟨hP, hD⟩ := va_join (wr := [(b0, .inr (4, [.ref h0, .int cl, .int be, .int co, .int le, .int ro, .int sa, .int ks, .ref b1, .ref b2]))]) (w1 := [(h0, .inr (0, [.int sec, .ref h1, .int pw])), (h1, .inl (cB, n, .inl f_19))]) hP hD [1, 2] [0] rfl rfl (by decide) (by decide) hk1 hFc hP1 hD1
                      generalize H1 = H at hP hS ⊢
                      have hP : va_P (dC, dI) classes [(b0, .inr (4, [.ref h0, .int cl, .int be, .int co, .int le, .int ro, .int sa, .int ks, .ref b1, .ref b2])), (h0, .inr (0, [.int sec, .ref h1, .int pw])), (h1, .inl (cB, n, .inl f_19))] H := hP
                      have hD : va_D A [(b0, .inr (4, [.ref h0, .int cl, .int be, .int co, .int le, .int ro, .int sa, .int ks, .ref b1, .ref b2])), (h0, .inr (0, [.int sec, .ref h1, .int pw])), (h1, .inl (cB, n, .inl f_19))] := hD
                      refine lv_aload_n hx hb d_Tb_writeFirstSectors_56 rfl (lv_at hl 2 rfl) ?_
                      refine va_get (D := (dC, dI)) (ci := 4) (v := .ref h0) (C := R_Tb) (T := F_Tb) (N := 10) hx hb hts i_Tb hown hK hP 0 rfl rfl 0 (by decide) (hts _ (k_Tb_6)) (fun _ h9 => h9) rfl d_Tb_writeFirstSectors_57 ?_
                      refine lv_iload hx hb d_Tb_writeFirstSectors_60 (lv_at hl 1 rfl) ?_
                      refine lv_bipush (v := 13) hx hb d_Tb_writeFirstSectors_62 (by decide) ?_
                      refine lv_iadd hx hb d_Tb_writeFirstSectors_64 ?_
                      refine lv_iload_n hx hb d_Tb_writeFirstSectors_65 rfl (lv_at hl 3 rfl) ?_
                      have hPc := hP.sub (ws' := [(h0, .inr (0, [.int sec, .ref h1, .int pw])), (h1, .inl (cB, n, .inl f_19))]) [1, 2] rfl
                      have hDc := hD.sub (ws' := [(h0, .inr (0, [.int sec, .ref h1, .int pw])), (h1, .inl (cB, n, .inl f_19))]) [1, 2] (by decide) rfl
                      have hKc := hK.sub (tys' := [(cB, .byte)]) [0] rfl
                      have hFc := va_free (wc := [(h0, .inr (0, [.int sec, .ref h1, .int pw])), (h1, .inl (cB, n, .inl f_19))]) hD hS hA [1, 2] rfl
                      refine va_callv (va_runV (As := [.int (0 + 13), .int p1]) (rest := []) ⟨hx, hb, hml, hown, hts⟩ (c_Dk_putOne l dC dI h0 h1 H.size cB sec pw n f_19 h4 hn (0 + 13) p1) (cwV 2 hts (gwV good_Tb (k_Tb_82) (u_Tb_Dk _ k_Dk_11) (u_Tb_Dk _ k_Dk_12) (u_Tb_Dk _ k_Dk_0) (wcs (u_Tb_Dk _ k_Dk_13) u_Tb_Dk)) rfl rfl rfl (by decide +kernel) ⟨Nat.le_of_ble_eq_true rfl, Nat.le_of_ble_eq_true rfl⟩) (pv_of hPc hKc hDc (va_recv hKc hPc (ci := 0) (q0 := 0) rfl rfl)) rfl rfl hl.1 rfl (lv_room (Nat.le_of_ble_eq_true rfl)) d_Tb_writeFirstSectors_66 ⟨by decide, by decide⟩) hS (fun q _ h => hFc q h) hFc (fun u t H1 locs ht hvm hw hB hz1 hk1 hS => ?_)
                      subst hw
                      obtain ⟨hP1, hK1, hD1⟩ := hB
                      rw [ht] at hP1
                      obtain ⟨f_20, ef_20⟩ : ∃ g : Nat → Int32, g = dk_put1 n f_19 (0 + 13) p1 := ⟨_, rfl⟩
                      rw [← ef_20] at hP1 hD1
                      have hP1 : va_P (dC, dI) classes [(h0, .inr (0, [.int sec, .ref h1, .int pw])), (h1, .inl (cB, n, .inl f_20))] H1 := hP1
                      have hD1 : va_D _ [(h0, .inr (0, [.int sec, .ref h1, .int pw])), (h1, .inl (cB, n, .inl f_20))] := hD1
                      obtain ⟨hP, hD⟩ := va_join (wr := [(b0, .inr (4, [.ref h0, .int cl, .int be, .int co, .int le, .int ro, .int sa, .int ks, .ref b1, .ref b2]))]) (w1 := [(h0, .inr (0, [.int sec, .ref h1, .int pw])), (h1, .inl (cB, n, .inl f_20))]) hP hD [1, 2] [0] rfl rfl (by decide) (by decide) hk1 hFc hP1 hD1
                      generalize H1 = H at hP hS ⊢
                      have hP : va_P (dC, dI) classes [(b0, .inr (4, [.ref h0, .int cl, .int be, .int co, .int le, .int ro, .int sa, .int ks, .ref b1, .ref b2])), (h0, .inr (0, [.int sec, .ref h1, .int pw])), (h1, .inl (cB, n, .inl f_20))] H := hP
                      have hD : va_D A [(b0, .inr (4, [.ref h0, .int cl, .int be, .int co, .int le, .int ro, .int sa, .int ks, .ref b1, .ref b2])), (h0, .inr (0, [.int sec, .ref h1, .int pw])), (h1, .inl (cB, n, .inl f_20))] := hD
                      refine lv_aload_n hx hb d_Tb_writeFirstSectors_69 rfl (lv_at hl 2 rfl) ?_
                      refine va_get (D := (dC, dI)) (ci := 4) (v := .ref h0) (C := R_Tb) (T := F_Tb) (N := 10) hx hb hts i_Tb hown hK hP 0 rfl rfl 0 (by decide) (hts _ (k_Tb_6)) (fun _ h9 => h9) rfl d_Tb_writeFirstSectors_70 ?_
                      refine lv_iload hx hb d_Tb_writeFirstSectors_73 (lv_at hl 1 rfl) ?_
                      refine lv_bipush (v := 14) hx hb d_Tb_writeFirstSectors_75 (by decide) ?_
                      refine lv_iadd hx hb d_Tb_writeFirstSectors_77 ?_
                      refine lv_iload_n hx hb d_Tb_writeFirstSectors_78 rfl (lv_at hl 4 rfl) ?_
                      have hPc := hP.sub (ws' := [(h0, .inr (0, [.int sec, .ref h1, .int pw])), (h1, .inl (cB, n, .inl f_20))]) [1, 2] rfl
                      have hDc := hD.sub (ws' := [(h0, .inr (0, [.int sec, .ref h1, .int pw])), (h1, .inl (cB, n, .inl f_20))]) [1, 2] (by decide) rfl
                      have hKc := hK.sub (tys' := [(cB, .byte)]) [0] rfl
                      have hFc := va_free (wc := [(h0, .inr (0, [.int sec, .ref h1, .int pw])), (h1, .inl (cB, n, .inl f_20))]) hD hS hA [1, 2] rfl
                      refine va_callv (va_runV (As := [.int (0 + 14), .int p2]) (rest := []) ⟨hx, hb, hml, hown, hts⟩ (c_Dk_putTwo l dC dI h0 h1 H.size cB sec pw n f_20 h4 hn (0 + 14) p2) (cwV 2 hts (gwV good_Tb (k_Tb_83) (u_Tb_Dk _ k_Dk_27) (u_Tb_Dk _ k_Dk_28) (u_Tb_Dk _ k_Dk_0) (wcs (u_Tb_Dk _ k_Dk_29) u_Tb_Dk)) rfl rfl rfl (by decide +kernel) ⟨Nat.le_of_ble_eq_true rfl, Nat.le_of_ble_eq_true rfl⟩) (pv_of hPc hKc hDc (va_recv hKc hPc (ci := 0) (q0 := 0) rfl rfl)) rfl rfl hl.1 rfl (lv_room (Nat.le_of_ble_eq_true rfl)) d_Tb_writeFirstSectors_79 ⟨by decide, by decide⟩) hS (fun q _ h => hFc q h) hFc (fun u t H1 locs ht hvm hw hB hz1 hk1 hS => ?_)
                      subst hw
                      obtain ⟨hP1, hK1, hD1⟩ := hB
                      rw [ht] at hP1
                      obtain ⟨f_21, ef_21⟩ : ∃ g : Nat → Int32, g = dk_put2 n f_20 (0 + 14) p2 := ⟨_, rfl⟩
                      rw [← ef_21] at hP1 hD1
                      have hP1 : va_P (dC, dI) classes [(h0, .inr (0, [.int sec, .ref h1, .int pw])), (h1, .inl (cB, n, .inl f_21))] H1 := hP1
                      have hD1 : va_D _ [(h0, .inr (0, [.int sec, .ref h1, .int pw])), (h1, .inl (cB, n, .inl f_21))] := hD1
                      obtain ⟨hP, hD⟩ := va_join (wr := [(b0, .inr (4, [.ref h0, .int cl, .int be, .int co, .int le, .int ro, .int sa, .int ks, .ref b1, .ref b2]))]) (w1 := [(h0, .inr (0, [.int sec, .ref h1, .int pw])), (h1, .inl (cB, n, .inl f_21))]) hP hD [1, 2] [0] rfl rfl (by decide) (by decide) hk1 hFc hP1 hD1
                      generalize H1 = H at hP hS ⊢
                      have hP : va_P (dC, dI) classes [(b0, .inr (4, [.ref h0, .int cl, .int be, .int co, .int le, .int ro, .int sa, .int ks, .ref b1, .ref b2])), (h0, .inr (0, [.int sec, .ref h1, .int pw])), (h1, .inl (cB, n, .inl f_21))] H := hP
                      have hD : va_D A [(b0, .inr (4, [.ref h0, .int cl, .int be, .int co, .int le, .int ro, .int sa, .int ks, .ref b1, .ref b2])), (h0, .inr (0, [.int sec, .ref h1, .int pw])), (h1, .inl (cB, n, .inl f_21))] := hD
                      refine lv_aload_n hx hb d_Tb_writeFirstSectors_82 rfl (lv_at hl 2 rfl) ?_
                      refine va_get (D := (dC, dI)) (ci := 4) (v := .ref h0) (C := R_Tb) (T := F_Tb) (N := 10) hx hb hts i_Tb hown hK hP 0 rfl rfl 0 (by decide) (hts _ (k_Tb_6)) (fun _ h9 => h9) rfl d_Tb_writeFirstSectors_83 ?_
                      refine lv_iload hx hb d_Tb_writeFirstSectors_86 (lv_at hl 1 rfl) ?_
                      refine lv_bipush (v := 16) hx hb d_Tb_writeFirstSectors_88 (by decide) ?_
                      refine lv_iadd hx hb d_Tb_writeFirstSectors_90 ?_
                      refine lv_iload_n hx hb d_Tb_writeFirstSectors_91 rfl (lv_at hl 5 rfl) ?_
                      have hPc := hP.sub (ws' := [(h0, .inr (0, [.int sec, .ref h1, .int pw])), (h1, .inl (cB, n, .inl f_21))]) [1, 2] rfl
                      have hDc := hD.sub (ws' := [(h0, .inr (0, [.int sec, .ref h1, .int pw])), (h1, .inl (cB, n, .inl f_21))]) [1, 2] (by decide) rfl
                      have hKc := hK.sub (tys' := [(cB, .byte)]) [0] rfl
                      have hFc := va_free (wc := [(h0, .inr (0, [.int sec, .ref h1, .int pw])), (h1, .inl (cB, n, .inl f_21))]) hD hS hA [1, 2] rfl
                      refine va_callv (va_runV (As := [.int (0 + 16), .int p3]) (rest := []) ⟨hx, hb, hml, hown, hts⟩ (c_Dk_putOne l dC dI h0 h1 H.size cB sec pw n f_21 h4 hn (0 + 16) p3) (cwV 2 hts (gwV good_Tb (k_Tb_82) (u_Tb_Dk _ k_Dk_11) (u_Tb_Dk _ k_Dk_12) (u_Tb_Dk _ k_Dk_0) (wcs (u_Tb_Dk _ k_Dk_13) u_Tb_Dk)) rfl rfl rfl (by decide +kernel) ⟨Nat.le_of_ble_eq_true rfl, Nat.le_of_ble_eq_true rfl⟩) (pv_of hPc hKc hDc (va_recv hKc hPc (ci := 0) (q0 := 0) rfl rfl)) rfl rfl hl.1 rfl (lv_room (Nat.le_of_ble_eq_true rfl)) d_Tb_writeFirstSectors_92 ⟨by decide, by decide⟩) hS (fun q _ h => hFc q h) hFc (fun u t H1 locs ht hvm hw hB hz1 hk1 hS => ?_)
                      subst hw
                      obtain ⟨hP1, hK1, hD1⟩ := hB
                      rw [ht] at hP1
                      obtain ⟨f_22, ef_22⟩ : ∃ g : Nat → Int32, g = dk_put1 n f_21 (0 + 16) p3 := ⟨_, rfl⟩
                      rw [← ef_22] at hP1 hD1
                      have hP1 : va_P (dC, dI) classes [(h0, .inr (0, [.int sec, .ref h1, .int pw])), (h1, .inl (cB, n, .inl f_22))] H1 := hP1
                      have hD1 : va_D _ [(h0, .inr (0, [.int sec, .ref h1, .int pw])), (h1, .inl (cB, n, .inl f_22))] := hD1
                      obtain ⟨hP, hD⟩ := va_join (wr := [(b0, .inr (4, [.ref h0, .int cl, .int be, .int co, .int le, .int ro, .int sa, .int ks, .ref b1, .ref b2]))]) (w1 := [(h0, .inr (0, [.int sec, .ref h1, .int pw])), (h1, .inl (cB, n, .inl f_22))]) hP hD [1, 2] [0] rfl rfl (by decide) (by decide) hk1 hFc hP1 hD1
                      generalize H1 = H at hP hS ⊢
                      have hP : va_P (dC, dI) classes [(b0, .inr (4, [.ref h0, .int cl, .int be, .int co, .int le, .int ro, .int sa, .int ks, .ref b1, .ref b2])), (h0, .inr (0, [.int sec, .ref h1, .int pw])), (h1, .inl (cB, n, .inl f_22))] H := hP
                      have hD : va_D A [(b0, .inr (4, [.ref h0, .int cl, .int be, .int co, .int le, .int ro, .int sa, .int ks, .ref b1, .ref b2])), (h0, .inr (0, [.int sec, .ref h1, .int pw])), (h1, .inl (cB, n, .inl f_22))] := hD
                      refine lv_aload_n hx hb d_Tb_writeFirstSectors_95 rfl (lv_at hl 2 rfl) ?_
                      refine va_get (D := (dC, dI)) (ci := 4) (v := .ref h0) (C := R_Tb) (T := F_Tb) (N := 10) hx hb hts i_Tb hown hK hP 0 rfl rfl 0 (by decide) (hts _ (k_Tb_6)) (fun _ h9 => h9) rfl d_Tb_writeFirstSectors_96 ?_
                      refine lv_iload hx hb d_Tb_writeFirstSectors_99 (lv_at hl 1 rfl) ?_
                      refine lv_bipush (v := 32) hx hb d_Tb_writeFirstSectors_101 (by decide) ?_
                      refine lv_iadd hx hb d_Tb_writeFirstSectors_103 ?_
                      refine lv_aload_n hx hb d_Tb_writeFirstSectors_104 rfl (lv_at hl 2 rfl) ?_
                      refine va_get (D := (dC, dI)) (ci := 4) (v := .ref h0) (C := R_Tb) (T := F_Tb) (N := 10) hx hb hts i_Tb hown hK hP 0 rfl rfl 0 (by decide) (hts _ (k_Tb_6)) (fun _ h9 => h9) rfl d_Tb_writeFirstSectors_105 ?_
                      refine va_get (D := (dC, dI)) (ci := 0) (v := .int sec) (C := R_Dk) (T := F_Dk) (N := 3) hx hb hts (fun w h => u_Tb_Dk w (i_Dk w h)) hown hK hP 1 rfl rfl 0 (by decide) (hts _ (k_Tb_1)) (fun _ h9 => h9) rfl d_Tb_writeFirstSectors_108 ?_
                      have hPc := hP.sub (ws' := [(h0, .inr (0, [.int sec, .ref h1, .int pw])), (h1, .inl (cB, n, .inl f_22))]) [1, 2] rfl
                      have hDc := hD.sub (ws' := [(h0, .inr (0, [.int sec, .ref h1, .int pw])), (h1, .inl (cB, n, .inl f_22))]) [1, 2] (by decide) rfl
                      have hKc := hK.sub (tys' := [(cB, .byte)]) [0] rfl
                      have hFc := va_free (wc := [(h0, .inr (0, [.int sec, .ref h1, .int pw])), (h1, .inl (cB, n, .inl f_22))]) hD hS hA [1, 2] rfl
                      refine va_callv (va_runV (As := [.int (0 + 32), .int sec]) (rest := []) ⟨hx, hb, hml, hown, hts⟩ (c_Dk_putFour l dC dI h0 h1 H.size cB sec pw n f_22 h4 hn (0 + 32) sec) (cwV 2 hts (gwV good_Tb (k_Tb_84) (u_Tb_Dk _ k_Dk_30) (u_Tb_Dk _ k_Dk_31) (u_Tb_Dk _ k_Dk_0) (wcs (u_Tb_Dk _ k_Dk_32) u_Tb_Dk)) rfl rfl rfl (by decide +kernel) ⟨Nat.le_of_ble_eq_true rfl, Nat.le_of_ble_eq_true rfl⟩) (pv_of hPc hKc hDc (va_recv hKc hPc (ci := 0) (q0 := 0) rfl rfl)) rfl rfl hl.1 rfl (lv_room (Nat.le_of_ble_eq_true rfl)) d_Tb_writeFirstSectors_111 ⟨by decide, by decide⟩) hS (fun q _ h => hFc q h) hFc (fun u t H1 locs ht hvm hw hB hz1 hk1 hS => ?_)
                      subst hw
                      obtain ⟨hP1, hK1, hD1⟩ := hB
                      rw [ht] at hP1
                      obtain ⟨f_23, ef_23⟩ : ∃ g : Nat → Int32, g = dk_put4 n f_22 (0 + 32) sec := ⟨_, rfl⟩
                      rw [← ef_23] at hP1 hD1
                      have hP1 : va_P (dC, dI) classes [(h0, .inr (0, [.int sec, .ref h1, .int pw])), (h1, .inl (cB, n, .inl f_23))] H1 := hP1
                      have hD1 : va_D _ [(h0, .inr (0, [.int sec, .ref h1, .int pw])), (h1, .inl (cB, n, .inl f_23))] := hD1
                      obtain ⟨hP, hD⟩ := va_join (wr := [(b0, .inr (4, [.ref h0, .int cl, .int be, .int co, .int le, .int ro, .int sa, .int ks, .ref b1, .ref b2]))]) (w1 := [(h0, .inr (0, [.int sec, .ref h1, .int pw])), (h1, .inl (cB, n, .inl f_23))]) hP hD [1, 2] [0] rfl rfl (by decide) (by decide) hk1 hFc hP1 hD1
                      generalize H1 = H at hP hS ⊢
                      have hP : va_P (dC, dI) classes [(b0, .inr (4, [.ref h0, .int cl, .int be, .int co, .int le, .int ro, .int sa, .int ks, .ref b1, .ref b2])), (h0, .inr (0, [.int sec, .ref h1, .int pw])), (h1, .inl (cB, n, .inl f_23))] H := hP
                      have hD : va_D A [(b0, .inr (4, [.ref h0, .int cl, .int be, .int co, .int le, .int ro, .int sa, .int ks, .ref b1, .ref b2])), (h0, .inr (0, [.int sec, .ref h1, .int pw])), (h1, .inl (cB, n, .inl f_23))] := hD
                      refine lv_aload_n hx hb d_Tb_writeFirstSectors_114 rfl (lv_at hl 2 rfl) ?_
                      refine va_get (D := (dC, dI)) (ci := 4) (v := .ref h0) (C := R_Tb) (T := F_Tb) (N := 10) hx hb hts i_Tb hown hK hP 0 rfl rfl 0 (by decide) (hts _ (k_Tb_6)) (fun _ h9 => h9) rfl d_Tb_writeFirstSectors_115 ?_
                      refine lv_iload hx hb d_Tb_writeFirstSectors_118 (lv_at hl 1 rfl) ?_
                      refine lv_bipush (v := 36) hx hb d_Tb_writeFirstSectors_120 (by decide) ?_
                      refine lv_iadd hx hb d_Tb_writeFirstSectors_122 ?_
                      refine lv_iload hx hb d_Tb_writeFirstSectors_123 (lv_at hl 6 rfl) ?_
                      have hPc := hP.sub (ws' := [(h0, .inr (0, [.int sec, .ref h1, .int pw])), (h1, .inl (cB, n, .inl f_23))]) [1, 2] rfl
                      have hDc := hD.sub (ws' := [(h0, .inr (0, [.int sec, .ref h1, .int pw])), (h1, .inl (cB, n, .inl f_23))]) [1, 2] (by decide) rfl
                      have hKc := hK.sub (tys' := [(cB, .byte)]) [0] rfl
                      have hFc := va_free (wc := [(h0, .inr (0, [.int sec, .ref h1, .int pw])), (h1, .inl (cB, n, .inl f_23))]) hD hS hA [1, 2] rfl
                      refine va_callv (va_runV (As := [.int (0 + 36), .int p4]) (rest := []) ⟨hx, hb, hml, hown, hts⟩ (c_Dk_putFour l dC dI h0 h1 H.size cB sec pw n f_23 h4 hn (0 + 36) p4) (cwV 2 hts (gwV good_Tb (k_Tb_84) (u_Tb_Dk _ k_Dk_30) (u_Tb_Dk _ k_Dk_31) (u_Tb_Dk _ k_Dk_0) (wcs (u_Tb_Dk _ k_Dk_32) u_Tb_Dk)) rfl rfl rfl (by decide +kernel) ⟨Nat.le_of_ble_eq_true rfl, Nat.le_of_ble_eq_true rfl⟩) (pv_of hPc hKc hDc (va_recv hKc hPc (ci := 0) (q0 := 0) rfl rfl)) rfl rfl hl.1 rfl (lv_room (Nat.le_of_ble_eq_true rfl)) d_Tb_writeFirstSectors_125 ⟨by decide, by decide⟩) hS (fun q _ h => hFc q h) hFc (fun u t H1 locs ht hvm hw hB hz1 hk1 hS => ?_)
                      subst hw
                      obtain ⟨hP1, hK1, hD1⟩ := hB
                      rw [ht] at hP1
                      obtain ⟨f_24, ef_24⟩ : ∃ g : Nat → Int32, g = dk_put4 n f_23 (0 + 36) p4 := ⟨_, rfl⟩
                      rw [← ef_24] at hP1 hD1
                      have hP1 : va_P (dC, dI) classes [(h0, .inr (0, [.int sec, .ref h1, .int pw])), (h1, .inl (cB, n, .inl f_24))] H1 := hP1
                      have hD1 : va_D _ [(h0, .inr (0, [.int sec, .ref h1, .int pw])), (h1, .inl (cB, n, .inl f_24))] := hD1
                      obtain ⟨hP, hD⟩ := va_join (wr := [(b0, .inr (4, [.ref h0, .int cl, .int be, .int co, .int le, .int ro, .int sa, .int ks, .ref b1, .ref b2]))]) (w1 := [(h0, .inr (0, [.int sec, .ref h1, .int pw])), (h1, .inl (cB, n, .inl f_24))]) hP hD [1, 2] [0] rfl rfl (by decide) (by decide) hk1 hFc hP1 hD1
                      generalize H1 = H at hP hS ⊢
                      have hP : va_P (dC, dI) classes [(b0, .inr (4, [.ref h0, .int cl, .int be, .int co, .int le, .int ro, .int sa, .int ks, .ref b1, .ref b2])), (h0, .inr (0, [.int sec, .ref h1, .int pw])), (h1, .inl (cB, n, .inl f_24))] H := hP
                      have hD : va_D A [(b0, .inr (4, [.ref h0, .int cl, .int be, .int co, .int le, .int ro, .int sa, .int ks, .ref b1, .ref b2])), (h0, .inr (0, [.int sec, .ref h1, .int pw])), (h1, .inl (cB, n, .inl f_24))] := hD
                      refine lv_aload_n hx hb d_Tb_writeFirstSectors_128 rfl (lv_at hl 2 rfl) ?_
                      refine va_get (D := (dC, dI)) (ci := 4) (v := .ref h0) (C := R_Tb) (T := F_Tb) (N := 10) hx hb hts i_Tb hown hK hP 0 rfl rfl 0 (by decide) (hts _ (k_Tb_6)) (fun _ h9 => h9) rfl d_Tb_writeFirstSectors_129 ?_
                      refine lv_iload hx hb d_Tb_writeFirstSectors_132 (lv_at hl 1 rfl) ?_
                      refine lv_bipush (v := 44) hx hb d_Tb_writeFirstSectors_134 (by decide) ?_
                      refine lv_iadd hx hb d_Tb_writeFirstSectors_136 ?_
                      refine lv_iconst (v := 2) hx hb d_Tb_writeFirstSectors_137 (by decide) ?_
                      have hPc := hP.sub (ws' := [(h0, .inr (0, [.int sec, .ref h1, .int pw])), (h1, .inl (cB, n, .inl f_24))]) [1, 2] rfl
                      have hDc := hD.sub (ws' := [(h0, .inr (0, [.int sec, .ref h1, .int pw])), (h1, .inl (cB, n, .inl f_24))]) [1, 2] (by decide) rfl
                      have hKc := hK.sub (tys' := [(cB, .byte)]) [0] rfl
                      have hFc := va_free (wc := [(h0, .inr (0, [.int sec, .ref h1, .int pw])), (h1, .inl (cB, n, .inl f_24))]) hD hS hA [1, 2] rfl
                      refine va_callv (va_runV (As := [.int (0 + 44), .int 2]) (rest := []) ⟨hx, hb, hml, hown, hts⟩ (c_Dk_putFour l dC dI h0 h1 H.size cB sec pw n f_24 h4 hn (0 + 44) 2) (cwV 2 hts (gwV good_Tb (k_Tb_84) (u_Tb_Dk _ k_Dk_30) (u_Tb_Dk _ k_Dk_31) (u_Tb_Dk _ k_Dk_0) (wcs (u_Tb_Dk _ k_Dk_32) u_Tb_Dk)) rfl rfl rfl (by decide +kernel) ⟨Nat.le_of_ble_eq_true rfl, Nat.le_of_ble_eq_true rfl⟩) (pv_of hPc hKc hDc (va_recv hKc hPc (ci := 0) (q0 := 0) rfl rfl)) rfl rfl hl.1 rfl (lv_room (Nat.le_of_ble_eq_true rfl)) d_Tb_writeFirstSectors_138 ⟨by decide, by decide⟩) hS (fun q _ h => hFc q h) hFc (fun u t H1 locs ht hvm hw hB hz1 hk1 hS => ?_)
                      subst hw
                      obtain ⟨hP1, hK1, hD1⟩ := hB
                      rw [ht] at hP1
                      obtain ⟨f_25, ef_25⟩ : ∃ g : Nat → Int32, g = dk_put4 n f_24 (0 + 44) 2 := ⟨_, rfl⟩
                      rw [← ef_25] at hP1 hD1
                      have hP1 : va_P (dC, dI) classes [(h0, .inr (0, [.int sec, .ref h1, .int pw])), (h1, .inl (cB, n, .inl f_25))] H1 := hP1
                      have hD1 : va_D _ [(h0, .inr (0, [.int sec, .ref h1, .int pw])), (h1, .inl (cB, n, .inl f_25))] := hD1
                      obtain ⟨hP, hD⟩ := va_join (wr := [(b0, .inr (4, [.ref h0, .int cl, .int be, .int co, .int le, .int ro, .int sa, .int ks, .ref b1, .ref b2]))]) (w1 := [(h0, .inr (0, [.int sec, .ref h1, .int pw])), (h1, .inl (cB, n, .inl f_25))]) hP hD [1, 2] [0] rfl rfl (by decide) (by decide) hk1 hFc hP1 hD1
                      generalize H1 = H at hP hS ⊢
                      have hP : va_P (dC, dI) classes [(b0, .inr (4, [.ref h0, .int cl, .int be, .int co, .int le, .int ro, .int sa, .int ks, .ref b1, .ref b2])), (h0, .inr (0, [.int sec, .ref h1, .int pw])), (h1, .inl (cB, n, .inl f_25))] H := hP
                      have hD : va_D A [(b0, .inr (4, [.ref h0, .int cl, .int be, .int co, .int le, .int ro, .int sa, .int ks, .ref b1, .ref b2])), (h0, .inr (0, [.int sec, .ref h1, .int pw])), (h1, .inl (cB, n, .inl f_25))] := hD
                      refine lv_aload_n hx hb d_Tb_writeFirstSectors_141 rfl (lv_at hl 2 rfl) ?_
                      refine va_get (D := (dC, dI)) (ci := 4) (v := .ref h0) (C := R_Tb) (T := F_Tb) (N := 10) hx hb hts i_Tb hown hK hP 0 rfl rfl 0 (by decide) (hts _ (k_Tb_6)) (fun _ h9 => h9) rfl d_Tb_writeFirstSectors_142 ?_
                      refine lv_iload hx hb d_Tb_writeFirstSectors_145 (lv_at hl 1 rfl) ?_
                      refine lv_bipush (v := 48) hx hb d_Tb_writeFirstSectors_147 (by decide) ?_
                      refine lv_iadd hx hb d_Tb_writeFirstSectors_149 ?_
                      refine lv_iconst (v := 1) hx hb d_Tb_writeFirstSectors_150 (by decide) ?_
                      have hPc := hP.sub (ws' := [(h0, .inr (0, [.int sec, .ref h1, .int pw])), (h1, .inl (cB, n, .inl f_25))]) [1, 2] rfl
                      have hDc := hD.sub (ws' := [(h0, .inr (0, [.int sec, .ref h1, .int pw])), (h1, .inl (cB, n, .inl f_25))]) [1, 2] (by decide) rfl
                      have hKc := hK.sub (tys' := [(cB, .byte)]) [0] rfl
                      have hFc := va_free (wc := [(h0, .inr (0, [.int sec, .ref h1, .int pw])), (h1, .inl (cB, n, .inl f_25))]) hD hS hA [1, 2] rfl
                      refine va_callv (va_runV (As := [.int (0 + 48), .int 1]) (rest := []) ⟨hx, hb, hml, hown, hts⟩ (c_Dk_putTwo l dC dI h0 h1 H.size cB sec pw n f_25 h4 hn (0 + 48) 1) (cwV 2 hts (gwV good_Tb (k_Tb_83) (u_Tb_Dk _ k_Dk_27) (u_Tb_Dk _ k_Dk_28) (u_Tb_Dk _ k_Dk_0) (wcs (u_Tb_Dk _ k_Dk_29) u_Tb_Dk)) rfl rfl rfl (by decide +kernel) ⟨Nat.le_of_ble_eq_true rfl, Nat.le_of_ble_eq_true rfl⟩) (pv_of hPc hKc hDc (va_recv hKc hPc (ci := 0) (q0 := 0) rfl rfl)) rfl rfl hl.1 rfl (lv_room (Nat.le_of_ble_eq_true rfl)) d_Tb_writeFirstSectors_151 ⟨by decide, by decide⟩) hS (fun q _ h => hFc q h) hFc (fun u t H1 locs ht hvm hw hB hz1 hk1 hS => ?_)
                      subst hw
                      obtain ⟨hP1, hK1, hD1⟩ := hB
                      rw [ht] at hP1
                      obtain ⟨f_26, ef_26⟩ : ∃ g : Nat → Int32, g = dk_put2 n f_25 (0 + 48) 1 := ⟨_, rfl⟩
                      rw [← ef_26] at hP1 hD1
                      have hP1 : va_P (dC, dI) classes [(h0, .inr (0, [.int sec, .ref h1, .int pw])), (h1, .inl (cB, n, .inl f_26))] H1 := hP1
                      have hD1 : va_D _ [(h0, .inr (0, [.int sec, .ref h1, .int pw])), (h1, .inl (cB, n, .inl f_26))] := hD1
                      obtain ⟨hP, hD⟩ := va_join (wr := [(b0, .inr (4, [.ref h0, .int cl, .int be, .int co, .int le, .int ro, .int sa, .int ks, .ref b1, .ref b2]))]) (w1 := [(h0, .inr (0, [.int sec, .ref h1, .int pw])), (h1, .inl (cB, n, .inl f_26))]) hP hD [1, 2] [0] rfl rfl (by decide) (by decide) hk1 hFc hP1 hD1
                      generalize H1 = H at hP hS ⊢
                      have hP : va_P (dC, dI) classes [(b0, .inr (4, [.ref h0, .int cl, .int be, .int co, .int le, .int ro, .int sa, .int ks, .ref b1, .ref b2])), (h0, .inr (0, [.int sec, .ref h1, .int pw])), (h1, .inl (cB, n, .inl f_26))] H := hP
                      have hD : va_D A [(b0, .inr (4, [.ref h0, .int cl, .int be, .int co, .int le, .int ro, .int sa, .int ks, .ref b1, .ref b2])), (h0, .inr (0, [.int sec, .ref h1, .int pw])), (h1, .inl (cB, n, .inl f_26))] := hD
                      refine lv_aload_n hx hb d_Tb_writeFirstSectors_154 rfl (lv_at hl 2 rfl) ?_
                      refine va_get (D := (dC, dI)) (ci := 4) (v := .ref h0) (C := R_Tb) (T := F_Tb) (N := 10) hx hb hts i_Tb hown hK hP 0 rfl rfl 0 (by decide) (hts _ (k_Tb_6)) (fun _ h9 => h9) rfl d_Tb_writeFirstSectors_155 ?_
                      refine lv_iload hx hb d_Tb_writeFirstSectors_158 (lv_at hl 1 rfl) ?_
                      refine lv_bipush (v := 50) hx hb d_Tb_writeFirstSectors_160 (by decide) ?_
                      refine lv_iadd hx hb d_Tb_writeFirstSectors_162 ?_
                      refine lv_bipush (v := 6) hx hb d_Tb_writeFirstSectors_163 (by decide) ?_
                      have hPc := hP.sub (ws' := [(h0, .inr (0, [.int sec, .ref h1, .int pw])), (h1, .inl (cB, n, .inl f_26))]) [1, 2] rfl
                      have hDc := hD.sub (ws' := [(h0, .inr (0, [.int sec, .ref h1, .int pw])), (h1, .inl (cB, n, .inl f_26))]) [1, 2] (by decide) rfl
                      have hKc := hK.sub (tys' := [(cB, .byte)]) [0] rfl
                      have hFc := va_free (wc := [(h0, .inr (0, [.int sec, .ref h1, .int pw])), (h1, .inl (cB, n, .inl f_26))]) hD hS hA [1, 2] rfl
                      refine va_callv (va_runV (As := [.int (0 + 50), .int 6]) (rest := []) ⟨hx, hb, hml, hown, hts⟩ (c_Dk_putTwo l dC dI h0 h1 H.size cB sec pw n f_26 h4 hn (0 + 50) 6) (cwV 2 hts (gwV good_Tb (k_Tb_83) (u_Tb_Dk _ k_Dk_27) (u_Tb_Dk _ k_Dk_28) (u_Tb_Dk _ k_Dk_0) (wcs (u_Tb_Dk _ k_Dk_29) u_Tb_Dk)) rfl rfl rfl (by decide +kernel) ⟨Nat.le_of_ble_eq_true rfl, Nat.le_of_ble_eq_true rfl⟩) (pv_of hPc hKc hDc (va_recv hKc hPc (ci := 0) (q0 := 0) rfl rfl)) rfl rfl hl.1 rfl (lv_room (Nat.le_of_ble_eq_true rfl)) d_Tb_writeFirstSectors_165 ⟨by decide, by decide⟩) hS (fun q _ h => hFc q h) hFc (fun u t H1 locs ht hvm hw hB hz1 hk1 hS => ?_)
                      subst hw
                      obtain ⟨hP1, hK1, hD1⟩ := hB
                      rw [ht] at hP1
                      obtain ⟨f_27, ef_27⟩ : ∃ g : Nat → Int32, g = dk_put2 n f_26 (0 + 50) 6 := ⟨_, rfl⟩
                      rw [← ef_27] at hP1 hD1
                      have hP1 : va_P (dC, dI) classes [(h0, .inr (0, [.int sec, .ref h1, .int pw])), (h1, .inl (cB, n, .inl f_27))] H1 := hP1
                      have hD1 : va_D _ [(h0, .inr (0, [.int sec, .ref h1, .int pw])), (h1, .inl (cB, n, .inl f_27))] := hD1
                      obtain ⟨hP, hD⟩ := va_join (wr := [(b0, .inr (4, [.ref h0, .int cl, .int be, .int co, .int le, .int ro, .int sa, .int ks, .ref b1, .ref b2]))]) (w1 := [(h0, .inr (0, [.int sec, .ref h1, .int pw])), (h1, .inl (cB, n, .inl f_27))]) hP hD [1, 2] [0] rfl rfl (by decide) (by decide) hk1 hFc hP1 hD1
                      generalize H1 = H at hP hS ⊢
                      have hP : va_P (dC, dI) classes [(b0, .inr (4, [.ref h0, .int cl, .int be, .int co, .int le, .int ro, .int sa, .int ks, .ref b1, .ref b2])), (h0, .inr (0, [.int sec, .ref h1, .int pw])), (h1, .inl (cB, n, .inl f_27))] H := hP
                      have hD : va_D A [(b0, .inr (4, [.ref h0, .int cl, .int be, .int co, .int le, .int ro, .int sa, .int ks, .ref b1, .ref b2])), (h0, .inr (0, [.int sec, .ref h1, .int pw])), (h1, .inl (cB, n, .inl f_27))] := hD
                      refine lv_aload_n hx hb d_Tb_writeFirstSectors_168 rfl (lv_at hl 2 rfl) ?_
                      refine va_get (D := (dC, dI)) (ci := 4) (v := .ref h0) (C := R_Tb) (T := F_Tb) (N := 10) hx hb hts i_Tb hown hK hP 0 rfl rfl 0 (by decide) (hts _ (k_Tb_6)) (fun _ h9 => h9) rfl d_Tb_writeFirstSectors_169 ?_
                      refine lv_iload hx hb d_Tb_writeFirstSectors_172 (lv_at hl 1 rfl) ?_
                      refine lv_bipush (v := 67) hx hb d_Tb_writeFirstSectors_174 (by decide) ?_
                      refine lv_iadd hx hb d_Tb_writeFirstSectors_176 ?_
                      refine lv_iload hx hb d_Tb_writeFirstSectors_177 (lv_at hl 7 rfl) ?_
                      have hPc := hP.sub (ws' := [(h0, .inr (0, [.int sec, .ref h1, .int pw])), (h1, .inl (cB, n, .inl f_27))]) [1, 2] rfl
                      have hDc := hD.sub (ws' := [(h0, .inr (0, [.int sec, .ref h1, .int pw])), (h1, .inl (cB, n, .inl f_27))]) [1, 2] (by decide) rfl
                      have hKc := hK.sub (tys' := [(cB, .byte)]) [0] rfl
                      have hFc := va_free (wc := [(h0, .inr (0, [.int sec, .ref h1, .int pw])), (h1, .inl (cB, n, .inl f_27))]) hD hS hA [1, 2] rfl
                      refine va_callv (va_runV (As := [.int (0 + 67), .int p5]) (rest := []) ⟨hx, hb, hml, hown, hts⟩ (c_Dk_putFour l dC dI h0 h1 H.size cB sec pw n f_27 h4 hn (0 + 67) p5) (cwV 2 hts (gwV good_Tb (k_Tb_84) (u_Tb_Dk _ k_Dk_30) (u_Tb_Dk _ k_Dk_31) (u_Tb_Dk _ k_Dk_0) (wcs (u_Tb_Dk _ k_Dk_32) u_Tb_Dk)) rfl rfl rfl (by decide +kernel) ⟨Nat.le_of_ble_eq_true rfl, Nat.le_of_ble_eq_true rfl⟩) (pv_of hPc hKc hDc (va_recv hKc hPc (ci := 0) (q0 := 0) rfl rfl)) rfl rfl hl.1 rfl (lv_room (Nat.le_of_ble_eq_true rfl)) d_Tb_writeFirstSectors_179 ⟨by decide, by decide⟩) hS (fun q _ h => hFc q h) hFc (fun u t H1 locs ht hvm hw hB hz1 hk1 hS => ?_)
                      subst hw
                      obtain ⟨hP1, hK1, hD1⟩ := hB
                      rw [ht] at hP1
                      obtain ⟨f_28, ef_28⟩ : ∃ g : Nat → Int32, g = dk_put4 n f_27 (0 + 67) p5 := ⟨_, rfl⟩
                      rw [← ef_28] at hP1 hD1
                      have hP1 : va_P (dC, dI) classes [(h0, .inr (0, [.int sec, .ref h1, .int pw])), (h1, .inl (cB, n, .inl f_28))] H1 := hP1
                      have hD1 : va_D _ [(h0, .inr (0, [.int sec, .ref h1, .int pw])), (h1, .inl (cB, n, .inl f_28))] := hD1
                      obtain ⟨hP, hD⟩ := va_join (wr := [(b0, .inr (4, [.ref h0, .int cl, .int be, .int co, .int le, .int ro, .int sa, .int ks, .ref b1, .ref b2]))]) (w1 := [(h0, .inr (0, [.int sec, .ref h1, .int pw])), (h1, .inl (cB, n, .inl f_28))]) hP hD [1, 2] [0] rfl rfl (by decide) (by decide) hk1 hFc hP1 hD1
                      generalize H1 = H at hP hS ⊢
                      have hP : va_P (dC, dI) classes [(b0, .inr (4, [.ref h0, .int cl, .int be, .int co, .int le, .int ro, .int sa, .int ks, .ref b1, .ref b2])), (h0, .inr (0, [.int sec, .ref h1, .int pw])), (h1, .inl (cB, n, .inl f_28))] H := hP
                      have hD : va_D A [(b0, .inr (4, [.ref h0, .int cl, .int be, .int co, .int le, .int ro, .int sa, .int ks, .ref b1, .ref b2])), (h0, .inr (0, [.int sec, .ref h1, .int pw])), (h1, .inl (cB, n, .inl f_28))] := hD
                      refine lv_aload_n hx hb d_Tb_writeFirstSectors_182 rfl (lv_at hl 2 rfl) ?_
                      refine va_get (D := (dC, dI)) (ci := 4) (v := .ref h0) (C := R_Tb) (T := F_Tb) (N := 10) hx hb hts i_Tb hown hK hP 0 rfl rfl 0 (by decide) (hts _ (k_Tb_6)) (fun _ h9 => h9) rfl d_Tb_writeFirstSectors_183 ?_
                      refine lv_iload hx hb d_Tb_writeFirstSectors_186 (lv_at hl 1 rfl) ?_
                      refine lv_sipush (v := 510) hx hb d_Tb_writeFirstSectors_188 (by decide) ?_
                      refine lv_iadd hx hb d_Tb_writeFirstSectors_191 ?_
                      refine lv_ldc (v := 43605) hx hb hown (hts _ (k_Tb_28)) d_Tb_writeFirstSectors_192 ?_
                      have hPc := hP.sub (ws' := [(h0, .inr (0, [.int sec, .ref h1, .int pw])), (h1, .inl (cB, n, .inl f_28))]) [1, 2] rfl
                      have hDc := hD.sub (ws' := [(h0, .inr (0, [.int sec, .ref h1, .int pw])), (h1, .inl (cB, n, .inl f_28))]) [1, 2] (by decide) rfl
                      have hKc := hK.sub (tys' := [(cB, .byte)]) [0] rfl
                      have hFc := va_free (wc := [(h0, .inr (0, [.int sec, .ref h1, .int pw])), (h1, .inl (cB, n, .inl f_28))]) hD hS hA [1, 2] rfl
                      refine va_callv (va_runV (As := [.int (0 + 510), .int 43605]) (rest := []) ⟨hx, hb, hml, hown, hts⟩ (c_Dk_putTwo l dC dI h0 h1 H.size cB sec pw n f_28 h4 hn (0 + 510) 43605) (cwV 2 hts (gwV good_Tb (k_Tb_83) (u_Tb_Dk _ k_Dk_27) (u_Tb_Dk _ k_Dk_28) (u_Tb_Dk _ k_Dk_0) (wcs (u_Tb_Dk _ k_Dk_29) u_Tb_Dk)) rfl rfl rfl (by decide +kernel) ⟨Nat.le_of_ble_eq_true rfl, Nat.le_of_ble_eq_true rfl⟩) (pv_of hPc hKc hDc (va_recv hKc hPc (ci := 0) (q0 := 0) rfl rfl)) rfl rfl hl.1 rfl (lv_room (Nat.le_of_ble_eq_true rfl)) d_Tb_writeFirstSectors_194 ⟨by decide, by decide⟩) hS (fun q _ h => hFc q h) hFc (fun u t H1 locs ht hvm hw hB hz1 hk1 hS => ?_)
                      subst hw
                      obtain ⟨hP1, hK1, hD1⟩ := hB
                      rw [ht] at hP1
                      obtain ⟨f_29, ef_29⟩ : ∃ g : Nat → Int32, g = dk_put2 n f_28 (0 + 510) 43605 := ⟨_, rfl⟩
                      rw [← ef_29] at hP1 hD1
                      have hP1 : va_P (dC, dI) classes [(h0, .inr (0, [.int sec, .ref h1, .int pw])), (h1, .inl (cB, n, .inl f_29))] H1 := hP1
                      have hD1 : va_D _ [(h0, .inr (0, [.int sec, .ref h1, .int pw])), (h1, .inl (cB, n, .inl f_29))] := hD1
                      obtain ⟨hP, hD⟩ := va_join (wr := [(b0, .inr (4, [.ref h0, .int cl, .int be, .int co, .int le, .int ro, .int sa, .int ks, .ref b1, .ref b2]))]) (w1 := [(h0, .inr (0, [.int sec, .ref h1, .int pw])), (h1, .inl (cB, n, .inl f_29))]) hP hD [1, 2] [0] rfl rfl (by decide) (by decide) hk1 hFc hP1 hD1
                      generalize H1 = H at hP hS ⊢
                      have hP : va_P (dC, dI) classes [(b0, .inr (4, [.ref h0, .int cl, .int be, .int co, .int le, .int ro, .int sa, .int ks, .ref b1, .ref b2])), (h0, .inr (0, [.int sec, .ref h1, .int pw])), (h1, .inl (cB, n, .inl f_29))] H := hP
                      have hD : va_D A [(b0, .inr (4, [.ref h0, .int cl, .int be, .int co, .int le, .int ro, .int sa, .int ks, .ref b1, .ref b2])), (h0, .inr (0, [.int sec, .ref h1, .int pw])), (h1, .inl (cB, n, .inl f_29))] := hD
                      refine lv_iincW (v := 3072) (lv' := [(6, .int 3072), (7, .int 11), (0, .ref b0), (1, .int p1), (2, .int p2), (3, .int p3), (4, .int p4), (5, .int p5)]) hx hb d_Tb_writeFirstSectors_197 hl (k := 1) rfl (by decide) (by decide) rfl (fun ls hl => ?_)
                      refine lv_goto (tgt := 3) hx hb d_Tb_writeFirstSectors_203 (by decide) ?_
                      refine lv_iload hx hb d_Tb_writeFirstSectors_3 (lv_at hl 0 rfl) ?_
                      refine lv_sipush (v := 3072) hx hb d_Tb_writeFirstSectors_5 (by decide) ?_
                      refine lv_icmp_gt (tgt := 206) hx hb d_Tb_writeFirstSectors_8 (by decide) (fun c_30 => ?_) (fun c_30 => ?_)
                      · exact absurd c_30 (by decide)
                      · refine lv_iconst (v := 3) hx hb d_Tb_writeFirstSectors_11 (by decide) ?_
                        refine lv_istore (lv' := [(7, .int 3), (6, .int 3072), (0, .ref b0), (1, .int p1), (2, .int p2), (3, .int p3), (4, .int p4), (5, .int p5)]) hx hb d_Tb_writeFirstSectors_12 hl (by decide) rfl (fun ls hl => ?_)
                        refine lv_iload hx hb d_Tb_writeFirstSectors_14 (lv_at hl 0 rfl) ?_
                        refine lv_bipush (v := 11) hx hb d_Tb_writeFirstSectors_16 (by decide) ?_
                        refine lv_icmp_ge (tgt := 41) hx hb d_Tb_writeFirstSectors_18 (by decide) (fun c_31 => ?_) (fun c_31 => ?_)
                        · exact absurd c_31 (by decide)
                        · refine lv_aload_n hx hb d_Tb_writeFirstSectors_21 rfl (lv_at hl 2 rfl) ?_
                          refine va_get (D := (dC, dI)) (ci := 4) (v := .ref h0) (C := R_Tb) (T := F_Tb) (N := 10) hx hb hts i_Tb hown hK hP 0 rfl rfl 0 (by decide) (hts _ (k_Tb_6)) (fun _ h9 => h9) rfl d_Tb_writeFirstSectors_22 ?_
                          refine lv_iload hx hb d_Tb_writeFirstSectors_25 (lv_at hl 1 rfl) ?_
                          refine lv_iload hx hb d_Tb_writeFirstSectors_27 (lv_at hl 0 rfl) ?_
                          refine lv_iadd hx hb d_Tb_writeFirstSectors_29 ?_
                          refine lv_bipush (v := 32) hx hb d_Tb_writeFirstSectors_30 (by decide) ?_
                          have hPc := hP.sub (ws' := [(h0, .inr (0, [.int sec, .ref h1, .int pw])), (h1, .inl (cB, n, .inl f_29))]) [1, 2] rfl
                          have hDc := hD.sub (ws' := [(h0, .inr (0, [.int sec, .ref h1, .int pw])), (h1, .inl (cB, n, .inl f_29))]) [1, 2] (by decide) rfl
                          have hKc := hK.sub (tys' := [(cB, .byte)]) [0] rfl
                          have hFc := va_free (wc := [(h0, .inr (0, [.int sec, .ref h1, .int pw])), (h1, .inl (cB, n, .inl f_29))]) hD hS hA [1, 2] rfl
                          refine va_callv (va_runV (As := [.int (3072 + 3), .int 32]) (rest := []) ⟨hx, hb, hml, hown, hts⟩ (c_Dk_putOne l dC dI h0 h1 H.size cB sec pw n f_29 h4 hn (3072 + 3) 32) (cwV 2 hts (gwV good_Tb (k_Tb_82) (u_Tb_Dk _ k_Dk_11) (u_Tb_Dk _ k_Dk_12) (u_Tb_Dk _ k_Dk_0) (wcs (u_Tb_Dk _ k_Dk_13) u_Tb_Dk)) rfl rfl rfl (by decide +kernel) ⟨Nat.le_of_ble_eq_true rfl, Nat.le_of_ble_eq_true rfl⟩) (pv_of hPc hKc hDc (va_recv hKc hPc (ci := 0) (q0 := 0) rfl rfl)) rfl rfl hl.1 rfl (lv_room (Nat.le_of_ble_eq_true rfl)) d_Tb_writeFirstSectors_32 ⟨by decide, by decide⟩) hS (fun q _ h => hFc q h) hFc (fun u t H1 locs ht hvm hw hB hz1 hk1 hS => ?_)
                          subst hw
                          obtain ⟨hP1, hK1, hD1⟩ := hB
                          rw [ht] at hP1
                          obtain ⟨f_32, ef_32⟩ : ∃ g : Nat → Int32, g = dk_put1 n f_29 (3072 + 3) 32 := ⟨_, rfl⟩
                          rw [← ef_32] at hP1 hD1
                          have hP1 : va_P (dC, dI) classes [(h0, .inr (0, [.int sec, .ref h1, .int pw])), (h1, .inl (cB, n, .inl f_32))] H1 := hP1
                          have hD1 : va_D _ [(h0, .inr (0, [.int sec, .ref h1, .int pw])), (h1, .inl (cB, n, .inl f_32))] := hD1
                          obtain ⟨hP, hD⟩ := va_join (wr := [(b0, .inr (4, [.ref h0, .int cl, .int be, .int co, .int le, .int ro, .int sa, .int ks, .ref b1, .ref b2]))]) (w1 := [(h0, .inr (0, [.int sec, .ref h1, .int pw])), (h1, .inl (cB, n, .inl f_32))]) hP hD [1, 2] [0] rfl rfl (by decide) (by decide) hk1 hFc hP1 hD1
                          generalize H1 = H at hP hS ⊢
                          have hP : va_P (dC, dI) classes [(b0, .inr (4, [.ref h0, .int cl, .int be, .int co, .int le, .int ro, .int sa, .int ks, .ref b1, .ref b2])), (h0, .inr (0, [.int sec, .ref h1, .int pw])), (h1, .inl (cB, n, .inl f_32))] H := hP
                          have hD : va_D A [(b0, .inr (4, [.ref h0, .int cl, .int be, .int co, .int le, .int ro, .int sa, .int ks, .ref b1, .ref b2])), (h0, .inr (0, [.int sec, .ref h1, .int pw])), (h1, .inl (cB, n, .inl f_32))] := hD
                          refine lv_iinc (v := 4) (lv' := [(7, .int 4), (6, .int 3072), (0, .ref b0), (1, .int p1), (2, .int p2), (3, .int p3), (4, .int p4), (5, .int p5)]) hx hb d_Tb_writeFirstSectors_35 hl (k := 0) rfl (by decide) (by decide) rfl (fun ls hl => ?_)
                          refine lv_goto (tgt := 14) hx hb d_Tb_writeFirstSectors_38 (by decide) ?_
                          refine lv_iload hx hb d_Tb_writeFirstSectors_14 (lv_at hl 0 rfl) ?_
                          refine lv_bipush (v := 11) hx hb d_Tb_writeFirstSectors_16 (by decide) ?_
                          refine lv_icmp_ge (tgt := 41) hx hb d_Tb_writeFirstSectors_18 (by decide) (fun c_33 => ?_) (fun c_33 => ?_)
                          · exact absurd c_33 (by decide)
                          · refine lv_aload_n hx hb d_Tb_writeFirstSectors_21 rfl (lv_at hl 2 rfl) ?_
                            refine va_get (D := (dC, dI)) (ci := 4) (v := .ref h0) (C := R_Tb) (T := F_Tb) (N := 10) hx hb hts i_Tb hown hK hP 0 rfl rfl 0 (by decide) (hts _ (k_Tb_6)) (fun _ h9 => h9) rfl d_Tb_writeFirstSectors_22 ?_
                            refine lv_iload hx hb d_Tb_writeFirstSectors_25 (lv_at hl 1 rfl) ?_
                            refine lv_iload hx hb d_Tb_writeFirstSectors_27 (lv_at hl 0 rfl) ?_
                            refine lv_iadd hx hb d_Tb_writeFirstSectors_29 ?_
                            refine lv_bipush (v := 32) hx hb d_Tb_writeFirstSectors_30 (by decide) ?_
                            have hPc := hP.sub (ws' := [(h0, .inr (0, [.int sec, .ref h1, .int pw])), (h1, .inl (cB, n, .inl f_32))]) [1, 2] rfl
                            have hDc := hD.sub (ws' := [(h0, .inr (0, [.int sec, .ref h1, .int pw])), (h1, .inl (cB, n, .inl f_32))]) [1, 2] (by decide) rfl
                            have hKc := hK.sub (tys' := [(cB, .byte)]) [0] rfl
                            have hFc := va_free (wc := [(h0, .inr (0, [.int sec, .ref h1, .int pw])), (h1, .inl (cB, n, .inl f_32))]) hD hS hA [1, 2] rfl
                            refine va_callv (va_runV (As := [.int (3072 + 4), .int 32]) (rest := []) ⟨hx, hb, hml, hown, hts⟩ (c_Dk_putOne l dC dI h0 h1 H.size cB sec pw n f_32 h4 hn (3072 + 4) 32) (cwV 2 hts (gwV good_Tb (k_Tb_82) (u_Tb_Dk _ k_Dk_11) (u_Tb_Dk _ k_Dk_12) (u_Tb_Dk _ k_Dk_0) (wcs (u_Tb_Dk _ k_Dk_13) u_Tb_Dk)) rfl rfl rfl (by decide +kernel) ⟨Nat.le_of_ble_eq_true rfl, Nat.le_of_ble_eq_true rfl⟩) (pv_of hPc hKc hDc (va_recv hKc hPc (ci := 0) (q0 := 0) rfl rfl)) rfl rfl hl.1 rfl (lv_room (Nat.le_of_ble_eq_true rfl)) d_Tb_writeFirstSectors_32 ⟨by decide, by decide⟩) hS (fun q _ h => hFc q h) hFc (fun u t H1 locs ht hvm hw hB hz1 hk1 hS => ?_)
                            subst hw
                            obtain ⟨hP1, hK1, hD1⟩ := hB
                            rw [ht] at hP1
                            obtain ⟨f_34, ef_34⟩ : ∃ g : Nat → Int32, g = dk_put1 n f_32 (3072 + 4) 32 := ⟨_, rfl⟩
                            rw [← ef_34] at hP1 hD1
                            have hP1 : va_P (dC, dI) classes [(h0, .inr (0, [.int sec, .ref h1, .int pw])), (h1, .inl (cB, n, .inl f_34))] H1 := hP1
                            have hD1 : va_D _ [(h0, .inr (0, [.int sec, .ref h1, .int pw])), (h1, .inl (cB, n, .inl f_34))] := hD1
                            obtain ⟨hP, hD⟩ := va_join (wr := [(b0, .inr (4, [.ref h0, .int cl, .int be, .int co, .int le, .int ro, .int sa, .int ks, .ref b1, .ref b2]))]) (w1 := [(h0, .inr (0, [.int sec, .ref h1, .int pw])), (h1, .inl (cB, n, .inl f_34))]) hP hD [1, 2] [0] rfl rfl (by decide) (by decide) hk1 hFc hP1 hD1
                            generalize H1 = H at hP hS ⊢
                            have hP : va_P (dC, dI) classes [(b0, .inr (4, [.ref h0, .int cl, .int be, .int co, .int le, .int ro, .int sa, .int ks, .ref b1, .ref b2])), (h0, .inr (0, [.int sec, .ref h1, .int pw])), (h1, .inl (cB, n, .inl f_34))] H := hP
                            have hD : va_D A [(b0, .inr (4, [.ref h0, .int cl, .int be, .int co, .int le, .int ro, .int sa, .int ks, .ref b1, .ref b2])), (h0, .inr (0, [.int sec, .ref h1, .int pw])), (h1, .inl (cB, n, .inl f_34))] := hD
                            refine lv_iinc (v := 5) (lv' := [(7, .int 5), (6, .int 3072), (0, .ref b0), (1, .int p1), (2, .int p2), (3, .int p3), (4, .int p4), (5, .int p5)]) hx hb d_Tb_writeFirstSectors_35 hl (k := 0) rfl (by decide) (by decide) rfl (fun ls hl => ?_)
                            refine lv_goto (tgt := 14) hx hb d_Tb_writeFirstSectors_38 (by decide) ?_
                            refine lv_iload hx hb d_Tb_writeFirstSectors_14 (lv_at hl 0 rfl) ?_
                            refine lv_bipush (v := 11) hx hb d_Tb_writeFirstSectors_16 (by decide) ?_
                            refine lv_icmp_ge (tgt := 41) hx hb d_Tb_writeFirstSectors_18 (by decide) (fun c_35 => ?_) (fun c_35 => ?_)
                            · exact absurd c_35 (by decide)
                            · refine lv_aload_n hx hb d_Tb_writeFirstSectors_21 rfl (lv_at hl 2 rfl) ?_
                              refine va_get (D := (dC, dI)) (ci := 4) (v := .ref h0) (C := R_Tb) (T := F_Tb) (N := 10) hx hb hts i_Tb hown hK hP 0 rfl rfl 0 (by decide) (hts _ (k_Tb_6)) (fun _ h9 => h9) rfl d_Tb_writeFirstSectors_22 ?_
                              refine lv_iload hx hb d_Tb_writeFirstSectors_25 (lv_at hl 1 rfl) ?_
                              refine lv_iload hx hb d_Tb_writeFirstSectors_27 (lv_at hl 0 rfl) ?_
                              refine lv_iadd hx hb d_Tb_writeFirstSectors_29 ?_
                              refine lv_bipush (v := 32) hx hb d_Tb_writeFirstSectors_30 (by decide) ?_
                              have hPc := hP.sub (ws' := [(h0, .inr (0, [.int sec, .ref h1, .int pw])), (h1, .inl (cB, n, .inl f_34))]) [1, 2] rfl
                              have hDc := hD.sub (ws' := [(h0, .inr (0, [.int sec, .ref h1, .int pw])), (h1, .inl (cB, n, .inl f_34))]) [1, 2] (by decide) rfl
                              have hKc := hK.sub (tys' := [(cB, .byte)]) [0] rfl
                              have hFc := va_free (wc := [(h0, .inr (0, [.int sec, .ref h1, .int pw])), (h1, .inl (cB, n, .inl f_34))]) hD hS hA [1, 2] rfl
                              refine va_callv (va_runV (As := [.int (3072 + 5), .int 32]) (rest := []) ⟨hx, hb, hml, hown, hts⟩ (c_Dk_putOne l dC dI h0 h1 H.size cB sec pw n f_34 h4 hn (3072 + 5) 32) (cwV 2 hts (gwV good_Tb (k_Tb_82) (u_Tb_Dk _ k_Dk_11) (u_Tb_Dk _ k_Dk_12) (u_Tb_Dk _ k_Dk_0) (wcs (u_Tb_Dk _ k_Dk_13) u_Tb_Dk)) rfl rfl rfl (by decide +kernel) ⟨Nat.le_of_ble_eq_true rfl, Nat.le_of_ble_eq_true rfl⟩) (pv_of hPc hKc hDc (va_recv hKc hPc (ci := 0) (q0 := 0) rfl rfl)) rfl rfl hl.1 rfl (lv_room (Nat.le_of_ble_eq_true rfl)) d_Tb_writeFirstSectors_32 ⟨by decide, by decide⟩) hS (fun q _ h => hFc q h) hFc (fun u t H1 locs ht hvm hw hB hz1 hk1 hS => ?_)
                              subst hw
                              obtain ⟨hP1, hK1, hD1⟩ := hB
                              rw [ht] at hP1
                              obtain ⟨f_36, ef_36⟩ : ∃ g : Nat → Int32, g = dk_put1 n f_34 (3072 + 5) 32 := ⟨_, rfl⟩
                              rw [← ef_36] at hP1 hD1
                              have hP1 : va_P (dC, dI) classes [(h0, .inr (0, [.int sec, .ref h1, .int pw])), (h1, .inl (cB, n, .inl f_36))] H1 := hP1
                              have hD1 : va_D _ [(h0, .inr (0, [.int sec, .ref h1, .int pw])), (h1, .inl (cB, n, .inl f_36))] := hD1
                              obtain ⟨hP, hD⟩ := va_join (wr := [(b0, .inr (4, [.ref h0, .int cl, .int be, .int co, .int le, .int ro, .int sa, .int ks, .ref b1, .ref b2]))]) (w1 := [(h0, .inr (0, [.int sec, .ref h1, .int pw])), (h1, .inl (cB, n, .inl f_36))]) hP hD [1, 2] [0] rfl rfl (by decide) (by decide) hk1 hFc hP1 hD1
                              generalize H1 = H at hP hS ⊢
                              have hP : va_P (dC, dI) classes [(b0, .inr (4, [.ref h0, .int cl, .int be, .int co, .int le, .int ro, .int sa, .int ks, .ref b1, .ref b2])), (h0, .inr (0, [.int sec, .ref h1, .int pw])), (h1, .inl (cB, n, .inl f_36))] H := hP
                              have hD : va_D A [(b0, .inr (4, [.ref h0, .int cl, .int be, .int co, .int le, .int ro, .int sa, .int ks, .ref b1, .ref b2])), (h0, .inr (0, [.int sec, .ref h1, .int pw])), (h1, .inl (cB, n, .inl f_36))] := hD
                              refine lv_iinc (v := 6) (lv' := [(7, .int 6), (6, .int 3072), (0, .ref b0), (1, .int p1), (2, .int p2), (3, .int p3), (4, .int p4), (5, .int p5)]) hx hb d_Tb_writeFirstSectors_35 hl (k := 0) rfl (by decide) (by decide) rfl (fun ls hl => ?_)
                              refine lv_goto (tgt := 14) hx hb d_Tb_writeFirstSectors_38 (by decide) ?_
                              refine lv_iload hx hb d_Tb_writeFirstSectors_14 (lv_at hl 0 rfl) ?_
                              refine lv_bipush (v := 11) hx hb d_Tb_writeFirstSectors_16 (by decide) ?_
                              refine lv_icmp_ge (tgt := 41) hx hb d_Tb_writeFirstSectors_18 (by decide) (fun c_37 => ?_) (fun c_37 => ?_)
                              · exact absurd c_37 (by decide)
                              · refine lv_aload_n hx hb d_Tb_writeFirstSectors_21 rfl (lv_at hl 2 rfl) ?_
                                refine va_get (D := (dC, dI)) (ci := 4) (v := .ref h0) (C := R_Tb) (T := F_Tb) (N := 10) hx hb hts i_Tb hown hK hP 0 rfl rfl 0 (by decide) (hts _ (k_Tb_6)) (fun _ h9 => h9) rfl d_Tb_writeFirstSectors_22 ?_
                                refine lv_iload hx hb d_Tb_writeFirstSectors_25 (lv_at hl 1 rfl) ?_
                                refine lv_iload hx hb d_Tb_writeFirstSectors_27 (lv_at hl 0 rfl) ?_
                                refine lv_iadd hx hb d_Tb_writeFirstSectors_29 ?_
                                refine lv_bipush (v := 32) hx hb d_Tb_writeFirstSectors_30 (by decide) ?_
                                have hPc := hP.sub (ws' := [(h0, .inr (0, [.int sec, .ref h1, .int pw])), (h1, .inl (cB, n, .inl f_36))]) [1, 2] rfl
                                have hDc := hD.sub (ws' := [(h0, .inr (0, [.int sec, .ref h1, .int pw])), (h1, .inl (cB, n, .inl f_36))]) [1, 2] (by decide) rfl
                                have hKc := hK.sub (tys' := [(cB, .byte)]) [0] rfl
                                have hFc := va_free (wc := [(h0, .inr (0, [.int sec, .ref h1, .int pw])), (h1, .inl (cB, n, .inl f_36))]) hD hS hA [1, 2] rfl
                                refine va_callv (va_runV (As := [.int (3072 + 6), .int 32]) (rest := []) ⟨hx, hb, hml, hown, hts⟩ (c_Dk_putOne l dC dI h0 h1 H.size cB sec pw n f_36 h4 hn (3072 + 6) 32) (cwV 2 hts (gwV good_Tb (k_Tb_82) (u_Tb_Dk _ k_Dk_11) (u_Tb_Dk _ k_Dk_12) (u_Tb_Dk _ k_Dk_0) (wcs (u_Tb_Dk _ k_Dk_13) u_Tb_Dk)) rfl rfl rfl (by decide +kernel) ⟨Nat.le_of_ble_eq_true rfl, Nat.le_of_ble_eq_true rfl⟩) (pv_of hPc hKc hDc (va_recv hKc hPc (ci := 0) (q0 := 0) rfl rfl)) rfl rfl hl.1 rfl (lv_room (Nat.le_of_ble_eq_true rfl)) d_Tb_writeFirstSectors_32 ⟨by decide, by decide⟩) hS (fun q _ h => hFc q h) hFc (fun u t H1 locs ht hvm hw hB hz1 hk1 hS => ?_)
                                subst hw
                                obtain ⟨hP1, hK1, hD1⟩ := hB
                                rw [ht] at hP1
                                obtain ⟨f_38, ef_38⟩ : ∃ g : Nat → Int32, g = dk_put1 n f_36 (3072 + 6) 32 := ⟨_, rfl⟩
                                rw [← ef_38] at hP1 hD1
                                have hP1 : va_P (dC, dI) classes [(h0, .inr (0, [.int sec, .ref h1, .int pw])), (h1, .inl (cB, n, .inl f_38))] H1 := hP1
                                have hD1 : va_D _ [(h0, .inr (0, [.int sec, .ref h1, .int pw])), (h1, .inl (cB, n, .inl f_38))] := hD1
                                obtain ⟨hP, hD⟩ := va_join (wr := [(b0, .inr (4, [.ref h0, .int cl, .int be, .int co, .int le, .int ro, .int sa, .int ks, .ref b1, .ref b2]))]) (w1 := [(h0, .inr (0, [.int sec, .ref h1, .int pw])), (h1, .inl (cB, n, .inl f_38))]) hP hD [1, 2] [0] rfl rfl (by decide) (by decide) hk1 hFc hP1 hD1
                                generalize H1 = H at hP hS ⊢
                                have hP : va_P (dC, dI) classes [(b0, .inr (4, [.ref h0, .int cl, .int be, .int co, .int le, .int ro, .int sa, .int ks, .ref b1, .ref b2])), (h0, .inr (0, [.int sec, .ref h1, .int pw])), (h1, .inl (cB, n, .inl f_38))] H := hP
                                have hD : va_D A [(b0, .inr (4, [.ref h0, .int cl, .int be, .int co, .int le, .int ro, .int sa, .int ks, .ref b1, .ref b2])), (h0, .inr (0, [.int sec, .ref h1, .int pw])), (h1, .inl (cB, n, .inl f_38))] := hD
                                refine lv_iinc (v := 7) (lv' := [(7, .int 7), (6, .int 3072), (0, .ref b0), (1, .int p1), (2, .int p2), (3, .int p3), (4, .int p4), (5, .int p5)]) hx hb d_Tb_writeFirstSectors_35 hl (k := 0) rfl (by decide) (by decide) rfl (fun ls hl => ?_)
                                refine lv_goto (tgt := 14) hx hb d_Tb_writeFirstSectors_38 (by decide) ?_
                                refine lv_iload hx hb d_Tb_writeFirstSectors_14 (lv_at hl 0 rfl) ?_
                                refine lv_bipush (v := 11) hx hb d_Tb_writeFirstSectors_16 (by decide) ?_
                                refine lv_icmp_ge (tgt := 41) hx hb d_Tb_writeFirstSectors_18 (by decide) (fun c_39 => ?_) (fun c_39 => ?_)
                                · exact absurd c_39 (by decide)
                                · refine lv_aload_n hx hb d_Tb_writeFirstSectors_21 rfl (lv_at hl 2 rfl) ?_
                                  refine va_get (D := (dC, dI)) (ci := 4) (v := .ref h0) (C := R_Tb) (T := F_Tb) (N := 10) hx hb hts i_Tb hown hK hP 0 rfl rfl 0 (by decide) (hts _ (k_Tb_6)) (fun _ h9 => h9) rfl d_Tb_writeFirstSectors_22 ?_
                                  refine lv_iload hx hb d_Tb_writeFirstSectors_25 (lv_at hl 1 rfl) ?_
                                  refine lv_iload hx hb d_Tb_writeFirstSectors_27 (lv_at hl 0 rfl) ?_
                                  refine lv_iadd hx hb d_Tb_writeFirstSectors_29 ?_
                                  refine lv_bipush (v := 32) hx hb d_Tb_writeFirstSectors_30 (by decide) ?_
                                  have hPc := hP.sub (ws' := [(h0, .inr (0, [.int sec, .ref h1, .int pw])), (h1, .inl (cB, n, .inl f_38))]) [1, 2] rfl
                                  have hDc := hD.sub (ws' := [(h0, .inr (0, [.int sec, .ref h1, .int pw])), (h1, .inl (cB, n, .inl f_38))]) [1, 2] (by decide) rfl
                                  have hKc := hK.sub (tys' := [(cB, .byte)]) [0] rfl
                                  have hFc := va_free (wc := [(h0, .inr (0, [.int sec, .ref h1, .int pw])), (h1, .inl (cB, n, .inl f_38))]) hD hS hA [1, 2] rfl
                                  refine va_callv (va_runV (As := [.int (3072 + 7), .int 32]) (rest := []) ⟨hx, hb, hml, hown, hts⟩ (c_Dk_putOne l dC dI h0 h1 H.size cB sec pw n f_38 h4 hn (3072 + 7) 32) (cwV 2 hts (gwV good_Tb (k_Tb_82) (u_Tb_Dk _ k_Dk_11) (u_Tb_Dk _ k_Dk_12) (u_Tb_Dk _ k_Dk_0) (wcs (u_Tb_Dk _ k_Dk_13) u_Tb_Dk)) rfl rfl rfl (by decide +kernel) ⟨Nat.le_of_ble_eq_true rfl, Nat.le_of_ble_eq_true rfl⟩) (pv_of hPc hKc hDc (va_recv hKc hPc (ci := 0) (q0 := 0) rfl rfl)) rfl rfl hl.1 rfl (lv_room (Nat.le_of_ble_eq_true rfl)) d_Tb_writeFirstSectors_32 ⟨by decide, by decide⟩) hS (fun q _ h => hFc q h) hFc (fun u t H1 locs ht hvm hw hB hz1 hk1 hS => ?_)
                                  subst hw
                                  obtain ⟨hP1, hK1, hD1⟩ := hB
                                  rw [ht] at hP1
                                  obtain ⟨f_40, ef_40⟩ : ∃ g : Nat → Int32, g = dk_put1 n f_38 (3072 + 7) 32 := ⟨_, rfl⟩
                                  rw [← ef_40] at hP1 hD1
                                  have hP1 : va_P (dC, dI) classes [(h0, .inr (0, [.int sec, .ref h1, .int pw])), (h1, .inl (cB, n, .inl f_40))] H1 := hP1
                                  have hD1 : va_D _ [(h0, .inr (0, [.int sec, .ref h1, .int pw])), (h1, .inl (cB, n, .inl f_40))] := hD1
                                  obtain ⟨hP, hD⟩ := va_join (wr := [(b0, .inr (4, [.ref h0, .int cl, .int be, .int co, .int le, .int ro, .int sa, .int ks, .ref b1, .ref b2]))]) (w1 := [(h0, .inr (0, [.int sec, .ref h1, .int pw])), (h1, .inl (cB, n, .inl f_40))]) hP hD [1, 2] [0] rfl rfl (by decide) (by decide) hk1 hFc hP1 hD1
                                  generalize H1 = H at hP hS ⊢
                                  have hP : va_P (dC, dI) classes [(b0, .inr (4, [.ref h0, .int cl, .int be, .int co, .int le, .int ro, .int sa, .int ks, .ref b1, .ref b2])), (h0, .inr (0, [.int sec, .ref h1, .int pw])), (h1, .inl (cB, n, .inl f_40))] H := hP
                                  have hD : va_D A [(b0, .inr (4, [.ref h0, .int cl, .int be, .int co, .int le, .int ro, .int sa, .int ks, .ref b1, .ref b2])), (h0, .inr (0, [.int sec, .ref h1, .int pw])), (h1, .inl (cB, n, .inl f_40))] := hD
                                  refine lv_iinc (v := 8) (lv' := [(7, .int 8), (6, .int 3072), (0, .ref b0), (1, .int p1), (2, .int p2), (3, .int p3), (4, .int p4), (5, .int p5)]) hx hb d_Tb_writeFirstSectors_35 hl (k := 0) rfl (by decide) (by decide) rfl (fun ls hl => ?_)
                                  refine lv_goto (tgt := 14) hx hb d_Tb_writeFirstSectors_38 (by decide) ?_
                                  refine lv_iload hx hb d_Tb_writeFirstSectors_14 (lv_at hl 0 rfl) ?_
                                  refine lv_bipush (v := 11) hx hb d_Tb_writeFirstSectors_16 (by decide) ?_
                                  refine lv_icmp_ge (tgt := 41) hx hb d_Tb_writeFirstSectors_18 (by decide) (fun c_41 => ?_) (fun c_41 => ?_)
                                  · exact absurd c_41 (by decide)
                                  · refine lv_aload_n hx hb d_Tb_writeFirstSectors_21 rfl (lv_at hl 2 rfl) ?_
                                    refine va_get (D := (dC, dI)) (ci := 4) (v := .ref h0) (C := R_Tb) (T := F_Tb) (N := 10) hx hb hts i_Tb hown hK hP 0 rfl rfl 0 (by decide) (hts _ (k_Tb_6)) (fun _ h9 => h9) rfl d_Tb_writeFirstSectors_22 ?_
                                    refine lv_iload hx hb d_Tb_writeFirstSectors_25 (lv_at hl 1 rfl) ?_
                                    refine lv_iload hx hb d_Tb_writeFirstSectors_27 (lv_at hl 0 rfl) ?_
                                    refine lv_iadd hx hb d_Tb_writeFirstSectors_29 ?_
                                    refine lv_bipush (v := 32) hx hb d_Tb_writeFirstSectors_30 (by decide) ?_
                                    have hPc := hP.sub (ws' := [(h0, .inr (0, [.int sec, .ref h1, .int pw])), (h1, .inl (cB, n, .inl f_40))]) [1, 2] rfl
                                    have hDc := hD.sub (ws' := [(h0, .inr (0, [.int sec, .ref h1, .int pw])), (h1, .inl (cB, n, .inl f_40))]) [1, 2] (by decide) rfl
                                    have hKc := hK.sub (tys' := [(cB, .byte)]) [0] rfl
                                    have hFc := va_free (wc := [(h0, .inr (0, [.int sec, .ref h1, .int pw])), (h1, .inl (cB, n, .inl f_40))]) hD hS hA [1, 2] rfl
                                    refine va_callv (va_runV (As := [.int (3072 + 8), .int 32]) (rest := []) ⟨hx, hb, hml, hown, hts⟩ (c_Dk_putOne l dC dI h0 h1 H.size cB sec pw n f_40 h4 hn (3072 + 8) 32) (cwV 2 hts (gwV good_Tb (k_Tb_82) (u_Tb_Dk _ k_Dk_11) (u_Tb_Dk _ k_Dk_12) (u_Tb_Dk _ k_Dk_0) (wcs (u_Tb_Dk _ k_Dk_13) u_Tb_Dk)) rfl rfl rfl (by decide +kernel) ⟨Nat.le_of_ble_eq_true rfl, Nat.le_of_ble_eq_true rfl⟩) (pv_of hPc hKc hDc (va_recv hKc hPc (ci := 0) (q0 := 0) rfl rfl)) rfl rfl hl.1 rfl (lv_room (Nat.le_of_ble_eq_true rfl)) d_Tb_writeFirstSectors_32 ⟨by decide, by decide⟩) hS (fun q _ h => hFc q h) hFc (fun u t H1 locs ht hvm hw hB hz1 hk1 hS => ?_)
                                    subst hw
                                    obtain ⟨hP1, hK1, hD1⟩ := hB
                                    rw [ht] at hP1
                                    obtain ⟨f_42, ef_42⟩ : ∃ g : Nat → Int32, g = dk_put1 n f_40 (3072 + 8) 32 := ⟨_, rfl⟩
                                    rw [← ef_42] at hP1 hD1
                                    have hP1 : va_P (dC, dI) classes [(h0, .inr (0, [.int sec, .ref h1, .int pw])), (h1, .inl (cB, n, .inl f_42))] H1 := hP1
                                    have hD1 : va_D _ [(h0, .inr (0, [.int sec, .ref h1, .int pw])), (h1, .inl (cB, n, .inl f_42))] := hD1
                                    obtain ⟨hP, hD⟩ := va_join (wr := [(b0, .inr (4, [.ref h0, .int cl, .int be, .int co, .int le, .int ro, .int sa, .int ks, .ref b1, .ref b2]))]) (w1 := [(h0, .inr (0, [.int sec, .ref h1, .int pw])), (h1, .inl (cB, n, .inl f_42))]) hP hD [1, 2] [0] rfl rfl (by decide) (by decide) hk1 hFc hP1 hD1
                                    generalize H1 = H at hP hS ⊢
                                    have hP : va_P (dC, dI) classes [(b0, .inr (4, [.ref h0, .int cl, .int be, .int co, .int le, .int ro, .int sa, .int ks, .ref b1, .ref b2])), (h0, .inr (0, [.int sec, .ref h1, .int pw])), (h1, .inl (cB, n, .inl f_42))] H := hP
                                    have hD : va_D A [(b0, .inr (4, [.ref h0, .int cl, .int be, .int co, .int le, .int ro, .int sa, .int ks, .ref b1, .ref b2])), (h0, .inr (0, [.int sec, .ref h1, .int pw])), (h1, .inl (cB, n, .inl f_42))] := hD
                                    refine lv_iinc (v := 9) (lv' := [(7, .int 9), (6, .int 3072), (0, .ref b0), (1, .int p1), (2, .int p2), (3, .int p3), (4, .int p4), (5, .int p5)]) hx hb d_Tb_writeFirstSectors_35 hl (k := 0) rfl (by decide) (by decide) rfl (fun ls hl => ?_)
                                    refine lv_goto (tgt := 14) hx hb d_Tb_writeFirstSectors_38 (by decide) ?_
                                    refine lv_iload hx hb d_Tb_writeFirstSectors_14 (lv_at hl 0 rfl) ?_
                                    refine lv_bipush (v := 11) hx hb d_Tb_writeFirstSectors_16 (by decide) ?_
                                    refine lv_icmp_ge (tgt := 41) hx hb d_Tb_writeFirstSectors_18 (by decide) (fun c_43 => ?_) (fun c_43 => ?_)
                                    · exact absurd c_43 (by decide)
                                    · refine lv_aload_n hx hb d_Tb_writeFirstSectors_21 rfl (lv_at hl 2 rfl) ?_
                                      refine va_get (D := (dC, dI)) (ci := 4) (v := .ref h0) (C := R_Tb) (T := F_Tb) (N := 10) hx hb hts i_Tb hown hK hP 0 rfl rfl 0 (by decide) (hts _ (k_Tb_6)) (fun _ h9 => h9) rfl d_Tb_writeFirstSectors_22 ?_
                                      refine lv_iload hx hb d_Tb_writeFirstSectors_25 (lv_at hl 1 rfl) ?_
                                      refine lv_iload hx hb d_Tb_writeFirstSectors_27 (lv_at hl 0 rfl) ?_
                                      refine lv_iadd hx hb d_Tb_writeFirstSectors_29 ?_
                                      refine lv_bipush (v := 32) hx hb d_Tb_writeFirstSectors_30 (by decide) ?_
                                      have hPc := hP.sub (ws' := [(h0, .inr (0, [.int sec, .ref h1, .int pw])), (h1, .inl (cB, n, .inl f_42))]) [1, 2] rfl
                                      have hDc := hD.sub (ws' := [(h0, .inr (0, [.int sec, .ref h1, .int pw])), (h1, .inl (cB, n, .inl f_42))]) [1, 2] (by decide) rfl
                                      have hKc := hK.sub (tys' := [(cB, .byte)]) [0] rfl
                                      have hFc := va_free (wc := [(h0, .inr (0, [.int sec, .ref h1, .int pw])), (h1, .inl (cB, n, .inl f_42))]) hD hS hA [1, 2] rfl
                                      refine va_callv (va_runV (As := [.int (3072 + 9), .int 32]) (rest := []) ⟨hx, hb, hml, hown, hts⟩ (c_Dk_putOne l dC dI h0 h1 H.size cB sec pw n f_42 h4 hn (3072 + 9) 32) (cwV 2 hts (gwV good_Tb (k_Tb_82) (u_Tb_Dk _ k_Dk_11) (u_Tb_Dk _ k_Dk_12) (u_Tb_Dk _ k_Dk_0) (wcs (u_Tb_Dk _ k_Dk_13) u_Tb_Dk)) rfl rfl rfl (by decide +kernel) ⟨Nat.le_of_ble_eq_true rfl, Nat.le_of_ble_eq_true rfl⟩) (pv_of hPc hKc hDc (va_recv hKc hPc (ci := 0) (q0 := 0) rfl rfl)) rfl rfl hl.1 rfl (lv_room (Nat.le_of_ble_eq_true rfl)) d_Tb_writeFirstSectors_32 ⟨by decide, by decide⟩) hS (fun q _ h => hFc q h) hFc (fun u t H1 locs ht hvm hw hB hz1 hk1 hS => ?_)
                                      subst hw
                                      obtain ⟨hP1, hK1, hD1⟩ := hB
                                      rw [ht] at hP1
                                      obtain ⟨f_44, ef_44⟩ : ∃ g : Nat → Int32, g = dk_put1 n f_42 (3072 + 9) 32 := ⟨_, rfl⟩
                                      rw [← ef_44] at hP1 hD1
                                      have hP1 : va_P (dC, dI) classes [(h0, .inr (0, [.int sec, .ref h1, .int pw])), (h1, .inl (cB, n, .inl f_44))] H1 := hP1
                                      have hD1 : va_D _ [(h0, .inr (0, [.int sec, .ref h1, .int pw])), (h1, .inl (cB, n, .inl f_44))] := hD1
                                      obtain ⟨hP, hD⟩ := va_join (wr := [(b0, .inr (4, [.ref h0, .int cl, .int be, .int co, .int le, .int ro, .int sa, .int ks, .ref b1, .ref b2]))]) (w1 := [(h0, .inr (0, [.int sec, .ref h1, .int pw])), (h1, .inl (cB, n, .inl f_44))]) hP hD [1, 2] [0] rfl rfl (by decide) (by decide) hk1 hFc hP1 hD1
                                      generalize H1 = H at hP hS ⊢
                                      have hP : va_P (dC, dI) classes [(b0, .inr (4, [.ref h0, .int cl, .int be, .int co, .int le, .int ro, .int sa, .int ks, .ref b1, .ref b2])), (h0, .inr (0, [.int sec, .ref h1, .int pw])), (h1, .inl (cB, n, .inl f_44))] H := hP
                                      have hD : va_D A [(b0, .inr (4, [.ref h0, .int cl, .int be, .int co, .int le, .int ro, .int sa, .int ks, .ref b1, .ref b2])), (h0, .inr (0, [.int sec, .ref h1, .int pw])), (h1, .inl (cB, n, .inl f_44))] := hD
                                      refine lv_iinc (v := 10) (lv' := [(7, .int 10), (6, .int 3072), (0, .ref b0), (1, .int p1), (2, .int p2), (3, .int p3), (4, .int p4), (5, .int p5)]) hx hb d_Tb_writeFirstSectors_35 hl (k := 0) rfl (by decide) (by decide) rfl (fun ls hl => ?_)
                                      refine lv_goto (tgt := 14) hx hb d_Tb_writeFirstSectors_38 (by decide) ?_
                                      refine lv_iload hx hb d_Tb_writeFirstSectors_14 (lv_at hl 0 rfl) ?_
                                      refine lv_bipush (v := 11) hx hb d_Tb_writeFirstSectors_16 (by decide) ?_
                                      refine lv_icmp_ge (tgt := 41) hx hb d_Tb_writeFirstSectors_18 (by decide) (fun c_45 => ?_) (fun c_45 => ?_)
                                      · exact absurd c_45 (by decide)
                                      · refine lv_aload_n hx hb d_Tb_writeFirstSectors_21 rfl (lv_at hl 2 rfl) ?_
                                        refine va_get (D := (dC, dI)) (ci := 4) (v := .ref h0) (C := R_Tb) (T := F_Tb) (N := 10) hx hb hts i_Tb hown hK hP 0 rfl rfl 0 (by decide) (hts _ (k_Tb_6)) (fun _ h9 => h9) rfl d_Tb_writeFirstSectors_22 ?_
                                        refine lv_iload hx hb d_Tb_writeFirstSectors_25 (lv_at hl 1 rfl) ?_
                                        refine lv_iload hx hb d_Tb_writeFirstSectors_27 (lv_at hl 0 rfl) ?_
                                        refine lv_iadd hx hb d_Tb_writeFirstSectors_29 ?_
                                        refine lv_bipush (v := 32) hx hb d_Tb_writeFirstSectors_30 (by decide) ?_
                                        have hPc := hP.sub (ws' := [(h0, .inr (0, [.int sec, .ref h1, .int pw])), (h1, .inl (cB, n, .inl f_44))]) [1, 2] rfl
                                        have hDc := hD.sub (ws' := [(h0, .inr (0, [.int sec, .ref h1, .int pw])), (h1, .inl (cB, n, .inl f_44))]) [1, 2] (by decide) rfl
                                        have hKc := hK.sub (tys' := [(cB, .byte)]) [0] rfl
                                        have hFc := va_free (wc := [(h0, .inr (0, [.int sec, .ref h1, .int pw])), (h1, .inl (cB, n, .inl f_44))]) hD hS hA [1, 2] rfl
                                        refine va_callv (va_runV (As := [.int (3072 + 10), .int 32]) (rest := []) ⟨hx, hb, hml, hown, hts⟩ (c_Dk_putOne l dC dI h0 h1 H.size cB sec pw n f_44 h4 hn (3072 + 10) 32) (cwV 2 hts (gwV good_Tb (k_Tb_82) (u_Tb_Dk _ k_Dk_11) (u_Tb_Dk _ k_Dk_12) (u_Tb_Dk _ k_Dk_0) (wcs (u_Tb_Dk _ k_Dk_13) u_Tb_Dk)) rfl rfl rfl (by decide +kernel) ⟨Nat.le_of_ble_eq_true rfl, Nat.le_of_ble_eq_true rfl⟩) (pv_of hPc hKc hDc (va_recv hKc hPc (ci := 0) (q0 := 0) rfl rfl)) rfl rfl hl.1 rfl (lv_room (Nat.le_of_ble_eq_true rfl)) d_Tb_writeFirstSectors_32 ⟨by decide, by decide⟩) hS (fun q _ h => hFc q h) hFc (fun u t H1 locs ht hvm hw hB hz1 hk1 hS => ?_)
                                        subst hw
                                        obtain ⟨hP1, hK1, hD1⟩ := hB
                                        rw [ht] at hP1
                                        obtain ⟨f_46, ef_46⟩ : ∃ g : Nat → Int32, g = dk_put1 n f_44 (3072 + 10) 32 := ⟨_, rfl⟩
                                        rw [← ef_46] at hP1 hD1
                                        have hP1 : va_P (dC, dI) classes [(h0, .inr (0, [.int sec, .ref h1, .int pw])), (h1, .inl (cB, n, .inl f_46))] H1 := hP1
                                        have hD1 : va_D _ [(h0, .inr (0, [.int sec, .ref h1, .int pw])), (h1, .inl (cB, n, .inl f_46))] := hD1
                                        obtain ⟨hP, hD⟩ := va_join (wr := [(b0, .inr (4, [.ref h0, .int cl, .int be, .int co, .int le, .int ro, .int sa, .int ks, .ref b1, .ref b2]))]) (w1 := [(h0, .inr (0, [.int sec, .ref h1, .int pw])), (h1, .inl (cB, n, .inl f_46))]) hP hD [1, 2] [0] rfl rfl (by decide) (by decide) hk1 hFc hP1 hD1
                                        generalize H1 = H at hP hS ⊢
                                        have hP : va_P (dC, dI) classes [(b0, .inr (4, [.ref h0, .int cl, .int be, .int co, .int le, .int ro, .int sa, .int ks, .ref b1, .ref b2])), (h0, .inr (0, [.int sec, .ref h1, .int pw])), (h1, .inl (cB, n, .inl f_46))] H := hP
                                        have hD : va_D A [(b0, .inr (4, [.ref h0, .int cl, .int be, .int co, .int le, .int ro, .int sa, .int ks, .ref b1, .ref b2])), (h0, .inr (0, [.int sec, .ref h1, .int pw])), (h1, .inl (cB, n, .inl f_46))] := hD
                                        refine lv_iinc (v := 11) (lv' := [(7, .int 11), (6, .int 3072), (0, .ref b0), (1, .int p1), (2, .int p2), (3, .int p3), (4, .int p4), (5, .int p5)]) hx hb d_Tb_writeFirstSectors_35 hl (k := 0) rfl (by decide) (by decide) rfl (fun ls hl => ?_)
                                        refine lv_goto (tgt := 14) hx hb d_Tb_writeFirstSectors_38 (by decide) ?_
                                        refine lv_iload hx hb d_Tb_writeFirstSectors_14 (lv_at hl 0 rfl) ?_
                                        refine lv_bipush (v := 11) hx hb d_Tb_writeFirstSectors_16 (by decide) ?_
                                        refine lv_icmp_ge (tgt := 41) hx hb d_Tb_writeFirstSectors_18 (by decide) (fun c_47 => ?_) (fun c_47 => ?_)
                                        · refine lv_aload_n hx hb d_Tb_writeFirstSectors_41 rfl (lv_at hl 2 rfl) ?_
                                          refine va_get (D := (dC, dI)) (ci := 4) (v := .ref h0) (C := R_Tb) (T := F_Tb) (N := 10) hx hb hts i_Tb hown hK hP 0 rfl rfl 0 (by decide) (hts _ (k_Tb_6)) (fun _ h9 => h9) rfl d_Tb_writeFirstSectors_42 ?_
                                          refine lv_iload hx hb d_Tb_writeFirstSectors_45 (lv_at hl 1 rfl) ?_
                                          refine lv_bipush (v := 11) hx hb d_Tb_writeFirstSectors_47 (by decide) ?_
                                          refine lv_iadd hx hb d_Tb_writeFirstSectors_49 ?_
                                          refine lv_sipush (v := 512) hx hb d_Tb_writeFirstSectors_50 (by decide) ?_
                                          have hPc := hP.sub (ws' := [(h0, .inr (0, [.int sec, .ref h1, .int pw])), (h1, .inl (cB, n, .inl f_46))]) [1, 2] rfl
                                          have hDc := hD.sub (ws' := [(h0, .inr (0, [.int sec, .ref h1, .int pw])), (h1, .inl (cB, n, .inl f_46))]) [1, 2] (by decide) rfl
                                          have hKc := hK.sub (tys' := [(cB, .byte)]) [0] rfl
                                          have hFc := va_free (wc := [(h0, .inr (0, [.int sec, .ref h1, .int pw])), (h1, .inl (cB, n, .inl f_46))]) hD hS hA [1, 2] rfl
                                          refine va_callv (va_runV (As := [.int (3072 + 11), .int 512]) (rest := []) ⟨hx, hb, hml, hown, hts⟩ (c_Dk_putTwo l dC dI h0 h1 H.size cB sec pw n f_46 h4 hn (3072 + 11) 512) (cwV 2 hts (gwV good_Tb (k_Tb_83) (u_Tb_Dk _ k_Dk_27) (u_Tb_Dk _ k_Dk_28) (u_Tb_Dk _ k_Dk_0) (wcs (u_Tb_Dk _ k_Dk_29) u_Tb_Dk)) rfl rfl rfl (by decide +kernel) ⟨Nat.le_of_ble_eq_true rfl, Nat.le_of_ble_eq_true rfl⟩) (pv_of hPc hKc hDc (va_recv hKc hPc (ci := 0) (q0 := 0) rfl rfl)) rfl rfl hl.1 rfl (lv_room (Nat.le_of_ble_eq_true rfl)) d_Tb_writeFirstSectors_53 ⟨by decide, by decide⟩) hS (fun q _ h => hFc q h) hFc (fun u t H1 locs ht hvm hw hB hz1 hk1 hS => ?_)
                                          subst hw
                                          obtain ⟨hP1, hK1, hD1⟩ := hB
                                          rw [ht] at hP1
                                          obtain ⟨f_48, ef_48⟩ : ∃ g : Nat → Int32, g = dk_put2 n f_46 (3072 + 11) 512 := ⟨_, rfl⟩
                                          rw [← ef_48] at hP1 hD1
                                          have hP1 : va_P (dC, dI) classes [(h0, .inr (0, [.int sec, .ref h1, .int pw])), (h1, .inl (cB, n, .inl f_48))] H1 := hP1
                                          have hD1 : va_D _ [(h0, .inr (0, [.int sec, .ref h1, .int pw])), (h1, .inl (cB, n, .inl f_48))] := hD1
                                          obtain ⟨hP, hD⟩ := va_join (wr := [(b0, .inr (4, [.ref h0, .int cl, .int be, .int co, .int le, .int ro, .int sa, .int ks, .ref b1, .ref b2]))]) (w1 := [(h0, .inr (0, [.int sec, .ref h1, .int pw])), (h1, .inl (cB, n, .inl f_48))]) hP hD [1, 2] [0] rfl rfl (by decide) (by decide) hk1 hFc hP1 hD1
                                          generalize H1 = H at hP hS ⊢
                                          have hP : va_P (dC, dI) classes [(b0, .inr (4, [.ref h0, .int cl, .int be, .int co, .int le, .int ro, .int sa, .int ks, .ref b1, .ref b2])), (h0, .inr (0, [.int sec, .ref h1, .int pw])), (h1, .inl (cB, n, .inl f_48))] H := hP
                                          have hD : va_D A [(b0, .inr (4, [.ref h0, .int cl, .int be, .int co, .int le, .int ro, .int sa, .int ks, .ref b1, .ref b2])), (h0, .inr (0, [.int sec, .ref h1, .int pw])), (h1, .inl (cB, n, .inl f_48))] := hD
                                          refine lv_aload_n hx hb d_Tb_writeFirstSectors_56 rfl (lv_at hl 2 rfl) ?_
                                          refine va_get (D := (dC, dI)) (ci := 4) (v := .ref h0) (C := R_Tb) (T := F_Tb) (N := 10) hx hb hts i_Tb hown hK hP 0 rfl rfl 0 (by decide) (hts _ (k_Tb_6)) (fun _ h9 => h9) rfl d_Tb_writeFirstSectors_57 ?_
                                          refine lv_iload hx hb d_Tb_writeFirstSectors_60 (lv_at hl 1 rfl) ?_
                                          refine lv_bipush (v := 13) hx hb d_Tb_writeFirstSectors_62 (by decide) ?_
                                          refine lv_iadd hx hb d_Tb_writeFirstSectors_64 ?_
                                          refine lv_iload_n hx hb d_Tb_writeFirstSectors_65 rfl (lv_at hl 3 rfl) ?_
                                          have hPc := hP.sub (ws' := [(h0, .inr (0, [.int sec, .ref h1, .int pw])), (h1, .inl (cB, n, .inl f_48))]) [1, 2] rfl
                                          have hDc := hD.sub (ws' := [(h0, .inr (0, [.int sec, .ref h1, .int pw])), (h1, .inl (cB, n, .inl f_48))]) [1, 2] (by decide) rfl
                                          have hKc := hK.sub (tys' := [(cB, .byte)]) [0] rfl
                                          have hFc := va_free (wc := [(h0, .inr (0, [.int sec, .ref h1, .int pw])), (h1, .inl (cB, n, .inl f_48))]) hD hS hA [1, 2] rfl
                                          refine va_callv (va_runV (As := [.int (3072 + 13), .int p1]) (rest := []) ⟨hx, hb, hml, hown, hts⟩ (c_Dk_putOne l dC dI h0 h1 H.size cB sec pw n f_48 h4 hn (3072 + 13) p1) (cwV 2 hts (gwV good_Tb (k_Tb_82) (u_Tb_Dk _ k_Dk_11) (u_Tb_Dk _ k_Dk_12) (u_Tb_Dk _ k_Dk_0) (wcs (u_Tb_Dk _ k_Dk_13) u_Tb_Dk)) rfl rfl rfl (by decide +kernel) ⟨Nat.le_of_ble_eq_true rfl, Nat.le_of_ble_eq_true rfl⟩) (pv_of hPc hKc hDc (va_recv hKc hPc (ci := 0) (q0 := 0) rfl rfl)) rfl rfl hl.1 rfl (lv_room (Nat.le_of_ble_eq_true rfl)) d_Tb_writeFirstSectors_66 ⟨by decide, by decide⟩) hS (fun q _ h => hFc q h) hFc (fun u t H1 locs ht hvm hw hB hz1 hk1 hS => ?_)
                                          subst hw
                                          obtain ⟨hP1, hK1, hD1⟩ := hB
                                          rw [ht] at hP1
                                          obtain ⟨f_49, ef_49⟩ : ∃ g : Nat → Int32, g = dk_put1 n f_48 (3072 + 13) p1 := ⟨_, rfl⟩
                                          rw [← ef_49] at hP1 hD1
                                          have hP1 : va_P (dC, dI) classes [(h0, .inr (0, [.int sec, .ref h1, .int pw])), (h1, .inl (cB, n, .inl f_49))] H1 := hP1
                                          have hD1 : va_D _ [(h0, .inr (0, [.int sec, .ref h1, .int pw])), (h1, .inl (cB, n, .inl f_49))] := hD1
                                          obtain ⟨hP, hD⟩ := va_join (wr := [(b0, .inr (4, [.ref h0, .int cl, .int be, .int co, .int le, .int ro, .int sa, .int ks, .ref b1, .ref b2]))]) (w1 := [(h0, .inr (0, [.int sec, .ref h1, .int pw])), (h1, .inl (cB, n, .inl f_49))]) hP hD [1, 2] [0] rfl rfl (by decide) (by decide) hk1 hFc hP1 hD1
                                          generalize H1 = H at hP hS ⊢
                                          have hP : va_P (dC, dI) classes [(b0, .inr (4, [.ref h0, .int cl, .int be, .int co, .int le, .int ro, .int sa, .int ks, .ref b1, .ref b2])), (h0, .inr (0, [.int sec, .ref h1, .int pw])), (h1, .inl (cB, n, .inl f_49))] H := hP
                                          have hD : va_D A [(b0, .inr (4, [.ref h0, .int cl, .int be, .int co, .int le, .int ro, .int sa, .int ks, .ref b1, .ref b2])), (h0, .inr (0, [.int sec, .ref h1, .int pw])), (h1, .inl (cB, n, .inl f_49))] := hD
                                          refine lv_aload_n hx hb d_Tb_writeFirstSectors_69 rfl (lv_at hl 2 rfl) ?_
                                          refine va_get (D := (dC, dI)) (ci := 4) (v := .ref h0) (C := R_Tb) (T := F_Tb) (N := 10) hx hb hts i_Tb hown hK hP 0 rfl rfl 0 (by decide) (hts _ (k_Tb_6)) (fun _ h9 => h9) rfl d_Tb_writeFirstSectors_70 ?_
                                          refine lv_iload hx hb d_Tb_writeFirstSectors_73 (lv_at hl 1 rfl) ?_
                                          refine lv_bipush (v := 14) hx hb d_Tb_writeFirstSectors_75 (by decide) ?_
                                          refine lv_iadd hx hb d_Tb_writeFirstSectors_77 ?_
                                          refine lv_iload_n hx hb d_Tb_writeFirstSectors_78 rfl (lv_at hl 4 rfl) ?_
                                          have hPc := hP.sub (ws' := [(h0, .inr (0, [.int sec, .ref h1, .int pw])), (h1, .inl (cB, n, .inl f_49))]) [1, 2] rfl
                                          have hDc := hD.sub (ws' := [(h0, .inr (0, [.int sec, .ref h1, .int pw])), (h1, .inl (cB, n, .inl f_49))]) [1, 2] (by decide) rfl
                                          have hKc := hK.sub (tys' := [(cB, .byte)]) [0] rfl
                                          have hFc := va_free (wc := [(h0, .inr (0, [.int sec, .ref h1, .int pw])), (h1, .inl (cB, n, .inl f_49))]) hD hS hA [1, 2] rfl
                                          refine va_callv (va_runV (As := [.int (3072 + 14), .int p2]) (rest := []) ⟨hx, hb, hml, hown, hts⟩ (c_Dk_putTwo l dC dI h0 h1 H.size cB sec pw n f_49 h4 hn (3072 + 14) p2) (cwV 2 hts (gwV good_Tb (k_Tb_83) (u_Tb_Dk _ k_Dk_27) (u_Tb_Dk _ k_Dk_28) (u_Tb_Dk _ k_Dk_0) (wcs (u_Tb_Dk _ k_Dk_29) u_Tb_Dk)) rfl rfl rfl (by decide +kernel) ⟨Nat.le_of_ble_eq_true rfl, Nat.le_of_ble_eq_true rfl⟩) (pv_of hPc hKc hDc (va_recv hKc hPc (ci := 0) (q0 := 0) rfl rfl)) rfl rfl hl.1 rfl (lv_room (Nat.le_of_ble_eq_true rfl)) d_Tb_writeFirstSectors_79 ⟨by decide, by decide⟩) hS (fun q _ h => hFc q h) hFc (fun u t H1 locs ht hvm hw hB hz1 hk1 hS => ?_)
                                          subst hw
                                          obtain ⟨hP1, hK1, hD1⟩ := hB
                                          rw [ht] at hP1
                                          obtain ⟨f_50, ef_50⟩ : ∃ g : Nat → Int32, g = dk_put2 n f_49 (3072 + 14) p2 := ⟨_, rfl⟩
                                          rw [← ef_50] at hP1 hD1
                                          have hP1 : va_P (dC, dI) classes [(h0, .inr (0, [.int sec, .ref h1, .int pw])), (h1, .inl (cB, n, .inl f_50))] H1 := hP1
                                          have hD1 : va_D _ [(h0, .inr (0, [.int sec, .ref h1, .int pw])), (h1, .inl (cB, n, .inl f_50))] := hD1
                                          obtain ⟨hP, hD⟩ := va_join (wr := [(b0, .inr (4, [.ref h0, .int cl, .int be, .int co, .int le, .int ro, .int sa, .int ks, .ref b1, .ref b2]))]) (w1 := [(h0, .inr (0, [.int sec, .ref h1, .int pw])), (h1, .inl (cB, n, .inl f_50))]) hP hD [1, 2] [0] rfl rfl (by decide) (by decide) hk1 hFc hP1 hD1
                                          generalize H1 = H at hP hS ⊢
                                          have hP : va_P (dC, dI) classes [(b0, .inr (4, [.ref h0, .int cl, .int be, .int co, .int le, .int ro, .int sa, .int ks, .ref b1, .ref b2])), (h0, .inr (0, [.int sec, .ref h1, .int pw])), (h1, .inl (cB, n, .inl f_50))] H := hP
                                          have hD : va_D A [(b0, .inr (4, [.ref h0, .int cl, .int be, .int co, .int le, .int ro, .int sa, .int ks, .ref b1, .ref b2])), (h0, .inr (0, [.int sec, .ref h1, .int pw])), (h1, .inl (cB, n, .inl f_50))] := hD
                                          refine lv_aload_n hx hb d_Tb_writeFirstSectors_82 rfl (lv_at hl 2 rfl) ?_
                                          refine va_get (D := (dC, dI)) (ci := 4) (v := .ref h0) (C := R_Tb) (T := F_Tb) (N := 10) hx hb hts i_Tb hown hK hP 0 rfl rfl 0 (by decide) (hts _ (k_Tb_6)) (fun _ h9 => h9) rfl d_Tb_writeFirstSectors_83 ?_
                                          refine lv_iload hx hb d_Tb_writeFirstSectors_86 (lv_at hl 1 rfl) ?_
                                          refine lv_bipush (v := 16) hx hb d_Tb_writeFirstSectors_88 (by decide) ?_
                                          refine lv_iadd hx hb d_Tb_writeFirstSectors_90 ?_
                                          refine lv_iload_n hx hb d_Tb_writeFirstSectors_91 rfl (lv_at hl 5 rfl) ?_
                                          have hPc := hP.sub (ws' := [(h0, .inr (0, [.int sec, .ref h1, .int pw])), (h1, .inl (cB, n, .inl f_50))]) [1, 2] rfl
                                          have hDc := hD.sub (ws' := [(h0, .inr (0, [.int sec, .ref h1, .int pw])), (h1, .inl (cB, n, .inl f_50))]) [1, 2] (by decide) rfl
                                          have hKc := hK.sub (tys' := [(cB, .byte)]) [0] rfl
                                          have hFc := va_free (wc := [(h0, .inr (0, [.int sec, .ref h1, .int pw])), (h1, .inl (cB, n, .inl f_50))]) hD hS hA [1, 2] rfl
                                          refine va_callv (va_runV (As := [.int (3072 + 16), .int p3]) (rest := []) ⟨hx, hb, hml, hown, hts⟩ (c_Dk_putOne l dC dI h0 h1 H.size cB sec pw n f_50 h4 hn (3072 + 16) p3) (cwV 2 hts (gwV good_Tb (k_Tb_82) (u_Tb_Dk _ k_Dk_11) (u_Tb_Dk _ k_Dk_12) (u_Tb_Dk _ k_Dk_0) (wcs (u_Tb_Dk _ k_Dk_13) u_Tb_Dk)) rfl rfl rfl (by decide +kernel) ⟨Nat.le_of_ble_eq_true rfl, Nat.le_of_ble_eq_true rfl⟩) (pv_of hPc hKc hDc (va_recv hKc hPc (ci := 0) (q0 := 0) rfl rfl)) rfl rfl hl.1 rfl (lv_room (Nat.le_of_ble_eq_true rfl)) d_Tb_writeFirstSectors_92 ⟨by decide, by decide⟩) hS (fun q _ h => hFc q h) hFc (fun u t H1 locs ht hvm hw hB hz1 hk1 hS => ?_)
                                          subst hw
                                          obtain ⟨hP1, hK1, hD1⟩ := hB
                                          rw [ht] at hP1
                                          obtain ⟨f_51, ef_51⟩ : ∃ g : Nat → Int32, g = dk_put1 n f_50 (3072 + 16) p3 := ⟨_, rfl⟩
                                          rw [← ef_51] at hP1 hD1
                                          have hP1 : va_P (dC, dI) classes [(h0, .inr (0, [.int sec, .ref h1, .int pw])), (h1, .inl (cB, n, .inl f_51))] H1 := hP1
                                          have hD1 : va_D _ [(h0, .inr (0, [.int sec, .ref h1, .int pw])), (h1, .inl (cB, n, .inl f_51))] := hD1
                                          obtain ⟨hP, hD⟩ := va_join (wr := [(b0, .inr (4, [.ref h0, .int cl, .int be, .int co, .int le, .int ro, .int sa, .int ks, .ref b1, .ref b2]))]) (w1 := [(h0, .inr (0, [.int sec, .ref h1, .int pw])), (h1, .inl (cB, n, .inl f_51))]) hP hD [1, 2] [0] rfl rfl (by decide) (by decide) hk1 hFc hP1 hD1
                                          generalize H1 = H at hP hS ⊢
                                          have hP : va_P (dC, dI) classes [(b0, .inr (4, [.ref h0, .int cl, .int be, .int co, .int le, .int ro, .int sa, .int ks, .ref b1, .ref b2])), (h0, .inr (0, [.int sec, .ref h1, .int pw])), (h1, .inl (cB, n, .inl f_51))] H := hP
                                          have hD : va_D A [(b0, .inr (4, [.ref h0, .int cl, .int be, .int co, .int le, .int ro, .int sa, .int ks, .ref b1, .ref b2])), (h0, .inr (0, [.int sec, .ref h1, .int pw])), (h1, .inl (cB, n, .inl f_51))] := hD
                                          refine lv_aload_n hx hb d_Tb_writeFirstSectors_95 rfl (lv_at hl 2 rfl) ?_
                                          refine va_get (D := (dC, dI)) (ci := 4) (v := .ref h0) (C := R_Tb) (T := F_Tb) (N := 10) hx hb hts i_Tb hown hK hP 0 rfl rfl 0 (by decide) (hts _ (k_Tb_6)) (fun _ h9 => h9) rfl d_Tb_writeFirstSectors_96 ?_
                                          refine lv_iload hx hb d_Tb_writeFirstSectors_99 (lv_at hl 1 rfl) ?_
                                          refine lv_bipush (v := 32) hx hb d_Tb_writeFirstSectors_101 (by decide) ?_
                                          refine lv_iadd hx hb d_Tb_writeFirstSectors_103 ?_
                                          refine lv_aload_n hx hb d_Tb_writeFirstSectors_104 rfl (lv_at hl 2 rfl) ?_
                                          refine va_get (D := (dC, dI)) (ci := 4) (v := .ref h0) (C := R_Tb) (T := F_Tb) (N := 10) hx hb hts i_Tb hown hK hP 0 rfl rfl 0 (by decide) (hts _ (k_Tb_6)) (fun _ h9 => h9) rfl d_Tb_writeFirstSectors_105 ?_
                                          refine va_get (D := (dC, dI)) (ci := 0) (v := .int sec) (C := R_Dk) (T := F_Dk) (N := 3) hx hb hts (fun w h => u_Tb_Dk w (i_Dk w h)) hown hK hP 1 rfl rfl 0 (by decide) (hts _ (k_Tb_1)) (fun _ h9 => h9) rfl d_Tb_writeFirstSectors_108 ?_
                                          have hPc := hP.sub (ws' := [(h0, .inr (0, [.int sec, .ref h1, .int pw])), (h1, .inl (cB, n, .inl f_51))]) [1, 2] rfl
                                          have hDc := hD.sub (ws' := [(h0, .inr (0, [.int sec, .ref h1, .int pw])), (h1, .inl (cB, n, .inl f_51))]) [1, 2] (by decide) rfl
                                          have hKc := hK.sub (tys' := [(cB, .byte)]) [0] rfl
                                          have hFc := va_free (wc := [(h0, .inr (0, [.int sec, .ref h1, .int pw])), (h1, .inl (cB, n, .inl f_51))]) hD hS hA [1, 2] rfl
                                          refine va_callv (va_runV (As := [.int (3072 + 32), .int sec]) (rest := []) ⟨hx, hb, hml, hown, hts⟩ (c_Dk_putFour l dC dI h0 h1 H.size cB sec pw n f_51 h4 hn (3072 + 32) sec) (cwV 2 hts (gwV good_Tb (k_Tb_84) (u_Tb_Dk _ k_Dk_30) (u_Tb_Dk _ k_Dk_31) (u_Tb_Dk _ k_Dk_0) (wcs (u_Tb_Dk _ k_Dk_32) u_Tb_Dk)) rfl rfl rfl (by decide +kernel) ⟨Nat.le_of_ble_eq_true rfl, Nat.le_of_ble_eq_true rfl⟩) (pv_of hPc hKc hDc (va_recv hKc hPc (ci := 0) (q0 := 0) rfl rfl)) rfl rfl hl.1 rfl (lv_room (Nat.le_of_ble_eq_true rfl)) d_Tb_writeFirstSectors_111 ⟨by decide, by decide⟩) hS (fun q _ h => hFc q h) hFc (fun u t H1 locs ht hvm hw hB hz1 hk1 hS => ?_)
                                          subst hw
                                          obtain ⟨hP1, hK1, hD1⟩ := hB
                                          rw [ht] at hP1
                                          obtain ⟨f_52, ef_52⟩ : ∃ g : Nat → Int32, g = dk_put4 n f_51 (3072 + 32) sec := ⟨_, rfl⟩
                                          rw [← ef_52] at hP1 hD1
                                          have hP1 : va_P (dC, dI) classes [(h0, .inr (0, [.int sec, .ref h1, .int pw])), (h1, .inl (cB, n, .inl f_52))] H1 := hP1
                                          have hD1 : va_D _ [(h0, .inr (0, [.int sec, .ref h1, .int pw])), (h1, .inl (cB, n, .inl f_52))] := hD1
                                          obtain ⟨hP, hD⟩ := va_join (wr := [(b0, .inr (4, [.ref h0, .int cl, .int be, .int co, .int le, .int ro, .int sa, .int ks, .ref b1, .ref b2]))]) (w1 := [(h0, .inr (0, [.int sec, .ref h1, .int pw])), (h1, .inl (cB, n, .inl f_52))]) hP hD [1, 2] [0] rfl rfl (by decide) (by decide) hk1 hFc hP1 hD1
                                          generalize H1 = H at hP hS ⊢
                                          have hP : va_P (dC, dI) classes [(b0, .inr (4, [.ref h0, .int cl, .int be, .int co, .int le, .int ro, .int sa, .int ks, .ref b1, .ref b2])), (h0, .inr (0, [.int sec, .ref h1, .int pw])), (h1, .inl (cB, n, .inl f_52))] H := hP
                                          have hD : va_D A [(b0, .inr (4, [.ref h0, .int cl, .int be, .int co, .int le, .int ro, .int sa, .int ks, .ref b1, .ref b2])), (h0, .inr (0, [.int sec, .ref h1, .int pw])), (h1, .inl (cB, n, .inl f_52))] := hD
                                          refine lv_aload_n hx hb d_Tb_writeFirstSectors_114 rfl (lv_at hl 2 rfl) ?_
                                          refine va_get (D := (dC, dI)) (ci := 4) (v := .ref h0) (C := R_Tb) (T := F_Tb) (N := 10) hx hb hts i_Tb hown hK hP 0 rfl rfl 0 (by decide) (hts _ (k_Tb_6)) (fun _ h9 => h9) rfl d_Tb_writeFirstSectors_115 ?_
                                          refine lv_iload hx hb d_Tb_writeFirstSectors_118 (lv_at hl 1 rfl) ?_
                                          refine lv_bipush (v := 36) hx hb d_Tb_writeFirstSectors_120 (by decide) ?_
                                          refine lv_iadd hx hb d_Tb_writeFirstSectors_122 ?_
                                          refine lv_iload hx hb d_Tb_writeFirstSectors_123 (lv_at hl 6 rfl) ?_
                                          have hPc := hP.sub (ws' := [(h0, .inr (0, [.int sec, .ref h1, .int pw])), (h1, .inl (cB, n, .inl f_52))]) [1, 2] rfl
                                          have hDc := hD.sub (ws' := [(h0, .inr (0, [.int sec, .ref h1, .int pw])), (h1, .inl (cB, n, .inl f_52))]) [1, 2] (by decide) rfl
                                          have hKc := hK.sub (tys' := [(cB, .byte)]) [0] rfl
                                          have hFc := va_free (wc := [(h0, .inr (0, [.int sec, .ref h1, .int pw])), (h1, .inl (cB, n, .inl f_52))]) hD hS hA [1, 2] rfl
                                          refine va_callv (va_runV (As := [.int (3072 + 36), .int p4]) (rest := []) ⟨hx, hb, hml, hown, hts⟩ (c_Dk_putFour l dC dI h0 h1 H.size cB sec pw n f_52 h4 hn (3072 + 36) p4) (cwV 2 hts (gwV good_Tb (k_Tb_84) (u_Tb_Dk _ k_Dk_30) (u_Tb_Dk _ k_Dk_31) (u_Tb_Dk _ k_Dk_0) (wcs (u_Tb_Dk _ k_Dk_32) u_Tb_Dk)) rfl rfl rfl (by decide +kernel) ⟨Nat.le_of_ble_eq_true rfl, Nat.le_of_ble_eq_true rfl⟩) (pv_of hPc hKc hDc (va_recv hKc hPc (ci := 0) (q0 := 0) rfl rfl)) rfl rfl hl.1 rfl (lv_room (Nat.le_of_ble_eq_true rfl)) d_Tb_writeFirstSectors_125 ⟨by decide, by decide⟩) hS (fun q _ h => hFc q h) hFc (fun u t H1 locs ht hvm hw hB hz1 hk1 hS => ?_)
                                          subst hw
                                          obtain ⟨hP1, hK1, hD1⟩ := hB
                                          rw [ht] at hP1
                                          obtain ⟨f_53, ef_53⟩ : ∃ g : Nat → Int32, g = dk_put4 n f_52 (3072 + 36) p4 := ⟨_, rfl⟩
                                          rw [← ef_53] at hP1 hD1
                                          have hP1 : va_P (dC, dI) classes [(h0, .inr (0, [.int sec, .ref h1, .int pw])), (h1, .inl (cB, n, .inl f_53))] H1 := hP1
                                          have hD1 : va_D _ [(h0, .inr (0, [.int sec, .ref h1, .int pw])), (h1, .inl (cB, n, .inl f_53))] := hD1
                                          obtain ⟨hP, hD⟩ := va_join (wr := [(b0, .inr (4, [.ref h0, .int cl, .int be, .int co, .int le, .int ro, .int sa, .int ks, .ref b1, .ref b2]))]) (w1 := [(h0, .inr (0, [.int sec, .ref h1, .int pw])), (h1, .inl (cB, n, .inl f_53))]) hP hD [1, 2] [0] rfl rfl (by decide) (by decide) hk1 hFc hP1 hD1
                                          generalize H1 = H at hP hS ⊢
                                          have hP : va_P (dC, dI) classes [(b0, .inr (4, [.ref h0, .int cl, .int be, .int co, .int le, .int ro, .int sa, .int ks, .ref b1, .ref b2])), (h0, .inr (0, [.int sec, .ref h1, .int pw])), (h1, .inl (cB, n, .inl f_53))] H := hP
                                          have hD : va_D A [(b0, .inr (4, [.ref h0, .int cl, .int be, .int co, .int le, .int ro, .int sa, .int ks, .ref b1, .ref b2])), (h0, .inr (0, [.int sec, .ref h1, .int pw])), (h1, .inl (cB, n, .inl f_53))] := hD
                                          refine lv_aload_n hx hb d_Tb_writeFirstSectors_128 rfl (lv_at hl 2 rfl) ?_
                                          refine va_get (D := (dC, dI)) (ci := 4) (v := .ref h0) (C := R_Tb) (T := F_Tb) (N := 10) hx hb hts i_Tb hown hK hP 0 rfl rfl 0 (by decide) (hts _ (k_Tb_6)) (fun _ h9 => h9) rfl d_Tb_writeFirstSectors_129 ?_
                                          refine lv_iload hx hb d_Tb_writeFirstSectors_132 (lv_at hl 1 rfl) ?_
                                          refine lv_bipush (v := 44) hx hb d_Tb_writeFirstSectors_134 (by decide) ?_
                                          refine lv_iadd hx hb d_Tb_writeFirstSectors_136 ?_
                                          refine lv_iconst (v := 2) hx hb d_Tb_writeFirstSectors_137 (by decide) ?_
                                          have hPc := hP.sub (ws' := [(h0, .inr (0, [.int sec, .ref h1, .int pw])), (h1, .inl (cB, n, .inl f_53))]) [1, 2] rfl
                                          have hDc := hD.sub (ws' := [(h0, .inr (0, [.int sec, .ref h1, .int pw])), (h1, .inl (cB, n, .inl f_53))]) [1, 2] (by decide) rfl
                                          have hKc := hK.sub (tys' := [(cB, .byte)]) [0] rfl
                                          have hFc := va_free (wc := [(h0, .inr (0, [.int sec, .ref h1, .int pw])), (h1, .inl (cB, n, .inl f_53))]) hD hS hA [1, 2] rfl
                                          refine va_callv (va_runV (As := [.int (3072 + 44), .int 2]) (rest := []) ⟨hx, hb, hml, hown, hts⟩ (c_Dk_putFour l dC dI h0 h1 H.size cB sec pw n f_53 h4 hn (3072 + 44) 2) (cwV 2 hts (gwV good_Tb (k_Tb_84) (u_Tb_Dk _ k_Dk_30) (u_Tb_Dk _ k_Dk_31) (u_Tb_Dk _ k_Dk_0) (wcs (u_Tb_Dk _ k_Dk_32) u_Tb_Dk)) rfl rfl rfl (by decide +kernel) ⟨Nat.le_of_ble_eq_true rfl, Nat.le_of_ble_eq_true rfl⟩) (pv_of hPc hKc hDc (va_recv hKc hPc (ci := 0) (q0 := 0) rfl rfl)) rfl rfl hl.1 rfl (lv_room (Nat.le_of_ble_eq_true rfl)) d_Tb_writeFirstSectors_138 ⟨by decide, by decide⟩) hS (fun q _ h => hFc q h) hFc (fun u t H1 locs ht hvm hw hB hz1 hk1 hS => ?_)
                                          subst hw
                                          obtain ⟨hP1, hK1, hD1⟩ := hB
                                          rw [ht] at hP1
                                          obtain ⟨f_54, ef_54⟩ : ∃ g : Nat → Int32, g = dk_put4 n f_53 (3072 + 44) 2 := ⟨_, rfl⟩
                                          rw [← ef_54] at hP1 hD1
                                          have hP1 : va_P (dC, dI) classes [(h0, .inr (0, [.int sec, .ref h1, .int pw])), (h1, .inl (cB, n, .inl f_54))] H1 := hP1
                                          have hD1 : va_D _ [(h0, .inr (0, [.int sec, .ref h1, .int pw])), (h1, .inl (cB, n, .inl f_54))] := hD1
                                          obtain ⟨hP, hD⟩ := va_join (wr := [(b0, .inr (4, [.ref h0, .int cl, .int be, .int co, .int le, .int ro, .int sa, .int ks, .ref b1, .ref b2]))]) (w1 := [(h0, .inr (0, [.int sec, .ref h1, .int pw])), (h1, .inl (cB, n, .inl f_54))]) hP hD [1, 2] [0] rfl rfl (by decide) (by decide) hk1 hFc hP1 hD1
                                          generalize H1 = H at hP hS ⊢
                                          have hP : va_P (dC, dI) classes [(b0, .inr (4, [.ref h0, .int cl, .int be, .int co, .int le, .int ro, .int sa, .int ks, .ref b1, .ref b2])), (h0, .inr (0, [.int sec, .ref h1, .int pw])), (h1, .inl (cB, n, .inl f_54))] H := hP
                                          have hD : va_D A [(b0, .inr (4, [.ref h0, .int cl, .int be, .int co, .int le, .int ro, .int sa, .int ks, .ref b1, .ref b2])), (h0, .inr (0, [.int sec, .ref h1, .int pw])), (h1, .inl (cB, n, .inl f_54))] := hD
                                          refine lv_aload_n hx hb d_Tb_writeFirstSectors_141 rfl (lv_at hl 2 rfl) ?_
                                          refine va_get (D := (dC, dI)) (ci := 4) (v := .ref h0) (C := R_Tb) (T := F_Tb) (N := 10) hx hb hts i_Tb hown hK hP 0 rfl rfl 0 (by decide) (hts _ (k_Tb_6)) (fun _ h9 => h9) rfl d_Tb_writeFirstSectors_142 ?_
                                          refine lv_iload hx hb d_Tb_writeFirstSectors_145 (lv_at hl 1 rfl) ?_
                                          refine lv_bipush (v := 48) hx hb d_Tb_writeFirstSectors_147 (by decide) ?_
                                          refine lv_iadd hx hb d_Tb_writeFirstSectors_149 ?_
                                          refine lv_iconst (v := 1) hx hb d_Tb_writeFirstSectors_150 (by decide) ?_
                                          have hPc := hP.sub (ws' := [(h0, .inr (0, [.int sec, .ref h1, .int pw])), (h1, .inl (cB, n, .inl f_54))]) [1, 2] rfl
                                          have hDc := hD.sub (ws' := [(h0, .inr (0, [.int sec, .ref h1, .int pw])), (h1, .inl (cB, n, .inl f_54))]) [1, 2] (by decide) rfl
                                          have hKc := hK.sub (tys' := [(cB, .byte)]) [0] rfl
                                          have hFc := va_free (wc := [(h0, .inr (0, [.int sec, .ref h1, .int pw])), (h1, .inl (cB, n, .inl f_54))]) hD hS hA [1, 2] rfl
                                          refine va_callv (va_runV (As := [.int (3072 + 48), .int 1]) (rest := []) ⟨hx, hb, hml, hown, hts⟩ (c_Dk_putTwo l dC dI h0 h1 H.size cB sec pw n f_54 h4 hn (3072 + 48) 1) (cwV 2 hts (gwV good_Tb (k_Tb_83) (u_Tb_Dk _ k_Dk_27) (u_Tb_Dk _ k_Dk_28) (u_Tb_Dk _ k_Dk_0) (wcs (u_Tb_Dk _ k_Dk_29) u_Tb_Dk)) rfl rfl rfl (by decide +kernel) ⟨Nat.le_of_ble_eq_true rfl, Nat.le_of_ble_eq_true rfl⟩) (pv_of hPc hKc hDc (va_recv hKc hPc (ci := 0) (q0 := 0) rfl rfl)) rfl rfl hl.1 rfl (lv_room (Nat.le_of_ble_eq_true rfl)) d_Tb_writeFirstSectors_151 ⟨by decide, by decide⟩) hS (fun q _ h => hFc q h) hFc (fun u t H1 locs ht hvm hw hB hz1 hk1 hS => ?_)
                                          subst hw
                                          obtain ⟨hP1, hK1, hD1⟩ := hB
                                          rw [ht] at hP1
                                          obtain ⟨f_55, ef_55⟩ : ∃ g : Nat → Int32, g = dk_put2 n f_54 (3072 + 48) 1 := ⟨_, rfl⟩
                                          rw [← ef_55] at hP1 hD1
                                          have hP1 : va_P (dC, dI) classes [(h0, .inr (0, [.int sec, .ref h1, .int pw])), (h1, .inl (cB, n, .inl f_55))] H1 := hP1
                                          have hD1 : va_D _ [(h0, .inr (0, [.int sec, .ref h1, .int pw])), (h1, .inl (cB, n, .inl f_55))] := hD1
                                          obtain ⟨hP, hD⟩ := va_join (wr := [(b0, .inr (4, [.ref h0, .int cl, .int be, .int co, .int le, .int ro, .int sa, .int ks, .ref b1, .ref b2]))]) (w1 := [(h0, .inr (0, [.int sec, .ref h1, .int pw])), (h1, .inl (cB, n, .inl f_55))]) hP hD [1, 2] [0] rfl rfl (by decide) (by decide) hk1 hFc hP1 hD1
                                          generalize H1 = H at hP hS ⊢
                                          have hP : va_P (dC, dI) classes [(b0, .inr (4, [.ref h0, .int cl, .int be, .int co, .int le, .int ro, .int sa, .int ks, .ref b1, .ref b2])), (h0, .inr (0, [.int sec, .ref h1, .int pw])), (h1, .inl (cB, n, .inl f_55))] H := hP
                                          have hD : va_D A [(b0, .inr (4, [.ref h0, .int cl, .int be, .int co, .int le, .int ro, .int sa, .int ks, .ref b1, .ref b2])), (h0, .inr (0, [.int sec, .ref h1, .int pw])), (h1, .inl (cB, n, .inl f_55))] := hD
                                          refine lv_aload_n hx hb d_Tb_writeFirstSectors_154 rfl (lv_at hl 2 rfl) ?_
                                          refine va_get (D := (dC, dI)) (ci := 4) (v := .ref h0) (C := R_Tb) (T := F_Tb) (N := 10) hx hb hts i_Tb hown hK hP 0 rfl rfl 0 (by decide) (hts _ (k_Tb_6)) (fun _ h9 => h9) rfl d_Tb_writeFirstSectors_155 ?_
                                          refine lv_iload hx hb d_Tb_writeFirstSectors_158 (lv_at hl 1 rfl) ?_
                                          refine lv_bipush (v := 50) hx hb d_Tb_writeFirstSectors_160 (by decide) ?_
                                          refine lv_iadd hx hb d_Tb_writeFirstSectors_162 ?_
                                          refine lv_bipush (v := 6) hx hb d_Tb_writeFirstSectors_163 (by decide) ?_
                                          have hPc := hP.sub (ws' := [(h0, .inr (0, [.int sec, .ref h1, .int pw])), (h1, .inl (cB, n, .inl f_55))]) [1, 2] rfl
                                          have hDc := hD.sub (ws' := [(h0, .inr (0, [.int sec, .ref h1, .int pw])), (h1, .inl (cB, n, .inl f_55))]) [1, 2] (by decide) rfl
                                          have hKc := hK.sub (tys' := [(cB, .byte)]) [0] rfl
                                          have hFc := va_free (wc := [(h0, .inr (0, [.int sec, .ref h1, .int pw])), (h1, .inl (cB, n, .inl f_55))]) hD hS hA [1, 2] rfl
                                          refine va_callv (va_runV (As := [.int (3072 + 50), .int 6]) (rest := []) ⟨hx, hb, hml, hown, hts⟩ (c_Dk_putTwo l dC dI h0 h1 H.size cB sec pw n f_55 h4 hn (3072 + 50) 6) (cwV 2 hts (gwV good_Tb (k_Tb_83) (u_Tb_Dk _ k_Dk_27) (u_Tb_Dk _ k_Dk_28) (u_Tb_Dk _ k_Dk_0) (wcs (u_Tb_Dk _ k_Dk_29) u_Tb_Dk)) rfl rfl rfl (by decide +kernel) ⟨Nat.le_of_ble_eq_true rfl, Nat.le_of_ble_eq_true rfl⟩) (pv_of hPc hKc hDc (va_recv hKc hPc (ci := 0) (q0 := 0) rfl rfl)) rfl rfl hl.1 rfl (lv_room (Nat.le_of_ble_eq_true rfl)) d_Tb_writeFirstSectors_165 ⟨by decide, by decide⟩) hS (fun q _ h => hFc q h) hFc (fun u t H1 locs ht hvm hw hB hz1 hk1 hS => ?_)
                                          subst hw
                                          obtain ⟨hP1, hK1, hD1⟩ := hB
                                          rw [ht] at hP1
                                          obtain ⟨f_56, ef_56⟩ : ∃ g : Nat → Int32, g = dk_put2 n f_55 (3072 + 50) 6 := ⟨_, rfl⟩
                                          rw [← ef_56] at hP1 hD1
                                          have hP1 : va_P (dC, dI) classes [(h0, .inr (0, [.int sec, .ref h1, .int pw])), (h1, .inl (cB, n, .inl f_56))] H1 := hP1
                                          have hD1 : va_D _ [(h0, .inr (0, [.int sec, .ref h1, .int pw])), (h1, .inl (cB, n, .inl f_56))] := hD1
                                          obtain ⟨hP, hD⟩ := va_join (wr := [(b0, .inr (4, [.ref h0, .int cl, .int be, .int co, .int le, .int ro, .int sa, .int ks, .ref b1, .ref b2]))]) (w1 := [(h0, .inr (0, [.int sec, .ref h1, .int pw])), (h1, .inl (cB, n, .inl f_56))]) hP hD [1, 2] [0] rfl rfl (by decide) (by decide) hk1 hFc hP1 hD1
                                          generalize H1 = H at hP hS ⊢
                                          have hP : va_P (dC, dI) classes [(b0, .inr (4, [.ref h0, .int cl, .int be, .int co, .int le, .int ro, .int sa, .int ks, .ref b1, .ref b2])), (h0, .inr (0, [.int sec, .ref h1, .int pw])), (h1, .inl (cB, n, .inl f_56))] H := hP
                                          have hD : va_D A [(b0, .inr (4, [.ref h0, .int cl, .int be, .int co, .int le, .int ro, .int sa, .int ks, .ref b1, .ref b2])), (h0, .inr (0, [.int sec, .ref h1, .int pw])), (h1, .inl (cB, n, .inl f_56))] := hD
                                          refine lv_aload_n hx hb d_Tb_writeFirstSectors_168 rfl (lv_at hl 2 rfl) ?_
                                          refine va_get (D := (dC, dI)) (ci := 4) (v := .ref h0) (C := R_Tb) (T := F_Tb) (N := 10) hx hb hts i_Tb hown hK hP 0 rfl rfl 0 (by decide) (hts _ (k_Tb_6)) (fun _ h9 => h9) rfl d_Tb_writeFirstSectors_169 ?_
                                          refine lv_iload hx hb d_Tb_writeFirstSectors_172 (lv_at hl 1 rfl) ?_
                                          refine lv_bipush (v := 67) hx hb d_Tb_writeFirstSectors_174 (by decide) ?_
                                          refine lv_iadd hx hb d_Tb_writeFirstSectors_176 ?_
                                          refine lv_iload hx hb d_Tb_writeFirstSectors_177 (lv_at hl 7 rfl) ?_
                                          have hPc := hP.sub (ws' := [(h0, .inr (0, [.int sec, .ref h1, .int pw])), (h1, .inl (cB, n, .inl f_56))]) [1, 2] rfl
                                          have hDc := hD.sub (ws' := [(h0, .inr (0, [.int sec, .ref h1, .int pw])), (h1, .inl (cB, n, .inl f_56))]) [1, 2] (by decide) rfl
                                          have hKc := hK.sub (tys' := [(cB, .byte)]) [0] rfl
                                          have hFc := va_free (wc := [(h0, .inr (0, [.int sec, .ref h1, .int pw])), (h1, .inl (cB, n, .inl f_56))]) hD hS hA [1, 2] rfl
                                          refine va_callv (va_runV (As := [.int (3072 + 67), .int p5]) (rest := []) ⟨hx, hb, hml, hown, hts⟩ (c_Dk_putFour l dC dI h0 h1 H.size cB sec pw n f_56 h4 hn (3072 + 67) p5) (cwV 2 hts (gwV good_Tb (k_Tb_84) (u_Tb_Dk _ k_Dk_30) (u_Tb_Dk _ k_Dk_31) (u_Tb_Dk _ k_Dk_0) (wcs (u_Tb_Dk _ k_Dk_32) u_Tb_Dk)) rfl rfl rfl (by decide +kernel) ⟨Nat.le_of_ble_eq_true rfl, Nat.le_of_ble_eq_true rfl⟩) (pv_of hPc hKc hDc (va_recv hKc hPc (ci := 0) (q0 := 0) rfl rfl)) rfl rfl hl.1 rfl (lv_room (Nat.le_of_ble_eq_true rfl)) d_Tb_writeFirstSectors_179 ⟨by decide, by decide⟩) hS (fun q _ h => hFc q h) hFc (fun u t H1 locs ht hvm hw hB hz1 hk1 hS => ?_)
                                          subst hw
                                          obtain ⟨hP1, hK1, hD1⟩ := hB
                                          rw [ht] at hP1
                                          obtain ⟨f_57, ef_57⟩ : ∃ g : Nat → Int32, g = dk_put4 n f_56 (3072 + 67) p5 := ⟨_, rfl⟩
                                          rw [← ef_57] at hP1 hD1
                                          have hP1 : va_P (dC, dI) classes [(h0, .inr (0, [.int sec, .ref h1, .int pw])), (h1, .inl (cB, n, .inl f_57))] H1 := hP1
                                          have hD1 : va_D _ [(h0, .inr (0, [.int sec, .ref h1, .int pw])), (h1, .inl (cB, n, .inl f_57))] := hD1
                                          obtain ⟨hP, hD⟩ := va_join (wr := [(b0, .inr (4, [.ref h0, .int cl, .int be, .int co, .int le, .int ro, .int sa, .int ks, .ref b1, .ref b2]))]) (w1 := [(h0, .inr (0, [.int sec, .ref h1, .int pw])), (h1, .inl (cB, n, .inl f_57))]) hP hD [1, 2] [0] rfl rfl (by decide) (by decide) hk1 hFc hP1 hD1
                                          generalize H1 = H at hP hS ⊢
                                          have hP : va_P (dC, dI) classes [(b0, .inr (4, [.ref h0, .int cl, .int be, .int co, .int le, .int ro, .int sa, .int ks, .ref b1, .ref b2])), (h0, .inr (0, [.int sec, .ref h1, .int pw])), (h1, .inl (cB, n, .inl f_57))] H := hP
                                          have hD : va_D A [(b0, .inr (4, [.ref h0, .int cl, .int be, .int co, .int le, .int ro, .int sa, .int ks, .ref b1, .ref b2])), (h0, .inr (0, [.int sec, .ref h1, .int pw])), (h1, .inl (cB, n, .inl f_57))] := hD
                                          refine lv_aload_n hx hb d_Tb_writeFirstSectors_182 rfl (lv_at hl 2 rfl) ?_
                                          refine va_get (D := (dC, dI)) (ci := 4) (v := .ref h0) (C := R_Tb) (T := F_Tb) (N := 10) hx hb hts i_Tb hown hK hP 0 rfl rfl 0 (by decide) (hts _ (k_Tb_6)) (fun _ h9 => h9) rfl d_Tb_writeFirstSectors_183 ?_
                                          refine lv_iload hx hb d_Tb_writeFirstSectors_186 (lv_at hl 1 rfl) ?_
                                          refine lv_sipush (v := 510) hx hb d_Tb_writeFirstSectors_188 (by decide) ?_
                                          refine lv_iadd hx hb d_Tb_writeFirstSectors_191 ?_
                                          refine lv_ldc (v := 43605) hx hb hown (hts _ (k_Tb_28)) d_Tb_writeFirstSectors_192 ?_
                                          have hPc := hP.sub (ws' := [(h0, .inr (0, [.int sec, .ref h1, .int pw])), (h1, .inl (cB, n, .inl f_57))]) [1, 2] rfl
                                          have hDc := hD.sub (ws' := [(h0, .inr (0, [.int sec, .ref h1, .int pw])), (h1, .inl (cB, n, .inl f_57))]) [1, 2] (by decide) rfl
                                          have hKc := hK.sub (tys' := [(cB, .byte)]) [0] rfl
                                          have hFc := va_free (wc := [(h0, .inr (0, [.int sec, .ref h1, .int pw])), (h1, .inl (cB, n, .inl f_57))]) hD hS hA [1, 2] rfl
                                          refine va_callv (va_runV (As := [.int (3072 + 510), .int 43605]) (rest := []) ⟨hx, hb, hml, hown, hts⟩ (c_Dk_putTwo l dC dI h0 h1 H.size cB sec pw n f_57 h4 hn (3072 + 510) 43605) (cwV 2 hts (gwV good_Tb (k_Tb_83) (u_Tb_Dk _ k_Dk_27) (u_Tb_Dk _ k_Dk_28) (u_Tb_Dk _ k_Dk_0) (wcs (u_Tb_Dk _ k_Dk_29) u_Tb_Dk)) rfl rfl rfl (by decide +kernel) ⟨Nat.le_of_ble_eq_true rfl, Nat.le_of_ble_eq_true rfl⟩) (pv_of hPc hKc hDc (va_recv hKc hPc (ci := 0) (q0 := 0) rfl rfl)) rfl rfl hl.1 rfl (lv_room (Nat.le_of_ble_eq_true rfl)) d_Tb_writeFirstSectors_194 ⟨by decide, by decide⟩) hS (fun q _ h => hFc q h) hFc (fun u t H1 locs ht hvm hw hB hz1 hk1 hS => ?_)
                                          subst hw
                                          obtain ⟨hP1, hK1, hD1⟩ := hB
                                          rw [ht] at hP1
                                          obtain ⟨f_58, ef_58⟩ : ∃ g : Nat → Int32, g = dk_put2 n f_57 (3072 + 510) 43605 := ⟨_, rfl⟩
                                          rw [← ef_58] at hP1 hD1
                                          have hP1 : va_P (dC, dI) classes [(h0, .inr (0, [.int sec, .ref h1, .int pw])), (h1, .inl (cB, n, .inl f_58))] H1 := hP1
                                          have hD1 : va_D _ [(h0, .inr (0, [.int sec, .ref h1, .int pw])), (h1, .inl (cB, n, .inl f_58))] := hD1
                                          obtain ⟨hP, hD⟩ := va_join (wr := [(b0, .inr (4, [.ref h0, .int cl, .int be, .int co, .int le, .int ro, .int sa, .int ks, .ref b1, .ref b2]))]) (w1 := [(h0, .inr (0, [.int sec, .ref h1, .int pw])), (h1, .inl (cB, n, .inl f_58))]) hP hD [1, 2] [0] rfl rfl (by decide) (by decide) hk1 hFc hP1 hD1
                                          generalize H1 = H at hP hS ⊢
                                          have hP : va_P (dC, dI) classes [(b0, .inr (4, [.ref h0, .int cl, .int be, .int co, .int le, .int ro, .int sa, .int ks, .ref b1, .ref b2])), (h0, .inr (0, [.int sec, .ref h1, .int pw])), (h1, .inl (cB, n, .inl f_58))] H := hP
                                          have hD : va_D A [(b0, .inr (4, [.ref h0, .int cl, .int be, .int co, .int le, .int ro, .int sa, .int ks, .ref b1, .ref b2])), (h0, .inr (0, [.int sec, .ref h1, .int pw])), (h1, .inl (cB, n, .inl f_58))] := hD
                                          refine lv_iincW (v := 6144) (lv' := [(6, .int 6144), (7, .int 11), (0, .ref b0), (1, .int p1), (2, .int p2), (3, .int p3), (4, .int p4), (5, .int p5)]) hx hb d_Tb_writeFirstSectors_197 hl (k := 1) rfl (by decide) (by decide) rfl (fun ls hl => ?_)
                                          refine lv_goto (tgt := 3) hx hb d_Tb_writeFirstSectors_203 (by decide) ?_
                                          refine lv_iload hx hb d_Tb_writeFirstSectors_3 (lv_at hl 0 rfl) ?_
                                          refine lv_sipush (v := 3072) hx hb d_Tb_writeFirstSectors_5 (by decide) ?_
                                          refine lv_icmp_gt (tgt := 206) hx hb d_Tb_writeFirstSectors_8 (by decide) (fun c_59 => ?_) (fun c_59 => ?_)
                                          · refine lv_aload_n hx hb d_Tb_writeFirstSectors_206 rfl (lv_at hl 2 rfl) ?_
                                            refine va_get (D := (dC, dI)) (ci := 4) (v := .ref h0) (C := R_Tb) (T := F_Tb) (N := 10) hx hb hts i_Tb hown hK hP 0 rfl rfl 0 (by decide) (hts _ (k_Tb_6)) (fun _ h9 => h9) rfl d_Tb_writeFirstSectors_207 ?_
                                            refine lv_sipush (v := 512) hx hb d_Tb_writeFirstSectors_210 (by decide) ?_
                                            refine lv_ldc (v := 1096897106) hx hb hown (hts _ (k_Tb_85)) d_Tb_writeFirstSectors_213 ?_
                                            have hPc := hP.sub (ws' := [(h0, .inr (0, [.int sec, .ref h1, .int pw])), (h1, .inl (cB, n, .inl f_58))]) [1, 2] rfl
                                            have hDc := hD.sub (ws' := [(h0, .inr (0, [.int sec, .ref h1, .int pw])), (h1, .inl (cB, n, .inl f_58))]) [1, 2] (by decide) rfl
                                            have hKc := hK.sub (tys' := [(cB, .byte)]) [0] rfl
                                            have hFc := va_free (wc := [(h0, .inr (0, [.int sec, .ref h1, .int pw])), (h1, .inl (cB, n, .inl f_58))]) hD hS hA [1, 2] rfl
                                            refine va_callv (va_runV (As := [.int 512, .int 1096897106]) (rest := []) ⟨hx, hb, hml, hown, hts⟩ (c_Dk_putFour l dC dI h0 h1 H.size cB sec pw n f_58 h4 hn 512 1096897106) (cwV 2 hts (gwV good_Tb (k_Tb_84) (u_Tb_Dk _ k_Dk_30) (u_Tb_Dk _ k_Dk_31) (u_Tb_Dk _ k_Dk_0) (wcs (u_Tb_Dk _ k_Dk_32) u_Tb_Dk)) rfl rfl rfl (by decide +kernel) ⟨Nat.le_of_ble_eq_true rfl, Nat.le_of_ble_eq_true rfl⟩) (pv_of hPc hKc hDc (va_recv hKc hPc (ci := 0) (q0 := 0) rfl rfl)) rfl rfl hl.1 rfl (lv_room (Nat.le_of_ble_eq_true rfl)) d_Tb_writeFirstSectors_215 ⟨by decide, by decide⟩) hS (fun q _ h => hFc q h) hFc (fun u t H1 locs ht hvm hw hB hz1 hk1 hS => ?_)
                                            subst hw
                                            obtain ⟨hP1, hK1, hD1⟩ := hB
                                            rw [ht] at hP1
                                            obtain ⟨f_60, ef_60⟩ : ∃ g : Nat → Int32, g = dk_put4 n f_58 512 1096897106 := ⟨_, rfl⟩
                                            rw [← ef_60] at hP1 hD1
                                            have hP1 : va_P (dC, dI) classes [(h0, .inr (0, [.int sec, .ref h1, .int pw])), (h1, .inl (cB, n, .inl f_60))] H1 := hP1
                                            have hD1 : va_D _ [(h0, .inr (0, [.int sec, .ref h1, .int pw])), (h1, .inl (cB, n, .inl f_60))] := hD1
                                            obtain ⟨hP, hD⟩ := va_join (wr := [(b0, .inr (4, [.ref h0, .int cl, .int be, .int co, .int le, .int ro, .int sa, .int ks, .ref b1, .ref b2]))]) (w1 := [(h0, .inr (0, [.int sec, .ref h1, .int pw])), (h1, .inl (cB, n, .inl f_60))]) hP hD [1, 2] [0] rfl rfl (by decide) (by decide) hk1 hFc hP1 hD1
                                            generalize H1 = H at hP hS ⊢
                                            have hP : va_P (dC, dI) classes [(b0, .inr (4, [.ref h0, .int cl, .int be, .int co, .int le, .int ro, .int sa, .int ks, .ref b1, .ref b2])), (h0, .inr (0, [.int sec, .ref h1, .int pw])), (h1, .inl (cB, n, .inl f_60))] H := hP
                                            have hD : va_D A [(b0, .inr (4, [.ref h0, .int cl, .int be, .int co, .int le, .int ro, .int sa, .int ks, .ref b1, .ref b2])), (h0, .inr (0, [.int sec, .ref h1, .int pw])), (h1, .inl (cB, n, .inl f_60))] := hD
                                            refine lv_aload_n hx hb d_Tb_writeFirstSectors_218 rfl (lv_at hl 2 rfl) ?_
                                            refine va_get (D := (dC, dI)) (ci := 4) (v := .ref h0) (C := R_Tb) (T := F_Tb) (N := 10) hx hb hts i_Tb hown hK hP 0 rfl rfl 0 (by decide) (hts _ (k_Tb_6)) (fun _ h9 => h9) rfl d_Tb_writeFirstSectors_219 ?_
                                            refine lv_sipush (v := 996) hx hb d_Tb_writeFirstSectors_222 (by decide) ?_
                                            refine lv_ldc (v := 1631679090) hx hb hown (hts _ (k_Tb_86)) d_Tb_writeFirstSectors_225 ?_
                                            have hPc := hP.sub (ws' := [(h0, .inr (0, [.int sec, .ref h1, .int pw])), (h1, .inl (cB, n, .inl f_60))]) [1, 2] rfl
                                            have hDc := hD.sub (ws' := [(h0, .inr (0, [.int sec, .ref h1, .int pw])), (h1, .inl (cB, n, .inl f_60))]) [1, 2] (by decide) rfl
                                            have hKc := hK.sub (tys' := [(cB, .byte)]) [0] rfl
                                            have hFc := va_free (wc := [(h0, .inr (0, [.int sec, .ref h1, .int pw])), (h1, .inl (cB, n, .inl f_60))]) hD hS hA [1, 2] rfl
                                            refine va_callv (va_runV (As := [.int 996, .int 1631679090]) (rest := []) ⟨hx, hb, hml, hown, hts⟩ (c_Dk_putFour l dC dI h0 h1 H.size cB sec pw n f_60 h4 hn 996 1631679090) (cwV 2 hts (gwV good_Tb (k_Tb_84) (u_Tb_Dk _ k_Dk_30) (u_Tb_Dk _ k_Dk_31) (u_Tb_Dk _ k_Dk_0) (wcs (u_Tb_Dk _ k_Dk_32) u_Tb_Dk)) rfl rfl rfl (by decide +kernel) ⟨Nat.le_of_ble_eq_true rfl, Nat.le_of_ble_eq_true rfl⟩) (pv_of hPc hKc hDc (va_recv hKc hPc (ci := 0) (q0 := 0) rfl rfl)) rfl rfl hl.1 rfl (lv_room (Nat.le_of_ble_eq_true rfl)) d_Tb_writeFirstSectors_227 ⟨by decide, by decide⟩) hS (fun q _ h => hFc q h) hFc (fun u t H1 locs ht hvm hw hB hz1 hk1 hS => ?_)
                                            subst hw
                                            obtain ⟨hP1, hK1, hD1⟩ := hB
                                            rw [ht] at hP1
                                            obtain ⟨f_61, ef_61⟩ : ∃ g : Nat → Int32, g = dk_put4 n f_60 996 1631679090 := ⟨_, rfl⟩
                                            rw [← ef_61] at hP1 hD1
                                            have hP1 : va_P (dC, dI) classes [(h0, .inr (0, [.int sec, .ref h1, .int pw])), (h1, .inl (cB, n, .inl f_61))] H1 := hP1
                                            have hD1 : va_D _ [(h0, .inr (0, [.int sec, .ref h1, .int pw])), (h1, .inl (cB, n, .inl f_61))] := hD1
                                            obtain ⟨hP, hD⟩ := va_join (wr := [(b0, .inr (4, [.ref h0, .int cl, .int be, .int co, .int le, .int ro, .int sa, .int ks, .ref b1, .ref b2]))]) (w1 := [(h0, .inr (0, [.int sec, .ref h1, .int pw])), (h1, .inl (cB, n, .inl f_61))]) hP hD [1, 2] [0] rfl rfl (by decide) (by decide) hk1 hFc hP1 hD1
                                            generalize H1 = H at hP hS ⊢
                                            have hP : va_P (dC, dI) classes [(b0, .inr (4, [.ref h0, .int cl, .int be, .int co, .int le, .int ro, .int sa, .int ks, .ref b1, .ref b2])), (h0, .inr (0, [.int sec, .ref h1, .int pw])), (h1, .inl (cB, n, .inl f_61))] H := hP
                                            have hD : va_D A [(b0, .inr (4, [.ref h0, .int cl, .int be, .int co, .int le, .int ro, .int sa, .int ks, .ref b1, .ref b2])), (h0, .inr (0, [.int sec, .ref h1, .int pw])), (h1, .inl (cB, n, .inl f_61))] := hD
                                            refine lv_aload_n hx hb d_Tb_writeFirstSectors_230 rfl (lv_at hl 2 rfl) ?_
                                            refine va_get (D := (dC, dI)) (ci := 4) (v := .ref h0) (C := R_Tb) (T := F_Tb) (N := 10) hx hb hts i_Tb hown hK hP 0 rfl rfl 0 (by decide) (hts _ (k_Tb_6)) (fun _ h9 => h9) rfl d_Tb_writeFirstSectors_231 ?_
                                            refine lv_sipush (v := 1000) hx hb d_Tb_writeFirstSectors_234 (by decide) ?_
                                            refine lv_iconst (v := (-1)) hx hb d_Tb_writeFirstSectors_237 (by decide) ?_
                                            have hPc := hP.sub (ws' := [(h0, .inr (0, [.int sec, .ref h1, .int pw])), (h1, .inl (cB, n, .inl f_61))]) [1, 2] rfl
                                            have hDc := hD.sub (ws' := [(h0, .inr (0, [.int sec, .ref h1, .int pw])), (h1, .inl (cB, n, .inl f_61))]) [1, 2] (by decide) rfl
                                            have hKc := hK.sub (tys' := [(cB, .byte)]) [0] rfl
                                            have hFc := va_free (wc := [(h0, .inr (0, [.int sec, .ref h1, .int pw])), (h1, .inl (cB, n, .inl f_61))]) hD hS hA [1, 2] rfl
                                            refine va_callv (va_runV (As := [.int 1000, .int ((-1))]) (rest := []) ⟨hx, hb, hml, hown, hts⟩ (c_Dk_putFour l dC dI h0 h1 H.size cB sec pw n f_61 h4 hn 1000 ((-1))) (cwV 2 hts (gwV good_Tb (k_Tb_84) (u_Tb_Dk _ k_Dk_30) (u_Tb_Dk _ k_Dk_31) (u_Tb_Dk _ k_Dk_0) (wcs (u_Tb_Dk _ k_Dk_32) u_Tb_Dk)) rfl rfl rfl (by decide +kernel) ⟨Nat.le_of_ble_eq_true rfl, Nat.le_of_ble_eq_true rfl⟩) (pv_of hPc hKc hDc (va_recv hKc hPc (ci := 0) (q0 := 0) rfl rfl)) rfl rfl hl.1 rfl (lv_room (Nat.le_of_ble_eq_true rfl)) d_Tb_writeFirstSectors_238 ⟨by decide, by decide⟩) hS (fun q _ h => hFc q h) hFc (fun u t H1 locs ht hvm hw hB hz1 hk1 hS => ?_)
                                            subst hw
                                            obtain ⟨hP1, hK1, hD1⟩ := hB
                                            rw [ht] at hP1
                                            obtain ⟨f_62, ef_62⟩ : ∃ g : Nat → Int32, g = dk_put4 n f_61 1000 ((-1)) := ⟨_, rfl⟩
                                            rw [← ef_62] at hP1 hD1
                                            have hP1 : va_P (dC, dI) classes [(h0, .inr (0, [.int sec, .ref h1, .int pw])), (h1, .inl (cB, n, .inl f_62))] H1 := hP1
                                            have hD1 : va_D _ [(h0, .inr (0, [.int sec, .ref h1, .int pw])), (h1, .inl (cB, n, .inl f_62))] := hD1
                                            obtain ⟨hP, hD⟩ := va_join (wr := [(b0, .inr (4, [.ref h0, .int cl, .int be, .int co, .int le, .int ro, .int sa, .int ks, .ref b1, .ref b2]))]) (w1 := [(h0, .inr (0, [.int sec, .ref h1, .int pw])), (h1, .inl (cB, n, .inl f_62))]) hP hD [1, 2] [0] rfl rfl (by decide) (by decide) hk1 hFc hP1 hD1
                                            generalize H1 = H at hP hS ⊢
                                            have hP : va_P (dC, dI) classes [(b0, .inr (4, [.ref h0, .int cl, .int be, .int co, .int le, .int ro, .int sa, .int ks, .ref b1, .ref b2])), (h0, .inr (0, [.int sec, .ref h1, .int pw])), (h1, .inl (cB, n, .inl f_62))] H := hP
                                            have hD : va_D A [(b0, .inr (4, [.ref h0, .int cl, .int be, .int co, .int le, .int ro, .int sa, .int ks, .ref b1, .ref b2])), (h0, .inr (0, [.int sec, .ref h1, .int pw])), (h1, .inl (cB, n, .inl f_62))] := hD
                                            refine lv_aload_n hx hb d_Tb_writeFirstSectors_241 rfl (lv_at hl 2 rfl) ?_
                                            refine va_get (D := (dC, dI)) (ci := 4) (v := .ref h0) (C := R_Tb) (T := F_Tb) (N := 10) hx hb hts i_Tb hown hK hP 0 rfl rfl 0 (by decide) (hts _ (k_Tb_6)) (fun _ h9 => h9) rfl d_Tb_writeFirstSectors_242 ?_
                                            refine lv_sipush (v := 1004) hx hb d_Tb_writeFirstSectors_245 (by decide) ?_
                                            refine lv_iconst (v := (-1)) hx hb d_Tb_writeFirstSectors_248 (by decide) ?_
                                            have hPc := hP.sub (ws' := [(h0, .inr (0, [.int sec, .ref h1, .int pw])), (h1, .inl (cB, n, .inl f_62))]) [1, 2] rfl
                                            have hDc := hD.sub (ws' := [(h0, .inr (0, [.int sec, .ref h1, .int pw])), (h1, .inl (cB, n, .inl f_62))]) [1, 2] (by decide) rfl
                                            have hKc := hK.sub (tys' := [(cB, .byte)]) [0] rfl
                                            have hFc := va_free (wc := [(h0, .inr (0, [.int sec, .ref h1, .int pw])), (h1, .inl (cB, n, .inl f_62))]) hD hS hA [1, 2] rfl
                                            refine va_callv (va_runV (As := [.int 1004, .int ((-1))]) (rest := []) ⟨hx, hb, hml, hown, hts⟩ (c_Dk_putFour l dC dI h0 h1 H.size cB sec pw n f_62 h4 hn 1004 ((-1))) (cwV 2 hts (gwV good_Tb (k_Tb_84) (u_Tb_Dk _ k_Dk_30) (u_Tb_Dk _ k_Dk_31) (u_Tb_Dk _ k_Dk_0) (wcs (u_Tb_Dk _ k_Dk_32) u_Tb_Dk)) rfl rfl rfl (by decide +kernel) ⟨Nat.le_of_ble_eq_true rfl, Nat.le_of_ble_eq_true rfl⟩) (pv_of hPc hKc hDc (va_recv hKc hPc (ci := 0) (q0 := 0) rfl rfl)) rfl rfl hl.1 rfl (lv_room (Nat.le_of_ble_eq_true rfl)) d_Tb_writeFirstSectors_249 ⟨by decide, by decide⟩) hS (fun q _ h => hFc q h) hFc (fun u t H1 locs ht hvm hw hB hz1 hk1 hS => ?_)
                                            subst hw
                                            obtain ⟨hP1, hK1, hD1⟩ := hB
                                            rw [ht] at hP1
                                            obtain ⟨f_63, ef_63⟩ : ∃ g : Nat → Int32, g = dk_put4 n f_62 1004 ((-1)) := ⟨_, rfl⟩
                                            rw [← ef_63] at hP1 hD1
                                            have hP1 : va_P (dC, dI) classes [(h0, .inr (0, [.int sec, .ref h1, .int pw])), (h1, .inl (cB, n, .inl f_63))] H1 := hP1
                                            have hD1 : va_D _ [(h0, .inr (0, [.int sec, .ref h1, .int pw])), (h1, .inl (cB, n, .inl f_63))] := hD1
                                            obtain ⟨hP, hD⟩ := va_join (wr := [(b0, .inr (4, [.ref h0, .int cl, .int be, .int co, .int le, .int ro, .int sa, .int ks, .ref b1, .ref b2]))]) (w1 := [(h0, .inr (0, [.int sec, .ref h1, .int pw])), (h1, .inl (cB, n, .inl f_63))]) hP hD [1, 2] [0] rfl rfl (by decide) (by decide) hk1 hFc hP1 hD1
                                            generalize H1 = H at hP hS ⊢
                                            have hP : va_P (dC, dI) classes [(b0, .inr (4, [.ref h0, .int cl, .int be, .int co, .int le, .int ro, .int sa, .int ks, .ref b1, .ref b2])), (h0, .inr (0, [.int sec, .ref h1, .int pw])), (h1, .inl (cB, n, .inl f_63))] H := hP
                                            have hD : va_D A [(b0, .inr (4, [.ref h0, .int cl, .int be, .int co, .int le, .int ro, .int sa, .int ks, .ref b1, .ref b2])), (h0, .inr (0, [.int sec, .ref h1, .int pw])), (h1, .inl (cB, n, .inl f_63))] := hD
                                            refine lv_aload_n hx hb d_Tb_writeFirstSectors_252 rfl (lv_at hl 2 rfl) ?_
                                            refine va_get (D := (dC, dI)) (ci := 4) (v := .ref h0) (C := R_Tb) (T := F_Tb) (N := 10) hx hb hts i_Tb hown hK hP 0 rfl rfl 0 (by decide) (hts _ (k_Tb_6)) (fun _ h9 => h9) rfl d_Tb_writeFirstSectors_253 ?_
                                            refine lv_sipush (v := 1020) hx hb d_Tb_writeFirstSectors_256 (by decide) ?_
                                            refine lv_ldc (v := (-1437270016)) hx hb hown (hts _ (k_Tb_87)) d_Tb_writeFirstSectors_259 ?_
                                            have hPc := hP.sub (ws' := [(h0, .inr (0, [.int sec, .ref h1, .int pw])), (h1, .inl (cB, n, .inl f_63))]) [1, 2] rfl
                                            have hDc := hD.sub (ws' := [(h0, .inr (0, [.int sec, .ref h1, .int pw])), (h1, .inl (cB, n, .inl f_63))]) [1, 2] (by decide) rfl
                                            have hKc := hK.sub (tys' := [(cB, .byte)]) [0] rfl
                                            have hFc := va_free (wc := [(h0, .inr (0, [.int sec, .ref h1, .int pw])), (h1, .inl (cB, n, .inl f_63))]) hD hS hA [1, 2] rfl
                                            refine va_callv (va_runV (As := [.int 1020, .int ((-1437270016))]) (rest := []) ⟨hx, hb, hml, hown, hts⟩ (c_Dk_putFour l dC dI h0 h1 H.size cB sec pw n f_63 h4 hn 1020 ((-1437270016))) (cwV 2 hts (gwV good_Tb (k_Tb_84) (u_Tb_Dk _ k_Dk_30) (u_Tb_Dk _ k_Dk_31) (u_Tb_Dk _ k_Dk_0) (wcs (u_Tb_Dk _ k_Dk_32) u_Tb_Dk)) rfl rfl rfl (by decide +kernel) ⟨Nat.le_of_ble_eq_true rfl, Nat.le_of_ble_eq_true rfl⟩) (pv_of hPc hKc hDc (va_recv hKc hPc (ci := 0) (q0 := 0) rfl rfl)) rfl rfl hl.1 rfl (lv_room (Nat.le_of_ble_eq_true rfl)) d_Tb_writeFirstSectors_261 ⟨by decide, by decide⟩) hS (fun q _ h => hFc q h) hFc (fun u t H1 locs ht hvm hw hB hz1 hk1 hS => ?_)
                                            subst hw
                                            obtain ⟨hP1, hK1, hD1⟩ := hB
                                            rw [ht] at hP1
                                            obtain ⟨f_64, ef_64⟩ : ∃ g : Nat → Int32, g = dk_put4 n f_63 1020 ((-1437270016)) := ⟨_, rfl⟩
                                            rw [← ef_64] at hP1 hD1
                                            have hP1 : va_P (dC, dI) classes [(h0, .inr (0, [.int sec, .ref h1, .int pw])), (h1, .inl (cB, n, .inl f_64))] H1 := hP1
                                            have hD1 : va_D _ [(h0, .inr (0, [.int sec, .ref h1, .int pw])), (h1, .inl (cB, n, .inl f_64))] := hD1
                                            obtain ⟨hP, hD⟩ := va_join (wr := [(b0, .inr (4, [.ref h0, .int cl, .int be, .int co, .int le, .int ro, .int sa, .int ks, .ref b1, .ref b2]))]) (w1 := [(h0, .inr (0, [.int sec, .ref h1, .int pw])), (h1, .inl (cB, n, .inl f_64))]) hP hD [1, 2] [0] rfl rfl (by decide) (by decide) hk1 hFc hP1 hD1
                                            generalize H1 = H at hP hS ⊢
                                            have hP : va_P (dC, dI) classes [(b0, .inr (4, [.ref h0, .int cl, .int be, .int co, .int le, .int ro, .int sa, .int ks, .ref b1, .ref b2])), (h0, .inr (0, [.int sec, .ref h1, .int pw])), (h1, .inl (cB, n, .inl f_64))] H := hP
                                            have hD : va_D A [(b0, .inr (4, [.ref h0, .int cl, .int be, .int co, .int le, .int ro, .int sa, .int ks, .ref b1, .ref b2])), (h0, .inr (0, [.int sec, .ref h1, .int pw])), (h1, .inl (cB, n, .inl f_64))] := hD
                                            exact W.vret hx hb hr (fun t ht hW => ⟨⟨f_64, rfl, by rw [ef_64, ef_63, ef_62, ef_61, ef_60, ef_58, ef_57, ef_56, ef_55, ef_54, ef_53, ef_52, ef_51, ef_50, ef_49, ef_48, ef_46, ef_44, ef_42, ef_40, ef_38, ef_36, ef_34, ef_32, ef_29, ef_28, ef_27, ef_26, ef_25, ef_24, ef_23, ef_22, ef_21, ef_20, ef_19, ef_17, ef_15, ef_13, ef_11, ef_9, ef_7, ef_5, ef_3]; rfl, by rw [ht]; exact hP, va_K.moved hW.alike hK, hD⟩, hS.F ht⟩) hS.2.2 d_Tb_writeFirstSectors_264
                                          · exact absurd c_59 (by decide)
                                        · exact absurd c_47 (by decide)
                    · exact absurd c_18 (by decide)
