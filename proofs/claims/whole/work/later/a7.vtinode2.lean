set_option maxHeartbeats 4000000 in
set_option maxRecDepth 100000 in
/-- the entry of the k-th item here -/
theorem c_Vt_entryHere2 (l : Launch) (dC : Nat → ClassId) (dI : Nat → Nat → Nat) (v0 sz h0 t0 b0 e0 r0 d0 g0 u0 i0 fa fw : Nat) (fs he sta lf hru : Int32) (se : Int32) (h1 : Nat) (cB : ClassId) (sec pw : Int32) (n : Nat) (f : Nat → Int32) (h4 : 4 ≤ n) (hn : n < 2 ^ 31) (p1 : Int32) (hkA : ¬ p1 < 0) (hkB : p1 < (in_find n f he (-1)).2 - 2) : Met l y_Vt_entryHere (.code y_Vt_entryHere b_Vt_entryHere 2 (some .int) :: V_Vt) ({ frames := 4, cells := 0, slots := 0, locals := 108 }) (va_Pc [.ref v0, .int p1] (fun U => U.heap.size = sz ∧ at_ (dC, dI) (fun _ => True) [(v0, .inr (11, [.ref h0, .ref t0, .ref b0, .ref e0, .ref r0, .ref d0, .ref g0, .ref u0, .ref i0, .ref fa, .ref fw, .int fs, .int he, .int sta, .int lf, .int hru])), (i0, .inr (6, [.ref h0, .int se])), (h0, .inr (0, [.int sec, .ref h1, .int pw])), (h1, .inl (cB, n, .inl f))] [(cB, .byte)] U)) (va_Qi (fun (r : Int32) (u : Unit) => r = (in_find n f he (p1 + 2)).1) (fun (u : Unit) t => at_ (dC, dI) (va_A [(v0, .inr (11, [.ref h0, .ref t0, .ref b0, .ref e0, .ref r0, .ref d0, .ref g0, .ref u0, .ref i0, .ref fa, .ref fw, .int fs, .int he, .int sta, .int lf, .int hru])), (i0, .inr (6, [.ref h0, .int se])), (h0, .inr (0, [.int sec, .ref h1, .int pw])), (h1, .inl (cB, n, .inl f))] sz) [(v0, .inr (11, [.ref h0, .ref t0, .ref b0, .ref e0, .ref r0, .ref d0, .ref g0, .ref u0, .ref i0, .ref fa, .ref fw, .int fs, .int he, .int sta, .int lf, .int hru])), (i0, .inr (6, [.ref h0, .int ((in_find n f he (p1 + 2)).2)])), (h0, .inr (0, [.int sec, .ref h1, .int pw])), (h1, .inl (cB, n, .inl f))] [(cB, .byte)] t) (va_A [(v0, .inr (11, [.ref h0, .ref t0, .ref b0, .ref e0, .ref r0, .ref d0, .ref g0, .ref u0, .ref i0, .ref fa, .ref fw, .int fs, .int he, .int sta, .int lf, .int hru])), (i0, .inr (6, [.ref h0, .int se])), (h0, .inr (0, [.int sec, .ref h1, .int pw])), (h1, .inl (cB, n, .inl f))] sz)) 0 0 (va_A [(v0, .inr (11, [.ref h0, .ref t0, .ref b0, .ref e0, .ref r0, .ref d0, .ref g0, .ref u0, .ref i0, .ref fa, .ref fw, .int fs, .int he, .int sta, .int lf, .int hru])), (i0, .inr (6, [.ref h0, .int se])), (h0, .inr (0, [.int sec, .ref h1, .int pw])), (h1, .inl (cB, n, .inl f))] sz) := by
  refine Met.ofW (cc := b_Vt_entryHere) (maxL := 2) (ret := (some .int)) (by decide) rfl ?_
  intro p e s m args below meth c s₁ B hml hv
  obtain ⟨rfl, hsz, hP, hK, hD0⟩ := hv
  have hx := B.exec
  have hb := B.bytes
  have hr := B.returns
  have hts0 := atoms_spec (ws := .code y_Vt_entryHere b_Vt_entryHere 2 (some .int) :: V_Vt) B.pre
  have hts : ∀ w ∈ V_Vt, w.before ([.ref v0, .int p1] : List Value).toArray s = true := fun w h => hts0 w (List.mem_cons_of_mem _ h)
  have hown : s.vm.findClass R_Vt = some m.cls := findClass_of_methodNamed B.named
  have hlocks := B.notSynchronized
  subst hsz
  have hD := hD0.self (sz := s.heap.size)
  generalize hAe : va_A [(v0, .inr (11, [.ref h0, .ref t0, .ref b0, .ref e0, .ref r0, .ref d0, .ref g0, .ref u0, .ref i0, .ref fa, .ref fw, .int fs, .int he, .int sta, .int lf, .int hru])), (i0, .inr (6, [.ref h0, .int se])), (h0, .inr (0, [.int sec, .ref h1, .int pw])), (h1, .inl (cB, n, .inl f))] s.heap.size = A at hD ⊢
  have hA : ∀ q : Nat, s.heap.size ≤ q → A q := fun q h => by rw [← hAe]; exact Or.inr h
  have hS : va_S A s.heap s.heap [] := va_S.rf
  have hP : va_P (dC, dI) classes [(v0, .inr (11, [.ref h0, .ref t0, .ref b0, .ref e0, .ref r0, .ref d0, .ref g0, .ref u0, .ref i0, .ref fa, .ref fw, .int fs, .int he, .int sta, .int lf, .int hru])), (i0, .inr (6, [.ref h0, .int se])), (h0, .inr (0, [.int sec, .ref h1, .int pw])), (h1, .inl (cB, n, .inl f))] s.heap := hP
  have hK : va_K (dC, dI) classes [(cB, .byte)] s := hK
  have hl := lv_entry ([.ref v0, .int p1]) (n := 2) (Nat.le_of_ble_eq_true rfl)
  rw [lg_entry_eq]
  generalize (lg_sl ([.ref v0, .int p1]) ++ List.replicate (2 - (lg_sl ([.ref v0, .int p1])).length) Slot.unset).toArray = ls at hl ⊢
  have hl : lv_has ls 2 [(0, .ref v0), (1, .int p1)] := hl
  refine lv_iload_n hx hb d_Vt_entryHere_0 rfl (lv_at hl 1 rfl) ?_
  refine lv_if_lt (tgt := 19) hx hb d_Vt_entryHere_1 (by decide) (fun c_1 => ?_) (fun c_1 => ?_)
  · exact absurd c_1 hkA
  · refine lv_iload_n hx hb d_Vt_entryHere_4 rfl (lv_at hl 1 rfl) ?_
    refine lv_aload_n hx hb d_Vt_entryHere_5 rfl (lv_at hl 0 rfl) ?_
    refine va_get (D := (dC, dI)) (ci := 11) (v := .ref i0) (C := R_Vt) (T := F_Vt) (N := 16) hx hb hts i_Vt hown hK hP 0 rfl rfl 8 (by decide) (hts _ (k_Vt_37)) (fun _ h9 => h9) rfl d_Vt_entryHere_6 ?_
    refine lv_aload_n hx hb d_Vt_entryHere_9 rfl (lv_at hl 0 rfl) ?_
    refine va_get (D := (dC, dI)) (ci := 11) (v := .int he) (C := R_Vt) (T := F_Vt) (N := 16) hx hb hts i_Vt hown hK hP 0 rfl rfl 12 (by decide) (hts _ (k_Vt_41)) (fun _ h9 => h9) rfl d_Vt_entryHere_10 ?_
    have hPc := hP.sub (ws' := [(i0, .inr (6, [.ref h0, .int se])), (h0, .inr (0, [.int sec, .ref h1, .int pw])), (h1, .inl (cB, n, .inl f))]) [1, 2, 3] rfl
    have hDc := hD.sub (ws' := [(i0, .inr (6, [.ref h0, .int se])), (h0, .inr (0, [.int sec, .ref h1, .int pw])), (h1, .inl (cB, n, .inl f))]) [1, 2, 3] (by decide) rfl
    have hKc := hK.sub (tys' := [(cB, .byte)]) [0] rfl
    have hFc := va_free (wc := [(i0, .inr (6, [.ref h0, .int se])), (h0, .inr (0, [.int sec, .ref h1, .int pw])), (h1, .inl (cB, n, .inl f))]) hD hS hA [1, 2, 3] rfl
    refine va_calli (va_runV (As := [.int he]) (rest := [.int p1]) ⟨hx, hb, hml, hown, hts⟩ (c_In_countIn l dC dI i0 h0 s.heap.size se h1 cB sec pw n f h4 hn he) (cwV 1 hts (gwV good_Vt (k_Vt_117) (u_Vt_In _ k_In_26) (u_Vt_In _ k_In_27) (u_Vt_In _ k_In_0) (wcs (u_Vt_In _ k_In_28) u_Vt_In)) rfl rfl rfl (by decide +kernel) ⟨Nat.le_of_ble_eq_true rfl, Nat.le_of_ble_eq_true rfl⟩) (pv_of hPc hKc hDc (va_recv hKc hPc (ci := 6) (q0 := 0) rfl rfl)) rfl rfl hl.1 rfl (lv_room (Nat.le_of_ble_eq_true rfl)) d_Vt_entryHere_13 ⟨by decide, by decide⟩) hS (fun q _ h => hFc q h) hFc (fun r_2 u t H1 locs ht hvm hw hB hz1 hk1 hS => ?_)
    subst hw
    obtain ⟨hP1, hK1, hD1⟩ := hB
    rw [ht] at hP1
    have hP1 : va_P (dC, dI) classes [(i0, .inr (6, [.ref h0, .int ((in_find n f he (-1)).2)])), (h0, .inr (0, [.int sec, .ref h1, .int pw])), (h1, .inl (cB, n, .inl f))] H1 := hP1
    have hD1 : va_D _ [(i0, .inr (6, [.ref h0, .int ((in_find n f he (-1)).2)])), (h0, .inr (0, [.int sec, .ref h1, .int pw])), (h1, .inl (cB, n, .inl f))] := hD1
    obtain ⟨hP, hD⟩ := va_join (wr := [(v0, .inr (11, [.ref h0, .ref t0, .ref b0, .ref e0, .ref r0, .ref d0, .ref g0, .ref u0, .ref i0, .ref fa, .ref fw, .int fs, .int he, .int sta, .int lf, .int hru]))]) (w1 := [(i0, .inr (6, [.ref h0, .int ((in_find n f he (-1)).2)])), (h0, .inr (0, [.int sec, .ref h1, .int pw])), (h1, .inl (cB, n, .inl f))]) hP hD [1, 2, 3] [0] rfl rfl (by decide) (by decide) hk1 hFc hP1 hD1
    generalize H1 = H at hP hS ⊢
    have hP : va_P (dC, dI) classes [(v0, .inr (11, [.ref h0, .ref t0, .ref b0, .ref e0, .ref r0, .ref d0, .ref g0, .ref u0, .ref i0, .ref fa, .ref fw, .int fs, .int he, .int sta, .int lf, .int hru])), (i0, .inr (6, [.ref h0, .int ((in_find n f he (-1)).2)])), (h0, .inr (0, [.int sec, .ref h1, .int pw])), (h1, .inl (cB, n, .inl f))] H := hP
    have hD : va_D A [(v0, .inr (11, [.ref h0, .ref t0, .ref b0, .ref e0, .ref r0, .ref d0, .ref g0, .ref u0, .ref i0, .ref fa, .ref fw, .int fs, .int he, .int sta, .int lf, .int hru])), (i0, .inr (6, [.ref h0, .int ((in_find n f he (-1)).2)])), (h0, .inr (0, [.int sec, .ref h1, .int pw])), (h1, .inl (cB, n, .inl f))] := hD
    refine lv_icmp_lt (tgt := 30) hx hb d_Vt_entryHere_16 (by decide) (fun c_3 => ?_) (fun c_3 => ?_)
    · refine lv_aload_n hx hb d_Vt_entryHere_30 rfl (lv_at hl 0 rfl) ?_
      refine va_get (D := (dC, dI)) (ci := 11) (v := .ref i0) (C := R_Vt) (T := F_Vt) (N := 16) hx hb hts i_Vt hown hK hP 0 rfl rfl 8 (by decide) (hts _ (k_Vt_37)) (fun _ h9 => h9) rfl d_Vt_entryHere_31 ?_
      refine lv_aload_n hx hb d_Vt_entryHere_34 rfl (lv_at hl 0 rfl) ?_
      refine va_get (D := (dC, dI)) (ci := 11) (v := .int he) (C := R_Vt) (T := F_Vt) (N := 16) hx hb hts i_Vt hown hK hP 0 rfl rfl 12 (by decide) (hts _ (k_Vt_41)) (fun _ h9 => h9) rfl d_Vt_entryHere_35 ?_
      refine lv_iload_n hx hb d_Vt_entryHere_38 rfl (lv_at hl 1 rfl) ?_
      refine lv_iconst (v := 2) hx hb d_Vt_entryHere_39 (by decide) ?_
      refine lv_iadd hx hb d_Vt_entryHere_40 ?_
      have hPc := hP.sub (ws' := [(i0, .inr (6, [.ref h0, .int ((in_find n f he (-1)).2)])), (h0, .inr (0, [.int sec, .ref h1, .int pw])), (h1, .inl (cB, n, .inl f))]) [1, 2, 3] rfl
      have hDc := hD.sub (ws' := [(i0, .inr (6, [.ref h0, .int ((in_find n f he (-1)).2)])), (h0, .inr (0, [.int sec, .ref h1, .int pw])), (h1, .inl (cB, n, .inl f))]) [1, 2, 3] (by decide) rfl
      have hKc := hK.sub (tys' := [(cB, .byte)]) [0] rfl
      have hFc := va_free (wc := [(i0, .inr (6, [.ref h0, .int ((in_find n f he (-1)).2)])), (h0, .inr (0, [.int sec, .ref h1, .int pw])), (h1, .inl (cB, n, .inl f))]) hD hS hA [1, 2, 3] rfl
      refine va_calli (va_runV (As := [.int he, .int (p1 + 2)]) (rest := []) ⟨hx, hb, hml, hown, hts⟩ (c_In_findEntry l dC dI i0 h0 H.size ((in_find n f he (-1)).2) h1 cB sec pw n f h4 hn he (p1 + 2)) (cwV 2 hts (gwV good_Vt (k_Vt_128) (u_Vt_In _ k_In_30) (u_Vt_In _ k_In_31) (u_Vt_In _ k_In_0) (wcs (u_Vt_In _ k_In_32) u_Vt_In)) rfl rfl rfl (by decide +kernel) ⟨Nat.le_of_ble_eq_true rfl, Nat.le_of_ble_eq_true rfl⟩) (pv_of hPc hKc hDc (va_recv hKc hPc (ci := 6) (q0 := 0) rfl rfl)) rfl rfl hl.1 rfl (lv_room (Nat.le_of_ble_eq_true rfl)) d_Vt_entryHere_41 ⟨by decide, by decide⟩) hS (fun q _ h => hFc q h) hFc (fun r_4 u t H1 locs ht hvm hw hB hz1 hk1 hS => ?_)
      have hr9 : r_4 = (in_find n f he (p1 + 2)).1 := by rw [← hw]
      have hu9 : u = (in_find n f he (p1 + 2)).2 := by rw [← hw]
      rw [hr9]
      clear hr9 hw
      subst hu9
      obtain ⟨hP1, hK1, hD1⟩ := hB
      rw [ht] at hP1
      have hP1 : va_P (dC, dI) classes [(i0, .inr (6, [.ref h0, .int ((in_find n f he (p1 + 2)).2)])), (h0, .inr (0, [.int sec, .ref h1, .int pw])), (h1, .inl (cB, n, .inl f))] H1 := hP1
      have hD1 : va_D _ [(i0, .inr (6, [.ref h0, .int ((in_find n f he (p1 + 2)).2)])), (h0, .inr (0, [.int sec, .ref h1, .int pw])), (h1, .inl (cB, n, .inl f))] := hD1
      obtain ⟨hP, hD⟩ := va_join (wr := [(v0, .inr (11, [.ref h0, .ref t0, .ref b0, .ref e0, .ref r0, .ref d0, .ref g0, .ref u0, .ref i0, .ref fa, .ref fw, .int fs, .int he, .int sta, .int lf, .int hru]))]) (w1 := [(i0, .inr (6, [.ref h0, .int ((in_find n f he (p1 + 2)).2)])), (h0, .inr (0, [.int sec, .ref h1, .int pw])), (h1, .inl (cB, n, .inl f))]) hP hD [1, 2, 3] [0] rfl rfl (by decide) (by decide) hk1 hFc hP1 hD1
      generalize H1 = H at hP hS ⊢
      have hP : va_P (dC, dI) classes [(v0, .inr (11, [.ref h0, .ref t0, .ref b0, .ref e0, .ref r0, .ref d0, .ref g0, .ref u0, .ref i0, .ref fa, .ref fw, .int fs, .int he, .int sta, .int lf, .int hru])), (i0, .inr (6, [.ref h0, .int ((in_find n f he (p1 + 2)).2)])), (h0, .inr (0, [.int sec, .ref h1, .int pw])), (h1, .inl (cB, n, .inl f))] H := hP
      have hD : va_D A [(v0, .inr (11, [.ref h0, .ref t0, .ref b0, .ref e0, .ref r0, .ref d0, .ref g0, .ref u0, .ref i0, .ref fa, .ref fw, .int fs, .int he, .int sta, .int lf, .int hru])), (i0, .inr (6, [.ref h0, .int ((in_find n f he (p1 + 2)).2)])), (h0, .inr (0, [.int sec, .ref h1, .int pw])), (h1, .inl (cB, n, .inl f))] := hD
      exact W.iret (v := ((in_find n f he (p1 + 2)).1)) hx hb hr (fun t ht hW => ⟨⟨((in_find n f he (p1 + 2)).1), (), rfl, rfl, by rw [ht]; exact hP, va_K.moved hW.alike hK, hD⟩, hS.F ht⟩) hS.2.2 d_Vt_entryHere_44
    · exact absurd hkB c_3
set_option maxHeartbeats 4000000 in
set_option maxRecDepth 100000 in
/-- letter in an inode volume -/
theorem c_Vt_letter2 (l : Launch) (dC : Nat → ClassId) (dI : Nat → Nat → Nat) (v0 sz h0 t0 b0 e0 r0 d0 g0 u0 i0 fa fw : Nat) (fs he sta lf hru : Int32) (se : Int32) (h1 : Nat) (cB : ClassId) (sec pw : Int32) (n : Nat) (f : Nat → Int32) (h4 : 4 ≤ n) (hn : n < 2 ^ 31) (hit : in_there n f = 1) (p1 : Int32) (hkA : ¬ p1 < 0) (hkB : p1 < (in_find n f he (-1)).2 - 2) (p2 : Int32) : Met l y_Vt_letter (.code y_Vt_letter b_Vt_letter 3 (some .int) :: V_Vt) ({ frames := 5, cells := 0, slots := 0, locals := 129 }) (va_Pc [.ref v0, .int p1, .int p2] (fun U => U.heap.size = sz ∧ at_ (dC, dI) (fun _ => True) [(v0, .inr (11, [.ref h0, .ref t0, .ref b0, .ref e0, .ref r0, .ref d0, .ref g0, .ref u0, .ref i0, .ref fa, .ref fw, .int fs, .int he, .int sta, .int lf, .int hru])), (i0, .inr (6, [.ref h0, .int se])), (h0, .inr (0, [.int sec, .ref h1, .int pw])), (h1, .inl (cB, n, .inl f))] [(cB, .byte)] U)) (va_Qi (fun (r : Int32) (u : Unit) => r = in_name n f (in_find n f he (p1 + 2)).1 p2) (fun (u : Unit) t => at_ (dC, dI) (va_A [(v0, .inr (11, [.ref h0, .ref t0, .ref b0, .ref e0, .ref r0, .ref d0, .ref g0, .ref u0, .ref i0, .ref fa, .ref fw, .int fs, .int he, .int sta, .int lf, .int hru])), (i0, .inr (6, [.ref h0, .int se])), (h0, .inr (0, [.int sec, .ref h1, .int pw])), (h1, .inl (cB, n, .inl f))] sz) [(v0, .inr (11, [.ref h0, .ref t0, .ref b0, .ref e0, .ref r0, .ref d0, .ref g0, .ref u0, .ref i0, .ref fa, .ref fw, .int fs, .int he, .int sta, .int lf, .int hru])), (i0, .inr (6, [.ref h0, .int ((in_find n f he (p1 + 2)).2)])), (h0, .inr (0, [.int sec, .ref h1, .int pw])), (h1, .inl (cB, n, .inl f))] [(cB, .byte)] t) (va_A [(v0, .inr (11, [.ref h0, .ref t0, .ref b0, .ref e0, .ref r0, .ref d0, .ref g0, .ref u0, .ref i0, .ref fa, .ref fw, .int fs, .int he, .int sta, .int lf, .int hru])), (i0, .inr (6, [.ref h0, .int se])), (h0, .inr (0, [.int sec, .ref h1, .int pw])), (h1, .inl (cB, n, .inl f))] sz)) 0 0 (va_A [(v0, .inr (11, [.ref h0, .ref t0, .ref b0, .ref e0, .ref r0, .ref d0, .ref g0, .ref u0, .ref i0, .ref fa, .ref fw, .int fs, .int he, .int sta, .int lf, .int hru])), (i0, .inr (6, [.ref h0, .int se])), (h0, .inr (0, [.int sec, .ref h1, .int pw])), (h1, .inl (cB, n, .inl f))] sz) := by
  refine Met.ofW (cc := b_Vt_letter) (maxL := 3) (ret := (some .int)) (by decide) rfl ?_
  intro p e s m args below meth c s₁ B hml hv
  obtain ⟨rfl, hsz, hP, hK, hD0⟩ := hv
  have hx := B.exec
  have hb := B.bytes
  have hr := B.returns
  have hts0 := atoms_spec (ws := .code y_Vt_letter b_Vt_letter 3 (some .int) :: V_Vt) B.pre
  have hts : ∀ w ∈ V_Vt, w.before ([.ref v0, .int p1, .int p2] : List Value).toArray s = true := fun w h => hts0 w (List.mem_cons_of_mem _ h)
  have hown : s.vm.findClass R_Vt = some m.cls := findClass_of_methodNamed B.named
  have hlocks := B.notSynchronized
  subst hsz
  have hD := hD0.self (sz := s.heap.size)
  generalize hAe : va_A [(v0, .inr (11, [.ref h0, .ref t0, .ref b0, .ref e0, .ref r0, .ref d0, .ref g0, .ref u0, .ref i0, .ref fa, .ref fw, .int fs, .int he, .int sta, .int lf, .int hru])), (i0, .inr (6, [.ref h0, .int se])), (h0, .inr (0, [.int sec, .ref h1, .int pw])), (h1, .inl (cB, n, .inl f))] s.heap.size = A at hD ⊢
  have hA : ∀ q : Nat, s.heap.size ≤ q → A q := fun q h => by rw [← hAe]; exact Or.inr h
  have hS : va_S A s.heap s.heap [] := va_S.rf
  have hP : va_P (dC, dI) classes [(v0, .inr (11, [.ref h0, .ref t0, .ref b0, .ref e0, .ref r0, .ref d0, .ref g0, .ref u0, .ref i0, .ref fa, .ref fw, .int fs, .int he, .int sta, .int lf, .int hru])), (i0, .inr (6, [.ref h0, .int se])), (h0, .inr (0, [.int sec, .ref h1, .int pw])), (h1, .inl (cB, n, .inl f))] s.heap := hP
  have hK : va_K (dC, dI) classes [(cB, .byte)] s := hK
  have hl := lv_entry ([.ref v0, .int p1, .int p2]) (n := 3) (Nat.le_of_ble_eq_true rfl)
  rw [lg_entry_eq]
  generalize (lg_sl ([.ref v0, .int p1, .int p2]) ++ List.replicate (3 - (lg_sl ([.ref v0, .int p1, .int p2])).length) Slot.unset).toArray = ls at hl ⊢
  have hl : lv_has ls 3 [(0, .ref v0), (1, .int p1), (2, .int p2)] := hl
  refine lv_aload_n hx hb d_Vt_letter_0 rfl (lv_at hl 0 rfl) ?_
  refine lv_aload_n hx hb d_Vt_letter_1 rfl (lv_at hl 0 rfl) ?_
  have hPc := hP.sub (ws' := [(v0, .inr (11, [.ref h0, .ref t0, .ref b0, .ref e0, .ref r0, .ref d0, .ref g0, .ref u0, .ref i0, .ref fa, .ref fw, .int fs, .int he, .int sta, .int lf, .int hru])), (i0, .inr (6, [.ref h0, .int se])), (h0, .inr (0, [.int sec, .ref h1, .int pw])), (h1, .inl (cB, n, .inl f))]) [0, 1, 2, 3] rfl
  have hDc := hD.sub (ws' := [(v0, .inr (11, [.ref h0, .ref t0, .ref b0, .ref e0, .ref r0, .ref d0, .ref g0, .ref u0, .ref i0, .ref fa, .ref fw, .int fs, .int he, .int sta, .int lf, .int hru])), (i0, .inr (6, [.ref h0, .int se])), (h0, .inr (0, [.int sec, .ref h1, .int pw])), (h1, .inl (cB, n, .inl f))]) [0, 1, 2, 3] (by decide) rfl
  have hKc := hK.sub (tys' := [(cB, .byte)]) [0] rfl
  have hFc := va_free (wc := [(v0, .inr (11, [.ref h0, .ref t0, .ref b0, .ref e0, .ref r0, .ref d0, .ref g0, .ref u0, .ref i0, .ref fa, .ref fw, .int fs, .int he, .int sta, .int lf, .int hru])), (i0, .inr (6, [.ref h0, .int se])), (h0, .inr (0, [.int sec, .ref h1, .int pw])), (h1, .inl (cB, n, .inl f))]) hD hS hA [0, 1, 2, 3] rfl
  refine va_calli (va_runV (As := []) (rest := [.ref v0]) ⟨hx, hb, hml, hown, hts⟩ (c_Vt_look2 l dC dI v0 s.heap.size h0 t0 b0 e0 r0 d0 g0 u0 i0 fa fw fs he sta lf hru se h1 cB sec pw n f h4 hn hit) (cwV 0 hts (gwV good_Vt (k_Vt_68) (k_Vt_69) (k_Vt_214) (k_Vt_0) (wcs (k_Vt_70) (fun _ h => h))) rfl rfl rfl (by decide +kernel) ⟨Nat.le_of_ble_eq_true rfl, Nat.le_of_ble_eq_true rfl⟩) (pv_of hPc hKc hDc (va_recv hKc hPc (ci := 11) (q0 := 0) rfl rfl)) rfl rfl hl.1 rfl (lv_room (Nat.le_of_ble_eq_true rfl)) d_Vt_letter_2 ⟨by decide, by decide⟩) hS (fun q _ h => hFc q h) hFc (fun r_1 u t H1 locs ht hvm hw hB hz1 hk1 hS => ?_)
  subst hw
  obtain ⟨hP1, hK1, hD1⟩ := hB
  rw [ht] at hP1
  have hP1 : va_P (dC, dI) classes [(v0, .inr (11, [.ref h0, .ref t0, .ref b0, .ref e0, .ref r0, .ref d0, .ref g0, .ref u0, .ref i0, .ref fa, .ref fw, .int fs, .int he, .int sta, .int lf, .int hru])), (i0, .inr (6, [.ref h0, .int se])), (h0, .inr (0, [.int sec, .ref h1, .int pw])), (h1, .inl (cB, n, .inl f))] H1 := hP1
  have hD1 : va_D _ [(v0, .inr (11, [.ref h0, .ref t0, .ref b0, .ref e0, .ref r0, .ref d0, .ref g0, .ref u0, .ref i0, .ref fa, .ref fw, .int fs, .int he, .int sta, .int lf, .int hru])), (i0, .inr (6, [.ref h0, .int se])), (h0, .inr (0, [.int sec, .ref h1, .int pw])), (h1, .inl (cB, n, .inl f))] := hD1
  obtain ⟨hP, hD⟩ := va_join (wr := []) (w1 := [(v0, .inr (11, [.ref h0, .ref t0, .ref b0, .ref e0, .ref r0, .ref d0, .ref g0, .ref u0, .ref i0, .ref fa, .ref fw, .int fs, .int he, .int sta, .int lf, .int hru])), (i0, .inr (6, [.ref h0, .int se])), (h0, .inr (0, [.int sec, .ref h1, .int pw])), (h1, .inl (cB, n, .inl f))]) hP hD [0, 1, 2, 3] [] rfl rfl (by decide) (by decide) hk1 hFc hP1 hD1
  generalize H1 = H at hP hS ⊢
  have hP : va_P (dC, dI) classes [(v0, .inr (11, [.ref h0, .ref t0, .ref b0, .ref e0, .ref r0, .ref d0, .ref g0, .ref u0, .ref i0, .ref fa, .ref fw, .int fs, .int he, .int sta, .int lf, .int hru])), (i0, .inr (6, [.ref h0, .int se])), (h0, .inr (0, [.int sec, .ref h1, .int pw])), (h1, .inl (cB, n, .inl f))] H := hP
  have hD : va_D A [(v0, .inr (11, [.ref h0, .ref t0, .ref b0, .ref e0, .ref r0, .ref d0, .ref g0, .ref u0, .ref i0, .ref fa, .ref fw, .int fs, .int he, .int sta, .int lf, .int hru])), (i0, .inr (6, [.ref h0, .int se])), (h0, .inr (0, [.int sec, .ref h1, .int pw])), (h1, .inl (cB, n, .inl f))] := hD
  have hPc := hP.sub (ws' := [(v0, .inr (11, [.ref h0, .ref t0, .ref b0, .ref e0, .ref r0, .ref d0, .ref g0, .ref u0, .ref i0, .ref fa, .ref fw, .int fs, .int he, .int sta, .int lf, .int hru]))]) [0] rfl
  have hDc := hD.sub (ws' := [(v0, .inr (11, [.ref h0, .ref t0, .ref b0, .ref e0, .ref r0, .ref d0, .ref g0, .ref u0, .ref i0, .ref fa, .ref fw, .int fs, .int he, .int sta, .int lf, .int hru]))]) [0] (by decide) rfl
  have hKc := hK.sub (tys' := []) [] rfl
  have hFc := va_free (wc := [(v0, .inr (11, [.ref h0, .ref t0, .ref b0, .ref e0, .ref r0, .ref d0, .ref g0, .ref u0, .ref i0, .ref fa, .ref fw, .int fs, .int he, .int sta, .int lf, .int hru]))]) hD hS hA [0] rfl
  refine va_calli (va_runV (As := [.int 2]) (rest := []) ⟨hx, hb, hml, hown, hts⟩ (c_Vt_readsInodes2 l dC dI v0 H.size h0 t0 b0 e0 r0 d0 g0 u0 i0 fa fw fs he sta lf hru) (cwV 1 hts (gwV good_Vt (k_Vt_111) (k_Vt_112) (k_Vt_215) (k_Vt_0) (wcs (k_Vt_113) (fun _ h => h))) rfl rfl rfl (by decide +kernel) ⟨Nat.le_of_ble_eq_true rfl, Nat.le_of_ble_eq_true rfl⟩) (pv_of hPc hKc hDc (va_recv hKc hPc (ci := 11) (q0 := 0) rfl rfl)) rfl rfl hl.1 rfl (lv_room (Nat.le_of_ble_eq_true rfl)) d_Vt_letter_5 ⟨by decide, by decide⟩) hS (fun q _ h => hFc q h) hFc (fun r_2 u t H1 locs ht hvm hw hB hz1 hk1 hS => ?_)
  subst hw
  obtain ⟨hP1, hK1, hD1⟩ := hB
  rw [ht] at hP1
  have hP1 : va_P (dC, dI) classes [(v0, .inr (11, [.ref h0, .ref t0, .ref b0, .ref e0, .ref r0, .ref d0, .ref g0, .ref u0, .ref i0, .ref fa, .ref fw, .int fs, .int he, .int sta, .int lf, .int hru]))] H1 := hP1
  have hD1 : va_D _ [(v0, .inr (11, [.ref h0, .ref t0, .ref b0, .ref e0, .ref r0, .ref d0, .ref g0, .ref u0, .ref i0, .ref fa, .ref fw, .int fs, .int he, .int sta, .int lf, .int hru]))] := hD1
  obtain ⟨hP, hD⟩ := va_join (wr := [(i0, .inr (6, [.ref h0, .int se])), (h0, .inr (0, [.int sec, .ref h1, .int pw])), (h1, .inl (cB, n, .inl f))]) (w1 := [(v0, .inr (11, [.ref h0, .ref t0, .ref b0, .ref e0, .ref r0, .ref d0, .ref g0, .ref u0, .ref i0, .ref fa, .ref fw, .int fs, .int he, .int sta, .int lf, .int hru]))]) hP hD [0] [1, 2, 3] rfl rfl (by decide) (by decide) hk1 hFc hP1 hD1
  generalize H1 = H at hP hS ⊢
  have hP : va_P (dC, dI) classes [(i0, .inr (6, [.ref h0, .int se])), (h0, .inr (0, [.int sec, .ref h1, .int pw])), (h1, .inl (cB, n, .inl f)), (v0, .inr (11, [.ref h0, .ref t0, .ref b0, .ref e0, .ref r0, .ref d0, .ref g0, .ref u0, .ref i0, .ref fa, .ref fw, .int fs, .int he, .int sta, .int lf, .int hru]))] H := hP
  have hD : va_D A [(i0, .inr (6, [.ref h0, .int se])), (h0, .inr (0, [.int sec, .ref h1, .int pw])), (h1, .inl (cB, n, .inl f)), (v0, .inr (11, [.ref h0, .ref t0, .ref b0, .ref e0, .ref r0, .ref d0, .ref g0, .ref u0, .ref i0, .ref fa, .ref fw, .int fs, .int he, .int sta, .int lf, .int hru]))] := hD
  refine lv_if_eq (tgt := 25) hx hb d_Vt_letter_8 (by decide) (fun c_3 => ?_) (fun c_3 => ?_)
  · exact absurd c_3 (by decide)
  · refine lv_aload_n hx hb d_Vt_letter_11 rfl (lv_at hl 0 rfl) ?_
    refine va_get (D := (dC, dI)) (ci := 11) (v := .ref i0) (C := R_Vt) (T := F_Vt) (N := 16) hx hb hts i_Vt hown hK hP 3 rfl rfl 8 (by decide) (hts _ (k_Vt_37)) (fun _ h9 => h9) rfl d_Vt_letter_12 ?_
    refine lv_aload_n hx hb d_Vt_letter_15 rfl (lv_at hl 0 rfl) ?_
    refine lv_iload_n hx hb d_Vt_letter_16 rfl (lv_at hl 1 rfl) ?_
    have hPc := hP.sub (ws' := [(v0, .inr (11, [.ref h0, .ref t0, .ref b0, .ref e0, .ref r0, .ref d0, .ref g0, .ref u0, .ref i0, .ref fa, .ref fw, .int fs, .int he, .int sta, .int lf, .int hru])), (i0, .inr (6, [.ref h0, .int se])), (h0, .inr (0, [.int sec, .ref h1, .int pw])), (h1, .inl (cB, n, .inl f))]) [3, 0, 1, 2] rfl
    have hDc := hD.sub (ws' := [(v0, .inr (11, [.ref h0, .ref t0, .ref b0, .ref e0, .ref r0, .ref d0, .ref g0, .ref u0, .ref i0, .ref fa, .ref fw, .int fs, .int he, .int sta, .int lf, .int hru])), (i0, .inr (6, [.ref h0, .int se])), (h0, .inr (0, [.int sec, .ref h1, .int pw])), (h1, .inl (cB, n, .inl f))]) [3, 0, 1, 2] (by decide) rfl
    have hKc := hK.sub (tys' := [(cB, .byte)]) [0] rfl
    have hFc := va_free (wc := [(v0, .inr (11, [.ref h0, .ref t0, .ref b0, .ref e0, .ref r0, .ref d0, .ref g0, .ref u0, .ref i0, .ref fa, .ref fw, .int fs, .int he, .int sta, .int lf, .int hru])), (i0, .inr (6, [.ref h0, .int se])), (h0, .inr (0, [.int sec, .ref h1, .int pw])), (h1, .inl (cB, n, .inl f))]) hD hS hA [3, 0, 1, 2] rfl
    refine va_calli (va_runV (As := [.int p1]) (rest := [.ref i0]) ⟨hx, hb, hml, hown, hts⟩ (c_Vt_entryHere2 l dC dI v0 H.size h0 t0 b0 e0 r0 d0 g0 u0 i0 fa fw fs he sta lf hru se h1 cB sec pw n f h4 hn p1 hkA hkB) (cwV 1 hts (gwV good_Vt (k_Vt_122) (k_Vt_123) (k_Vt_218) (k_Vt_0) (wcs (k_Vt_124) (fun _ h => h))) rfl rfl rfl (by decide +kernel) ⟨Nat.le_of_ble_eq_true rfl, Nat.le_of_ble_eq_true rfl⟩) (pv_of hPc hKc hDc (va_recv hKc hPc (ci := 11) (q0 := 0) rfl rfl)) rfl rfl hl.1 rfl (lv_room (Nat.le_of_ble_eq_true rfl)) d_Vt_letter_17 ⟨by decide, by decide⟩) hS (fun q _ h => hFc q h) hFc (fun r_4 u t H1 locs ht hvm hw hB hz1 hk1 hS => ?_)
    subst hw
    obtain ⟨hP1, hK1, hD1⟩ := hB
    rw [ht] at hP1
    have hP1 : va_P (dC, dI) classes [(v0, .inr (11, [.ref h0, .ref t0, .ref b0, .ref e0, .ref r0, .ref d0, .ref g0, .ref u0, .ref i0, .ref fa, .ref fw, .int fs, .int he, .int sta, .int lf, .int hru])), (i0, .inr (6, [.ref h0, .int ((in_find n f he (p1 + 2)).2)])), (h0, .inr (0, [.int sec, .ref h1, .int pw])), (h1, .inl (cB, n, .inl f))] H1 := hP1
    have hD1 : va_D _ [(v0, .inr (11, [.ref h0, .ref t0, .ref b0, .ref e0, .ref r0, .ref d0, .ref g0, .ref u0, .ref i0, .ref fa, .ref fw, .int fs, .int he, .int sta, .int lf, .int hru])), (i0, .inr (6, [.ref h0, .int ((in_find n f he (p1 + 2)).2)])), (h0, .inr (0, [.int sec, .ref h1, .int pw])), (h1, .inl (cB, n, .inl f))] := hD1
    obtain ⟨hP, hD⟩ := va_join (wr := []) (w1 := [(v0, .inr (11, [.ref h0, .ref t0, .ref b0, .ref e0, .ref r0, .ref d0, .ref g0, .ref u0, .ref i0, .ref fa, .ref fw, .int fs, .int he, .int sta, .int lf, .int hru])), (i0, .inr (6, [.ref h0, .int ((in_find n f he (p1 + 2)).2)])), (h0, .inr (0, [.int sec, .ref h1, .int pw])), (h1, .inl (cB, n, .inl f))]) hP hD [3, 0, 1, 2] [] rfl rfl (by decide) (by decide) hk1 hFc hP1 hD1
    generalize H1 = H at hP hS ⊢
    have hP : va_P (dC, dI) classes [(v0, .inr (11, [.ref h0, .ref t0, .ref b0, .ref e0, .ref r0, .ref d0, .ref g0, .ref u0, .ref i0, .ref fa, .ref fw, .int fs, .int he, .int sta, .int lf, .int hru])), (i0, .inr (6, [.ref h0, .int ((in_find n f he (p1 + 2)).2)])), (h0, .inr (0, [.int sec, .ref h1, .int pw])), (h1, .inl (cB, n, .inl f))] H := hP
    have hD : va_D A [(v0, .inr (11, [.ref h0, .ref t0, .ref b0, .ref e0, .ref r0, .ref d0, .ref g0, .ref u0, .ref i0, .ref fa, .ref fw, .int fs, .int he, .int sta, .int lf, .int hru])), (i0, .inr (6, [.ref h0, .int ((in_find n f he (p1 + 2)).2)])), (h0, .inr (0, [.int sec, .ref h1, .int pw])), (h1, .inl (cB, n, .inl f))] := hD
    refine lv_iload_n hx hb d_Vt_letter_20 rfl (lv_at hl 2 rfl) ?_
    have hPc := hP.sub (ws' := [(i0, .inr (6, [.ref h0, .int ((in_find n f he (p1 + 2)).2)])), (h0, .inr (0, [.int sec, .ref h1, .int pw])), (h1, .inl (cB, n, .inl f))]) [1, 2, 3] rfl
    have hDc := hD.sub (ws' := [(i0, .inr (6, [.ref h0, .int ((in_find n f he (p1 + 2)).2)])), (h0, .inr (0, [.int sec, .ref h1, .int pw])), (h1, .inl (cB, n, .inl f))]) [1, 2, 3] (by decide) rfl
    have hKc := hK.sub (tys' := [(cB, .byte)]) [0] rfl
    have hFc := va_free (wc := [(i0, .inr (6, [.ref h0, .int ((in_find n f he (p1 + 2)).2)])), (h0, .inr (0, [.int sec, .ref h1, .int pw])), (h1, .inl (cB, n, .inl f))]) hD hS hA [1, 2, 3] rfl
    refine va_calli (va_runV (As := [.int ((in_find n f he (p1 + 2)).1), .int p2]) (rest := []) ⟨hx, hb, hml, hown, hts⟩ (c_In_nameByte l dC dI i0 h0 H.size ((in_find n f he (p1 + 2)).2) h1 cB sec pw n f h4 hn ((in_find n f he (p1 + 2)).1) p2) (cwV 2 hts (gwV good_Vt (k_Vt_129) (u_Vt_In _ k_In_43) (u_Vt_In _ k_In_44) (u_Vt_In _ k_In_0) (wcs (u_Vt_In _ k_In_45) u_Vt_In)) rfl rfl rfl (by decide +kernel) ⟨Nat.le_of_ble_eq_true rfl, Nat.le_of_ble_eq_true rfl⟩) (pv_of hPc hKc hDc (va_recv hKc hPc (ci := 6) (q0 := 0) rfl rfl)) rfl rfl hl.1 rfl (lv_room (Nat.le_of_ble_eq_true rfl)) d_Vt_letter_21 ⟨by decide, by decide⟩) hS (fun q _ h => hFc q h) hFc (fun r_5 u t H1 locs ht hvm hw hB hz1 hk1 hS => ?_)
    rw [hw]
    obtain ⟨hP1, hK1, hD1⟩ := hB
    rw [ht] at hP1
    have hP1 : va_P (dC, dI) classes [(i0, .inr (6, [.ref h0, .int ((in_find n f he (p1 + 2)).2)])), (h0, .inr (0, [.int sec, .ref h1, .int pw])), (h1, .inl (cB, n, .inl f))] H1 := hP1
    have hD1 : va_D _ [(i0, .inr (6, [.ref h0, .int ((in_find n f he (p1 + 2)).2)])), (h0, .inr (0, [.int sec, .ref h1, .int pw])), (h1, .inl (cB, n, .inl f))] := hD1
    obtain ⟨hP, hD⟩ := va_join (wr := [(v0, .inr (11, [.ref h0, .ref t0, .ref b0, .ref e0, .ref r0, .ref d0, .ref g0, .ref u0, .ref i0, .ref fa, .ref fw, .int fs, .int he, .int sta, .int lf, .int hru]))]) (w1 := [(i0, .inr (6, [.ref h0, .int ((in_find n f he (p1 + 2)).2)])), (h0, .inr (0, [.int sec, .ref h1, .int pw])), (h1, .inl (cB, n, .inl f))]) hP hD [1, 2, 3] [0] rfl rfl (by decide) (by decide) hk1 hFc hP1 hD1
    generalize H1 = H at hP hS ⊢
    have hP : va_P (dC, dI) classes [(v0, .inr (11, [.ref h0, .ref t0, .ref b0, .ref e0, .ref r0, .ref d0, .ref g0, .ref u0, .ref i0, .ref fa, .ref fw, .int fs, .int he, .int sta, .int lf, .int hru])), (i0, .inr (6, [.ref h0, .int ((in_find n f he (p1 + 2)).2)])), (h0, .inr (0, [.int sec, .ref h1, .int pw])), (h1, .inl (cB, n, .inl f))] H := hP
    have hD : va_D A [(v0, .inr (11, [.ref h0, .ref t0, .ref b0, .ref e0, .ref r0, .ref d0, .ref g0, .ref u0, .ref i0, .ref fa, .ref fw, .int fs, .int he, .int sta, .int lf, .int hru])), (i0, .inr (6, [.ref h0, .int ((in_find n f he (p1 + 2)).2)])), (h0, .inr (0, [.int sec, .ref h1, .int pw])), (h1, .inl (cB, n, .inl f))] := hD
    exact W.iret (v := (in_name n f ((in_find n f he (p1 + 2)).1) p2)) hx hb hr (fun t ht hW => ⟨⟨(in_name n f ((in_find n f he (p1 + 2)).1) p2), (), rfl, rfl, by rw [ht]; exact hP, va_K.moved hW.alike hK, hD⟩, hS.F ht⟩) hS.2.2 d_Vt_letter_24
set_option maxHeartbeats 4000000 in
set_option maxRecDepth 100000 in
/-- content in an inode volume -/
theorem c_Vt_content2 (l : Launch) (dC : Nat → ClassId) (dI : Nat → Nat → Nat) (v0 sz h0 t0 b0 e0 r0 d0 g0 u0 i0 fa fw : Nat) (fs he sta lf hru : Int32) (se : Int32) (h1 : Nat) (cB : ClassId) (sec pw : Int32) (n : Nat) (f : Nat → Int32) (h4 : 4 ≤ n) (hn : n < 2 ^ 31) (hit : in_there n f = 1) (p1 : Int32) (hkA : ¬ p1 < 0) (hkB : p1 < (in_find n f he (-1)).2 - 2) (p2 : Int32) : Met l y_Vt_content (.code y_Vt_content b_Vt_content 4 (some .int) :: V_Vt) ({ frames := 5, cells := 0, slots := 0, locals := 129 }) (va_Pc [.ref v0, .int p1, .int p2] (fun U => U.heap.size = sz ∧ at_ (dC, dI) (fun _ => True) [(v0, .inr (11, [.ref h0, .ref t0, .ref b0, .ref e0, .ref r0, .ref d0, .ref g0, .ref u0, .ref i0, .ref fa, .ref fw, .int fs, .int he, .int sta, .int lf, .int hru])), (i0, .inr (6, [.ref h0, .int se])), (h0, .inr (0, [.int sec, .ref h1, .int pw])), (h1, .inl (cB, n, .inl f))] [(cB, .byte)] U)) (va_Qi (fun (r : Int32) (u : Unit) => r = in_fbyte n f (in_find n f he (p1 + 2)).1 p2) (fun (u : Unit) t => at_ (dC, dI) (va_A [(v0, .inr (11, [.ref h0, .ref t0, .ref b0, .ref e0, .ref r0, .ref d0, .ref g0, .ref u0, .ref i0, .ref fa, .ref fw, .int fs, .int he, .int sta, .int lf, .int hru])), (i0, .inr (6, [.ref h0, .int se])), (h0, .inr (0, [.int sec, .ref h1, .int pw])), (h1, .inl (cB, n, .inl f))] sz) [(v0, .inr (11, [.ref h0, .ref t0, .ref b0, .ref e0, .ref r0, .ref d0, .ref g0, .ref u0, .ref i0, .ref fa, .ref fw, .int fs, .int he, .int sta, .int lf, .int hru])), (i0, .inr (6, [.ref h0, .int ((in_find n f he (p1 + 2)).2)])), (h0, .inr (0, [.int sec, .ref h1, .int pw])), (h1, .inl (cB, n, .inl f))] [(cB, .byte)] t) (va_A [(v0, .inr (11, [.ref h0, .ref t0, .ref b0, .ref e0, .ref r0, .ref d0, .ref g0, .ref u0, .ref i0, .ref fa, .ref fw, .int fs, .int he, .int sta, .int lf, .int hru])), (i0, .inr (6, [.ref h0, .int se])), (h0, .inr (0, [.int sec, .ref h1, .int pw])), (h1, .inl (cB, n, .inl f))] sz)) 0 0 (va_A [(v0, .inr (11, [.ref h0, .ref t0, .ref b0, .ref e0, .ref r0, .ref d0, .ref g0, .ref u0, .ref i0, .ref fa, .ref fw, .int fs, .int he, .int sta, .int lf, .int hru])), (i0, .inr (6, [.ref h0, .int se])), (h0, .inr (0, [.int sec, .ref h1, .int pw])), (h1, .inl (cB, n, .inl f))] sz) := by
  refine Met.ofW (cc := b_Vt_content) (maxL := 4) (ret := (some .int)) (by decide) rfl ?_
  intro p e s m args below meth c s₁ B hml hv
  obtain ⟨rfl, hsz, hP, hK, hD0⟩ := hv
  have hx := B.exec
  have hb := B.bytes
  have hr := B.returns
  have hts0 := atoms_spec (ws := .code y_Vt_content b_Vt_content 4 (some .int) :: V_Vt) B.pre
  have hts : ∀ w ∈ V_Vt, w.before ([.ref v0, .int p1, .int p2] : List Value).toArray s = true := fun w h => hts0 w (List.mem_cons_of_mem _ h)
  have hown : s.vm.findClass R_Vt = some m.cls := findClass_of_methodNamed B.named
  have hlocks := B.notSynchronized
  subst hsz
  have hD := hD0.self (sz := s.heap.size)
  generalize hAe : va_A [(v0, .inr (11, [.ref h0, .ref t0, .ref b0, .ref e0, .ref r0, .ref d0, .ref g0, .ref u0, .ref i0, .ref fa, .ref fw, .int fs, .int he, .int sta, .int lf, .int hru])), (i0, .inr (6, [.ref h0, .int se])), (h0, .inr (0, [.int sec, .ref h1, .int pw])), (h1, .inl (cB, n, .inl f))] s.heap.size = A at hD ⊢
  have hA : ∀ q : Nat, s.heap.size ≤ q → A q := fun q h => by rw [← hAe]; exact Or.inr h
  have hS : va_S A s.heap s.heap [] := va_S.rf
  have hP : va_P (dC, dI) classes [(v0, .inr (11, [.ref h0, .ref t0, .ref b0, .ref e0, .ref r0, .ref d0, .ref g0, .ref u0, .ref i0, .ref fa, .ref fw, .int fs, .int he, .int sta, .int lf, .int hru])), (i0, .inr (6, [.ref h0, .int se])), (h0, .inr (0, [.int sec, .ref h1, .int pw])), (h1, .inl (cB, n, .inl f))] s.heap := hP
  have hK : va_K (dC, dI) classes [(cB, .byte)] s := hK
  have hl := lv_entry ([.ref v0, .int p1, .int p2]) (n := 4) (Nat.le_of_ble_eq_true rfl)
  rw [lg_entry_eq]
  generalize (lg_sl ([.ref v0, .int p1, .int p2]) ++ List.replicate (4 - (lg_sl ([.ref v0, .int p1, .int p2])).length) Slot.unset).toArray = ls at hl ⊢
  have hl : lv_has ls 4 [(0, .ref v0), (1, .int p1), (2, .int p2)] := hl
  refine lv_aload_n hx hb d_Vt_content_0 rfl (lv_at hl 0 rfl) ?_
  refine lv_aload_n hx hb d_Vt_content_1 rfl (lv_at hl 0 rfl) ?_
  have hPc := hP.sub (ws' := [(v0, .inr (11, [.ref h0, .ref t0, .ref b0, .ref e0, .ref r0, .ref d0, .ref g0, .ref u0, .ref i0, .ref fa, .ref fw, .int fs, .int he, .int sta, .int lf, .int hru])), (i0, .inr (6, [.ref h0, .int se])), (h0, .inr (0, [.int sec, .ref h1, .int pw])), (h1, .inl (cB, n, .inl f))]) [0, 1, 2, 3] rfl
  have hDc := hD.sub (ws' := [(v0, .inr (11, [.ref h0, .ref t0, .ref b0, .ref e0, .ref r0, .ref d0, .ref g0, .ref u0, .ref i0, .ref fa, .ref fw, .int fs, .int he, .int sta, .int lf, .int hru])), (i0, .inr (6, [.ref h0, .int se])), (h0, .inr (0, [.int sec, .ref h1, .int pw])), (h1, .inl (cB, n, .inl f))]) [0, 1, 2, 3] (by decide) rfl
  have hKc := hK.sub (tys' := [(cB, .byte)]) [0] rfl
  have hFc := va_free (wc := [(v0, .inr (11, [.ref h0, .ref t0, .ref b0, .ref e0, .ref r0, .ref d0, .ref g0, .ref u0, .ref i0, .ref fa, .ref fw, .int fs, .int he, .int sta, .int lf, .int hru])), (i0, .inr (6, [.ref h0, .int se])), (h0, .inr (0, [.int sec, .ref h1, .int pw])), (h1, .inl (cB, n, .inl f))]) hD hS hA [0, 1, 2, 3] rfl
  refine va_calli (va_runV (As := []) (rest := [.ref v0]) ⟨hx, hb, hml, hown, hts⟩ (c_Vt_look2 l dC dI v0 s.heap.size h0 t0 b0 e0 r0 d0 g0 u0 i0 fa fw fs he sta lf hru se h1 cB sec pw n f h4 hn hit) (cwV 0 hts (gwV good_Vt (k_Vt_68) (k_Vt_69) (k_Vt_214) (k_Vt_0) (wcs (k_Vt_70) (fun _ h => h))) rfl rfl rfl (by decide +kernel) ⟨Nat.le_of_ble_eq_true rfl, Nat.le_of_ble_eq_true rfl⟩) (pv_of hPc hKc hDc (va_recv hKc hPc (ci := 11) (q0 := 0) rfl rfl)) rfl rfl hl.1 rfl (lv_room (Nat.le_of_ble_eq_true rfl)) d_Vt_content_2 ⟨by decide, by decide⟩) hS (fun q _ h => hFc q h) hFc (fun r_1 u t H1 locs ht hvm hw hB hz1 hk1 hS => ?_)
  subst hw
  obtain ⟨hP1, hK1, hD1⟩ := hB
  rw [ht] at hP1
  have hP1 : va_P (dC, dI) classes [(v0, .inr (11, [.ref h0, .ref t0, .ref b0, .ref e0, .ref r0, .ref d0, .ref g0, .ref u0, .ref i0, .ref fa, .ref fw, .int fs, .int he, .int sta, .int lf, .int hru])), (i0, .inr (6, [.ref h0, .int se])), (h0, .inr (0, [.int sec, .ref h1, .int pw])), (h1, .inl (cB, n, .inl f))] H1 := hP1
  have hD1 : va_D _ [(v0, .inr (11, [.ref h0, .ref t0, .ref b0, .ref e0, .ref r0, .ref d0, .ref g0, .ref u0, .ref i0, .ref fa, .ref fw, .int fs, .int he, .int sta, .int lf, .int hru])), (i0, .inr (6, [.ref h0, .int se])), (h0, .inr (0, [.int sec, .ref h1, .int pw])), (h1, .inl (cB, n, .inl f))] := hD1
  obtain ⟨hP, hD⟩ := va_join (wr := []) (w1 := [(v0, .inr (11, [.ref h0, .ref t0, .ref b0, .ref e0, .ref r0, .ref d0, .ref g0, .ref u0, .ref i0, .ref fa, .ref fw, .int fs, .int he, .int sta, .int lf, .int hru])), (i0, .inr (6, [.ref h0, .int se])), (h0, .inr (0, [.int sec, .ref h1, .int pw])), (h1, .inl (cB, n, .inl f))]) hP hD [0, 1, 2, 3] [] rfl rfl (by decide) (by decide) hk1 hFc hP1 hD1
  generalize H1 = H at hP hS ⊢
  have hP : va_P (dC, dI) classes [(v0, .inr (11, [.ref h0, .ref t0, .ref b0, .ref e0, .ref r0, .ref d0, .ref g0, .ref u0, .ref i0, .ref fa, .ref fw, .int fs, .int he, .int sta, .int lf, .int hru])), (i0, .inr (6, [.ref h0, .int se])), (h0, .inr (0, [.int sec, .ref h1, .int pw])), (h1, .inl (cB, n, .inl f))] H := hP
  have hD : va_D A [(v0, .inr (11, [.ref h0, .ref t0, .ref b0, .ref e0, .ref r0, .ref d0, .ref g0, .ref u0, .ref i0, .ref fa, .ref fw, .int fs, .int he, .int sta, .int lf, .int hru])), (i0, .inr (6, [.ref h0, .int se])), (h0, .inr (0, [.int sec, .ref h1, .int pw])), (h1, .inl (cB, n, .inl f))] := hD
  have hPc := hP.sub (ws' := [(v0, .inr (11, [.ref h0, .ref t0, .ref b0, .ref e0, .ref r0, .ref d0, .ref g0, .ref u0, .ref i0, .ref fa, .ref fw, .int fs, .int he, .int sta, .int lf, .int hru]))]) [0] rfl
  have hDc := hD.sub (ws' := [(v0, .inr (11, [.ref h0, .ref t0, .ref b0, .ref e0, .ref r0, .ref d0, .ref g0, .ref u0, .ref i0, .ref fa, .ref fw, .int fs, .int he, .int sta, .int lf, .int hru]))]) [0] (by decide) rfl
  have hKc := hK.sub (tys' := []) [] rfl
  have hFc := va_free (wc := [(v0, .inr (11, [.ref h0, .ref t0, .ref b0, .ref e0, .ref r0, .ref d0, .ref g0, .ref u0, .ref i0, .ref fa, .ref fw, .int fs, .int he, .int sta, .int lf, .int hru]))]) hD hS hA [0] rfl
  refine va_calli (va_runV (As := [.int 2]) (rest := []) ⟨hx, hb, hml, hown, hts⟩ (c_Vt_readsInodes2 l dC dI v0 H.size h0 t0 b0 e0 r0 d0 g0 u0 i0 fa fw fs he sta lf hru) (cwV 1 hts (gwV good_Vt (k_Vt_111) (k_Vt_112) (k_Vt_215) (k_Vt_0) (wcs (k_Vt_113) (fun _ h => h))) rfl rfl rfl (by decide +kernel) ⟨Nat.le_of_ble_eq_true rfl, Nat.le_of_ble_eq_true rfl⟩) (pv_of hPc hKc hDc (va_recv hKc hPc (ci := 11) (q0 := 0) rfl rfl)) rfl rfl hl.1 rfl (lv_room (Nat.le_of_ble_eq_true rfl)) d_Vt_content_5 ⟨by decide, by decide⟩) hS (fun q _ h => hFc q h) hFc (fun r_2 u t H1 locs ht hvm hw hB hz1 hk1 hS => ?_)
  subst hw
  obtain ⟨hP1, hK1, hD1⟩ := hB
  rw [ht] at hP1
  have hP1 : va_P (dC, dI) classes [(v0, .inr (11, [.ref h0, .ref t0, .ref b0, .ref e0, .ref r0, .ref d0, .ref g0, .ref u0, .ref i0, .ref fa, .ref fw, .int fs, .int he, .int sta, .int lf, .int hru]))] H1 := hP1
  have hD1 : va_D _ [(v0, .inr (11, [.ref h0, .ref t0, .ref b0, .ref e0, .ref r0, .ref d0, .ref g0, .ref u0, .ref i0, .ref fa, .ref fw, .int fs, .int he, .int sta, .int lf, .int hru]))] := hD1
  obtain ⟨hP, hD⟩ := va_join (wr := [(i0, .inr (6, [.ref h0, .int se])), (h0, .inr (0, [.int sec, .ref h1, .int pw])), (h1, .inl (cB, n, .inl f))]) (w1 := [(v0, .inr (11, [.ref h0, .ref t0, .ref b0, .ref e0, .ref r0, .ref d0, .ref g0, .ref u0, .ref i0, .ref fa, .ref fw, .int fs, .int he, .int sta, .int lf, .int hru]))]) hP hD [0] [1, 2, 3] rfl rfl (by decide) (by decide) hk1 hFc hP1 hD1
  generalize H1 = H at hP hS ⊢
  have hP : va_P (dC, dI) classes [(i0, .inr (6, [.ref h0, .int se])), (h0, .inr (0, [.int sec, .ref h1, .int pw])), (h1, .inl (cB, n, .inl f)), (v0, .inr (11, [.ref h0, .ref t0, .ref b0, .ref e0, .ref r0, .ref d0, .ref g0, .ref u0, .ref i0, .ref fa, .ref fw, .int fs, .int he, .int sta, .int lf, .int hru]))] H := hP
  have hD : va_D A [(i0, .inr (6, [.ref h0, .int se])), (h0, .inr (0, [.int sec, .ref h1, .int pw])), (h1, .inl (cB, n, .inl f)), (v0, .inr (11, [.ref h0, .ref t0, .ref b0, .ref e0, .ref r0, .ref d0, .ref g0, .ref u0, .ref i0, .ref fa, .ref fw, .int fs, .int he, .int sta, .int lf, .int hru]))] := hD
  refine lv_if_eq (tgt := 25) hx hb d_Vt_content_8 (by decide) (fun c_3 => ?_) (fun c_3 => ?_)
  · exact absurd c_3 (by decide)
  · refine lv_aload_n hx hb d_Vt_content_11 rfl (lv_at hl 0 rfl) ?_
    refine va_get (D := (dC, dI)) (ci := 11) (v := .ref i0) (C := R_Vt) (T := F_Vt) (N := 16) hx hb hts i_Vt hown hK hP 3 rfl rfl 8 (by decide) (hts _ (k_Vt_37)) (fun _ h9 => h9) rfl d_Vt_content_12 ?_
    refine lv_aload_n hx hb d_Vt_content_15 rfl (lv_at hl 0 rfl) ?_
    refine lv_iload_n hx hb d_Vt_content_16 rfl (lv_at hl 1 rfl) ?_
    have hPc := hP.sub (ws' := [(v0, .inr (11, [.ref h0, .ref t0, .ref b0, .ref e0, .ref r0, .ref d0, .ref g0, .ref u0, .ref i0, .ref fa, .ref fw, .int fs, .int he, .int sta, .int lf, .int hru])), (i0, .inr (6, [.ref h0, .int se])), (h0, .inr (0, [.int sec, .ref h1, .int pw])), (h1, .inl (cB, n, .inl f))]) [3, 0, 1, 2] rfl
    have hDc := hD.sub (ws' := [(v0, .inr (11, [.ref h0, .ref t0, .ref b0, .ref e0, .ref r0, .ref d0, .ref g0, .ref u0, .ref i0, .ref fa, .ref fw, .int fs, .int he, .int sta, .int lf, .int hru])), (i0, .inr (6, [.ref h0, .int se])), (h0, .inr (0, [.int sec, .ref h1, .int pw])), (h1, .inl (cB, n, .inl f))]) [3, 0, 1, 2] (by decide) rfl
    have hKc := hK.sub (tys' := [(cB, .byte)]) [0] rfl
    have hFc := va_free (wc := [(v0, .inr (11, [.ref h0, .ref t0, .ref b0, .ref e0, .ref r0, .ref d0, .ref g0, .ref u0, .ref i0, .ref fa, .ref fw, .int fs, .int he, .int sta, .int lf, .int hru])), (i0, .inr (6, [.ref h0, .int se])), (h0, .inr (0, [.int sec, .ref h1, .int pw])), (h1, .inl (cB, n, .inl f))]) hD hS hA [3, 0, 1, 2] rfl
    refine va_calli (va_runV (As := [.int p1]) (rest := [.ref i0]) ⟨hx, hb, hml, hown, hts⟩ (c_Vt_entryHere2 l dC dI v0 H.size h0 t0 b0 e0 r0 d0 g0 u0 i0 fa fw fs he sta lf hru se h1 cB sec pw n f h4 hn p1 hkA hkB) (cwV 1 hts (gwV good_Vt (k_Vt_122) (k_Vt_123) (k_Vt_218) (k_Vt_0) (wcs (k_Vt_124) (fun _ h => h))) rfl rfl rfl (by decide +kernel) ⟨Nat.le_of_ble_eq_true rfl, Nat.le_of_ble_eq_true rfl⟩) (pv_of hPc hKc hDc (va_recv hKc hPc (ci := 11) (q0 := 0) rfl rfl)) rfl rfl hl.1 rfl (lv_room (Nat.le_of_ble_eq_true rfl)) d_Vt_content_17 ⟨by decide, by decide⟩) hS (fun q _ h => hFc q h) hFc (fun r_4 u t H1 locs ht hvm hw hB hz1 hk1 hS => ?_)
    subst hw
    obtain ⟨hP1, hK1, hD1⟩ := hB
    rw [ht] at hP1
    have hP1 : va_P (dC, dI) classes [(v0, .inr (11, [.ref h0, .ref t0, .ref b0, .ref e0, .ref r0, .ref d0, .ref g0, .ref u0, .ref i0, .ref fa, .ref fw, .int fs, .int he, .int sta, .int lf, .int hru])), (i0, .inr (6, [.ref h0, .int ((in_find n f he (p1 + 2)).2)])), (h0, .inr (0, [.int sec, .ref h1, .int pw])), (h1, .inl (cB, n, .inl f))] H1 := hP1
    have hD1 : va_D _ [(v0, .inr (11, [.ref h0, .ref t0, .ref b0, .ref e0, .ref r0, .ref d0, .ref g0, .ref u0, .ref i0, .ref fa, .ref fw, .int fs, .int he, .int sta, .int lf, .int hru])), (i0, .inr (6, [.ref h0, .int ((in_find n f he (p1 + 2)).2)])), (h0, .inr (0, [.int sec, .ref h1, .int pw])), (h1, .inl (cB, n, .inl f))] := hD1
    obtain ⟨hP, hD⟩ := va_join (wr := []) (w1 := [(v0, .inr (11, [.ref h0, .ref t0, .ref b0, .ref e0, .ref r0, .ref d0, .ref g0, .ref u0, .ref i0, .ref fa, .ref fw, .int fs, .int he, .int sta, .int lf, .int hru])), (i0, .inr (6, [.ref h0, .int ((in_find n f he (p1 + 2)).2)])), (h0, .inr (0, [.int sec, .ref h1, .int pw])), (h1, .inl (cB, n, .inl f))]) hP hD [3, 0, 1, 2] [] rfl rfl (by decide) (by decide) hk1 hFc hP1 hD1
    generalize H1 = H at hP hS ⊢
    have hP : va_P (dC, dI) classes [(v0, .inr (11, [.ref h0, .ref t0, .ref b0, .ref e0, .ref r0, .ref d0, .ref g0, .ref u0, .ref i0, .ref fa, .ref fw, .int fs, .int he, .int sta, .int lf, .int hru])), (i0, .inr (6, [.ref h0, .int ((in_find n f he (p1 + 2)).2)])), (h0, .inr (0, [.int sec, .ref h1, .int pw])), (h1, .inl (cB, n, .inl f))] H := hP
    have hD : va_D A [(v0, .inr (11, [.ref h0, .ref t0, .ref b0, .ref e0, .ref r0, .ref d0, .ref g0, .ref u0, .ref i0, .ref fa, .ref fw, .int fs, .int he, .int sta, .int lf, .int hru])), (i0, .inr (6, [.ref h0, .int ((in_find n f he (p1 + 2)).2)])), (h0, .inr (0, [.int sec, .ref h1, .int pw])), (h1, .inl (cB, n, .inl f))] := hD
    refine lv_iload_n hx hb d_Vt_content_20 rfl (lv_at hl 2 rfl) ?_
    have hPc := hP.sub (ws' := [(i0, .inr (6, [.ref h0, .int ((in_find n f he (p1 + 2)).2)])), (h0, .inr (0, [.int sec, .ref h1, .int pw])), (h1, .inl (cB, n, .inl f))]) [1, 2, 3] rfl
    have hDc := hD.sub (ws' := [(i0, .inr (6, [.ref h0, .int ((in_find n f he (p1 + 2)).2)])), (h0, .inr (0, [.int sec, .ref h1, .int pw])), (h1, .inl (cB, n, .inl f))]) [1, 2, 3] (by decide) rfl
    have hKc := hK.sub (tys' := [(cB, .byte)]) [0] rfl
    have hFc := va_free (wc := [(i0, .inr (6, [.ref h0, .int ((in_find n f he (p1 + 2)).2)])), (h0, .inr (0, [.int sec, .ref h1, .int pw])), (h1, .inl (cB, n, .inl f))]) hD hS hA [1, 2, 3] rfl
    refine va_calli (va_runV (As := [.int ((in_find n f he (p1 + 2)).1), .int p2]) (rest := []) ⟨hx, hb, hml, hown, hts⟩ (c_In_fileByte l dC dI i0 h0 H.size ((in_find n f he (p1 + 2)).2) h1 cB sec pw n f h4 hn ((in_find n f he (p1 + 2)).1) p2) (cwV 2 hts (gwV good_Vt (k_Vt_151) (u_Vt_In _ k_In_58) (u_Vt_In _ k_In_59) (u_Vt_In _ k_In_0) (wcs (u_Vt_In _ k_In_60) u_Vt_In)) rfl rfl rfl (by decide +kernel) ⟨Nat.le_of_ble_eq_true rfl, Nat.le_of_ble_eq_true rfl⟩) (pv_of hPc hKc hDc (va_recv hKc hPc (ci := 6) (q0 := 0) rfl rfl)) rfl rfl hl.1 rfl (lv_room (Nat.le_of_ble_eq_true rfl)) d_Vt_content_21 ⟨by decide, by decide⟩) hS (fun q _ h => hFc q h) hFc (fun r_5 u t H1 locs ht hvm hw hB hz1 hk1 hS => ?_)
    rw [hw]
    obtain ⟨hP1, hK1, hD1⟩ := hB
    rw [ht] at hP1
    have hP1 : va_P (dC, dI) classes [(i0, .inr (6, [.ref h0, .int ((in_find n f he (p1 + 2)).2)])), (h0, .inr (0, [.int sec, .ref h1, .int pw])), (h1, .inl (cB, n, .inl f))] H1 := hP1
    have hD1 : va_D _ [(i0, .inr (6, [.ref h0, .int ((in_find n f he (p1 + 2)).2)])), (h0, .inr (0, [.int sec, .ref h1, .int pw])), (h1, .inl (cB, n, .inl f))] := hD1
    obtain ⟨hP, hD⟩ := va_join (wr := [(v0, .inr (11, [.ref h0, .ref t0, .ref b0, .ref e0, .ref r0, .ref d0, .ref g0, .ref u0, .ref i0, .ref fa, .ref fw, .int fs, .int he, .int sta, .int lf, .int hru]))]) (w1 := [(i0, .inr (6, [.ref h0, .int ((in_find n f he (p1 + 2)).2)])), (h0, .inr (0, [.int sec, .ref h1, .int pw])), (h1, .inl (cB, n, .inl f))]) hP hD [1, 2, 3] [0] rfl rfl (by decide) (by decide) hk1 hFc hP1 hD1
    generalize H1 = H at hP hS ⊢
    have hP : va_P (dC, dI) classes [(v0, .inr (11, [.ref h0, .ref t0, .ref b0, .ref e0, .ref r0, .ref d0, .ref g0, .ref u0, .ref i0, .ref fa, .ref fw, .int fs, .int he, .int sta, .int lf, .int hru])), (i0, .inr (6, [.ref h0, .int ((in_find n f he (p1 + 2)).2)])), (h0, .inr (0, [.int sec, .ref h1, .int pw])), (h1, .inl (cB, n, .inl f))] H := hP
    have hD : va_D A [(v0, .inr (11, [.ref h0, .ref t0, .ref b0, .ref e0, .ref r0, .ref d0, .ref g0, .ref u0, .ref i0, .ref fa, .ref fw, .int fs, .int he, .int sta, .int lf, .int hru])), (i0, .inr (6, [.ref h0, .int ((in_find n f he (p1 + 2)).2)])), (h0, .inr (0, [.int sec, .ref h1, .int pw])), (h1, .inl (cB, n, .inl f))] := hD
    exact W.iret (v := (in_fbyte n f ((in_find n f he (p1 + 2)).1) p2)) hx hb hr (fun t ht hW => ⟨⟨(in_fbyte n f ((in_find n f he (p1 + 2)).1) p2), (), rfl, rfl, by rw [ht]; exact hP, va_K.moved hW.alike hK, hD⟩, hS.F ht⟩) hS.2.2 d_Vt_content_24
def vt_byte2 (sec : Int32) (n : Nat) (f : Nat → Int32) (p1 p2 : Int32) : Int32 := if dk_has sec p1 p2 = 0 then -1 else if in_shows n f p1 = 0 then -1 else dk_one n f (p1 * 512 + p2)
set_option maxHeartbeats 4000000 in
set_option maxRecDepth 100000 in
/-- byteAt of an inode volume -/
theorem c_Vt_byteAt2 (l : Launch) (dC : Nat → ClassId) (dI : Nat → Nat → Nat) (v0 sz h0 t0 b0 e0 r0 d0 g0 u0 i0 fa fw : Nat) (fs he sta lf hru : Int32) (se : Int32) (h1 : Nat) (cB : ClassId) (sec pw : Int32) (n : Nat) (f : Nat → Int32) (h4 : 4 ≤ n) (hn : n < 2 ^ 31) (hit : in_there n f = 1) (p1 p2 : Int32) : Met l y_Vt_byteAt (.code y_Vt_byteAt b_Vt_byteAt 5 (some .int) :: V_Vt) ({ frames := 4, cells := 0, slots := 0, locals := 81 }) (va_Pc [.ref v0, .int p1, .int p2] (fun U => U.heap.size = sz ∧ at_ (dC, dI) (fun _ => True) [(v0, .inr (11, [.ref h0, .ref t0, .ref b0, .ref e0, .ref r0, .ref d0, .ref g0, .ref u0, .ref i0, .ref fa, .ref fw, .int fs, .int he, .int sta, .int lf, .int hru])), (i0, .inr (6, [.ref h0, .int se])), (h0, .inr (0, [.int sec, .ref h1, .int pw])), (h1, .inl (cB, n, .inl f))] [(cB, .byte)] U)) (va_Qi (fun (r : Int32) (u : Unit) => r = vt_byte2 sec n f p1 p2) (fun (u : Unit) t => at_ (dC, dI) (va_A [(v0, .inr (11, [.ref h0, .ref t0, .ref b0, .ref e0, .ref r0, .ref d0, .ref g0, .ref u0, .ref i0, .ref fa, .ref fw, .int fs, .int he, .int sta, .int lf, .int hru])), (i0, .inr (6, [.ref h0, .int se])), (h0, .inr (0, [.int sec, .ref h1, .int pw])), (h1, .inl (cB, n, .inl f))] sz) [(v0, .inr (11, [.ref h0, .ref t0, .ref b0, .ref e0, .ref r0, .ref d0, .ref g0, .ref u0, .ref i0, .ref fa, .ref fw, .int fs, .int he, .int sta, .int lf, .int hru])), (i0, .inr (6, [.ref h0, .int se])), (h0, .inr (0, [.int sec, .ref h1, .int pw])), (h1, .inl (cB, n, .inl f))] [(cB, .byte)] t) (va_A [(v0, .inr (11, [.ref h0, .ref t0, .ref b0, .ref e0, .ref r0, .ref d0, .ref g0, .ref u0, .ref i0, .ref fa, .ref fw, .int fs, .int he, .int sta, .int lf, .int hru])), (i0, .inr (6, [.ref h0, .int se])), (h0, .inr (0, [.int sec, .ref h1, .int pw])), (h1, .inl (cB, n, .inl f))] sz)) 0 0 (va_A [(v0, .inr (11, [.ref h0, .ref t0, .ref b0, .ref e0, .ref r0, .ref d0, .ref g0, .ref u0, .ref i0, .ref fa, .ref fw, .int fs, .int he, .int sta, .int lf, .int hru])), (i0, .inr (6, [.ref h0, .int se])), (h0, .inr (0, [.int sec, .ref h1, .int pw])), (h1, .inl (cB, n, .inl f))] sz) := by
  refine Met.ofW (cc := b_Vt_byteAt) (maxL := 5) (ret := (some .int)) (by decide) rfl ?_
  intro p e s m args below meth c s₁ B hml hv
  obtain ⟨rfl, hsz, hP, hK, hD0⟩ := hv
  have hx := B.exec
  have hb := B.bytes
  have hr := B.returns
  have hts0 := atoms_spec (ws := .code y_Vt_byteAt b_Vt_byteAt 5 (some .int) :: V_Vt) B.pre
  have hts : ∀ w ∈ V_Vt, w.before ([.ref v0, .int p1, .int p2] : List Value).toArray s = true := fun w h => hts0 w (List.mem_cons_of_mem _ h)
  have hown : s.vm.findClass R_Vt = some m.cls := findClass_of_methodNamed B.named
  have hlocks := B.notSynchronized
  subst hsz
  have hD := hD0.self (sz := s.heap.size)
  generalize hAe : va_A [(v0, .inr (11, [.ref h0, .ref t0, .ref b0, .ref e0, .ref r0, .ref d0, .ref g0, .ref u0, .ref i0, .ref fa, .ref fw, .int fs, .int he, .int sta, .int lf, .int hru])), (i0, .inr (6, [.ref h0, .int se])), (h0, .inr (0, [.int sec, .ref h1, .int pw])), (h1, .inl (cB, n, .inl f))] s.heap.size = A at hD ⊢
  have hA : ∀ q : Nat, s.heap.size ≤ q → A q := fun q h => by rw [← hAe]; exact Or.inr h
  have hS : va_S A s.heap s.heap [] := va_S.rf
  have hP : va_P (dC, dI) classes [(v0, .inr (11, [.ref h0, .ref t0, .ref b0, .ref e0, .ref r0, .ref d0, .ref g0, .ref u0, .ref i0, .ref fa, .ref fw, .int fs, .int he, .int sta, .int lf, .int hru])), (i0, .inr (6, [.ref h0, .int se])), (h0, .inr (0, [.int sec, .ref h1, .int pw])), (h1, .inl (cB, n, .inl f))] s.heap := hP
  have hK : va_K (dC, dI) classes [(cB, .byte)] s := hK
  have hl := lv_entry ([.ref v0, .int p1, .int p2]) (n := 5) (Nat.le_of_ble_eq_true rfl)
  rw [lg_entry_eq]
  generalize (lg_sl ([.ref v0, .int p1, .int p2]) ++ List.replicate (5 - (lg_sl ([.ref v0, .int p1, .int p2])).length) Slot.unset).toArray = ls at hl ⊢
  have hl : lv_has ls 5 [(0, .ref v0), (1, .int p1), (2, .int p2)] := hl
  refine lv_aload_n hx hb d_Vt_byteAt_0 rfl (lv_at hl 0 rfl) ?_
  refine va_get (D := (dC, dI)) (ci := 11) (v := .ref h0) (C := R_Vt) (T := F_Vt) (N := 16) hx hb hts i_Vt hown hK hP 0 rfl rfl 0 (by decide) (hts _ (k_Vt_29)) (fun _ h9 => h9) rfl d_Vt_byteAt_1 ?_
  refine lv_iload_n hx hb d_Vt_byteAt_4 rfl (lv_at hl 1 rfl) ?_
  refine lv_iload_n hx hb d_Vt_byteAt_5 rfl (lv_at hl 2 rfl) ?_
  have hPc := hP.sub (ws' := [(h0, .inr (0, [.int sec, .ref h1, .int pw])), (h1, .inl (cB, n, .inl f))]) [2, 3] rfl
  have hDc := hD.sub (ws' := [(h0, .inr (0, [.int sec, .ref h1, .int pw])), (h1, .inl (cB, n, .inl f))]) [2, 3] (by decide) rfl
  have hKc := hK.sub (tys' := [(cB, .byte)]) [0] rfl
  have hFc := va_free (wc := [(h0, .inr (0, [.int sec, .ref h1, .int pw])), (h1, .inl (cB, n, .inl f))]) hD hS hA [2, 3] rfl
  refine va_calli (va_runV (As := [.int p1, .int p2]) (rest := []) ⟨hx, hb, hml, hown, hts⟩ (c_Dk_has l dC dI h0 h1 s.heap.size cB sec pw n f h4 hn p1 p2) (cwV 2 hts (gwV good_Vt (k_Vt_60) (u_Vt_Dk _ k_Dk_8) (u_Vt_Dk _ k_Dk_9) (u_Vt_Dk _ k_Dk_0) (wcs (u_Vt_Dk _ k_Dk_10) u_Vt_Dk)) rfl rfl rfl (by decide +kernel) ⟨Nat.le_of_ble_eq_true rfl, Nat.le_of_ble_eq_true rfl⟩) (pv_of hPc hKc hDc (va_recv hKc hPc (ci := 0) (q0 := 0) rfl rfl)) rfl rfl hl.1 rfl (lv_room (Nat.le_of_ble_eq_true rfl)) d_Vt_byteAt_6 ⟨by decide, by decide⟩) hS (fun q _ h => hFc q h) hFc (fun r_1 u t H1 locs ht hvm hw hB hz1 hk1 hS => ?_)
  obtain ⟨er_1, rfl⟩ := hw
  obtain ⟨hP1, hK1, hD1⟩ := hB
  rw [ht] at hP1
  have hP1 : va_P (dC, dI) classes [(h0, .inr (0, [.int sec, .ref h1, .int pw])), (h1, .inl (cB, n, .inl f))] H1 := hP1
  have hD1 : va_D _ [(h0, .inr (0, [.int sec, .ref h1, .int pw])), (h1, .inl (cB, n, .inl f))] := hD1
  obtain ⟨hP, hD⟩ := va_join (wr := [(v0, .inr (11, [.ref h0, .ref t0, .ref b0, .ref e0, .ref r0, .ref d0, .ref g0, .ref u0, .ref i0, .ref fa, .ref fw, .int fs, .int he, .int sta, .int lf, .int hru])), (i0, .inr (6, [.ref h0, .int se]))]) (w1 := [(h0, .inr (0, [.int sec, .ref h1, .int pw])), (h1, .inl (cB, n, .inl f))]) hP hD [2, 3] [0, 1] rfl rfl (by decide) (by decide) hk1 hFc hP1 hD1
  generalize H1 = H at hP hS ⊢
  have hP : va_P (dC, dI) classes [(v0, .inr (11, [.ref h0, .ref t0, .ref b0, .ref e0, .ref r0, .ref d0, .ref g0, .ref u0, .ref i0, .ref fa, .ref fw, .int fs, .int he, .int sta, .int lf, .int hru])), (i0, .inr (6, [.ref h0, .int se])), (h0, .inr (0, [.int sec, .ref h1, .int pw])), (h1, .inl (cB, n, .inl f))] H := hP
  have hD : va_D A [(v0, .inr (11, [.ref h0, .ref t0, .ref b0, .ref e0, .ref r0, .ref d0, .ref g0, .ref u0, .ref i0, .ref fa, .ref fw, .int fs, .int he, .int sta, .int lf, .int hru])), (i0, .inr (6, [.ref h0, .int se])), (h0, .inr (0, [.int sec, .ref h1, .int pw])), (h1, .inl (cB, n, .inl f))] := hD
  refine lv_if_ne (tgt := 14) hx hb d_Vt_byteAt_9 (by decide) (fun c_2 => ?_) (fun c_2 => ?_)
  · refine lv_aload_n hx hb d_Vt_byteAt_14 rfl (lv_at hl 0 rfl) ?_
    have hPc := hP.sub (ws' := [(v0, .inr (11, [.ref h0, .ref t0, .ref b0, .ref e0, .ref r0, .ref d0, .ref g0, .ref u0, .ref i0, .ref fa, .ref fw, .int fs, .int he, .int sta, .int lf, .int hru])), (i0, .inr (6, [.ref h0, .int se])), (h0, .inr (0, [.int sec, .ref h1, .int pw])), (h1, .inl (cB, n, .inl f))]) [0, 1, 2, 3] rfl
    have hDc := hD.sub (ws' := [(v0, .inr (11, [.ref h0, .ref t0, .ref b0, .ref e0, .ref r0, .ref d0, .ref g0, .ref u0, .ref i0, .ref fa, .ref fw, .int fs, .int he, .int sta, .int lf, .int hru])), (i0, .inr (6, [.ref h0, .int se])), (h0, .inr (0, [.int sec, .ref h1, .int pw])), (h1, .inl (cB, n, .inl f))]) [0, 1, 2, 3] (by decide) rfl
    have hKc := hK.sub (tys' := [(cB, .byte)]) [0] rfl
    have hFc := va_free (wc := [(v0, .inr (11, [.ref h0, .ref t0, .ref b0, .ref e0, .ref r0, .ref d0, .ref g0, .ref u0, .ref i0, .ref fa, .ref fw, .int fs, .int he, .int sta, .int lf, .int hru])), (i0, .inr (6, [.ref h0, .int se])), (h0, .inr (0, [.int sec, .ref h1, .int pw])), (h1, .inl (cB, n, .inl f))]) hD hS hA [0, 1, 2, 3] rfl
    refine va_calli (va_runV (As := []) (rest := []) ⟨hx, hb, hml, hown, hts⟩ (c_Vt_look2 l dC dI v0 H.size h0 t0 b0 e0 r0 d0 g0 u0 i0 fa fw fs he sta lf hru se h1 cB sec pw n f h4 hn hit) (cwV 0 hts (gwV good_Vt (k_Vt_68) (k_Vt_69) (k_Vt_214) (k_Vt_0) (wcs (k_Vt_70) (fun _ h => h))) rfl rfl rfl (by decide +kernel) ⟨Nat.le_of_ble_eq_true rfl, Nat.le_of_ble_eq_true rfl⟩) (pv_of hPc hKc hDc (va_recv hKc hPc (ci := 11) (q0 := 0) rfl rfl)) rfl rfl hl.1 rfl (lv_room (Nat.le_of_ble_eq_true rfl)) d_Vt_byteAt_15 ⟨by decide, by decide⟩) hS (fun q _ h => hFc q h) hFc (fun r_3 u t H1 locs ht hvm hw hB hz1 hk1 hS => ?_)
    subst hw
    obtain ⟨hP1, hK1, hD1⟩ := hB
    rw [ht] at hP1
    have hP1 : va_P (dC, dI) classes [(v0, .inr (11, [.ref h0, .ref t0, .ref b0, .ref e0, .ref r0, .ref d0, .ref g0, .ref u0, .ref i0, .ref fa, .ref fw, .int fs, .int he, .int sta, .int lf, .int hru])), (i0, .inr (6, [.ref h0, .int se])), (h0, .inr (0, [.int sec, .ref h1, .int pw])), (h1, .inl (cB, n, .inl f))] H1 := hP1
    have hD1 : va_D _ [(v0, .inr (11, [.ref h0, .ref t0, .ref b0, .ref e0, .ref r0, .ref d0, .ref g0, .ref u0, .ref i0, .ref fa, .ref fw, .int fs, .int he, .int sta, .int lf, .int hru])), (i0, .inr (6, [.ref h0, .int se])), (h0, .inr (0, [.int sec, .ref h1, .int pw])), (h1, .inl (cB, n, .inl f))] := hD1
    obtain ⟨hP, hD⟩ := va_join (wr := []) (w1 := [(v0, .inr (11, [.ref h0, .ref t0, .ref b0, .ref e0, .ref r0, .ref d0, .ref g0, .ref u0, .ref i0, .ref fa, .ref fw, .int fs, .int he, .int sta, .int lf, .int hru])), (i0, .inr (6, [.ref h0, .int se])), (h0, .inr (0, [.int sec, .ref h1, .int pw])), (h1, .inl (cB, n, .inl f))]) hP hD [0, 1, 2, 3] [] rfl rfl (by decide) (by decide) hk1 hFc hP1 hD1
    generalize H1 = H at hP hS ⊢
    have hP : va_P (dC, dI) classes [(v0, .inr (11, [.ref h0, .ref t0, .ref b0, .ref e0, .ref r0, .ref d0, .ref g0, .ref u0, .ref i0, .ref fa, .ref fw, .int fs, .int he, .int sta, .int lf, .int hru])), (i0, .inr (6, [.ref h0, .int se])), (h0, .inr (0, [.int sec, .ref h1, .int pw])), (h1, .inl (cB, n, .inl f))] H := hP
    have hD : va_D A [(v0, .inr (11, [.ref h0, .ref t0, .ref b0, .ref e0, .ref r0, .ref d0, .ref g0, .ref u0, .ref i0, .ref fa, .ref fw, .int fs, .int he, .int sta, .int lf, .int hru])), (i0, .inr (6, [.ref h0, .int se])), (h0, .inr (0, [.int sec, .ref h1, .int pw])), (h1, .inl (cB, n, .inl f))] := hD
    refine lv_istore_n (lv' := [(3, .int 2), (0, .ref v0), (1, .int p1), (2, .int p2)]) hx hb d_Vt_byteAt_18 rfl hl (by decide) rfl (fun ls hl => ?_)
    refine lv_iload_n hx hb d_Vt_byteAt_19 rfl (lv_at hl 0 rfl) ?_
    refine lv_if_eq (tgt := 55) hx hb d_Vt_byteAt_20 (by decide) (fun c_4 => ?_) (fun c_4 => ?_)
    · exact absurd c_4 (by decide)
    · refine lv_iload_n hx hb d_Vt_byteAt_23 rfl (lv_at hl 0 rfl) ?_
      refine lv_iconst (v := 1) hx hb d_Vt_byteAt_24 (by decide) ?_
      refine lv_icmp_ne (tgt := 39) hx hb d_Vt_byteAt_25 (by decide) (fun c_5 => ?_) (fun c_5 => ?_)
      · refine lv_iload_n hx hb d_Vt_byteAt_39 rfl (lv_at hl 0 rfl) ?_
        refine lv_iconst (v := 2) hx hb d_Vt_byteAt_40 (by decide) ?_
        refine lv_icmp_ne (tgt := 59) hx hb d_Vt_byteAt_41 (by decide) (fun c_6 => ?_) (fun c_6 => ?_)
        · exact absurd c_6 (by decide)
        · refine lv_aload_n hx hb d_Vt_byteAt_44 rfl (lv_at hl 1 rfl) ?_
          refine va_get (D := (dC, dI)) (ci := 11) (v := .ref i0) (C := R_Vt) (T := F_Vt) (N := 16) hx hb hts i_Vt hown hK hP 0 rfl rfl 8 (by decide) (hts _ (k_Vt_37)) (fun _ h9 => h9) rfl d_Vt_byteAt_45 ?_
          refine lv_iload_n hx hb d_Vt_byteAt_48 rfl (lv_at hl 2 rfl) ?_
          have hPc := hP.sub (ws' := [(i0, .inr (6, [.ref h0, .int se])), (h0, .inr (0, [.int sec, .ref h1, .int pw])), (h1, .inl (cB, n, .inl f))]) [1, 2, 3] rfl
          have hDc := hD.sub (ws' := [(i0, .inr (6, [.ref h0, .int se])), (h0, .inr (0, [.int sec, .ref h1, .int pw])), (h1, .inl (cB, n, .inl f))]) [1, 2, 3] (by decide) rfl
          have hKc := hK.sub (tys' := [(cB, .byte)]) [0] rfl
          have hFc := va_free (wc := [(i0, .inr (6, [.ref h0, .int se])), (h0, .inr (0, [.int sec, .ref h1, .int pw])), (h1, .inl (cB, n, .inl f))]) hD hS hA [1, 2, 3] rfl
          refine va_calli (va_runV (As := [.int p1]) (rest := []) ⟨hx, hb, hml, hown, hts⟩ (c_In_shows l dC dI i0 h0 H.size se h1 cB sec pw n f h4 hn p1) (cwV 1 hts (gwV good_Vt (k_Vt_80) (u_Vt_In _ k_In_18) (u_Vt_In _ k_In_19) (u_Vt_In _ k_In_0) (wcs (u_Vt_In _ k_In_20) u_Vt_In)) rfl rfl rfl (by decide +kernel) ⟨Nat.le_of_ble_eq_true rfl, Nat.le_of_ble_eq_true rfl⟩) (pv_of hPc hKc hDc (va_recv hKc hPc (ci := 6) (q0 := 0) rfl rfl)) rfl rfl hl.1 rfl (lv_room (Nat.le_of_ble_eq_true rfl)) d_Vt_byteAt_49 ⟨by decide, by decide⟩) hS (fun q _ h => hFc q h) hFc (fun r_7 u t H1 locs ht hvm hw hB hz1 hk1 hS => ?_)
          have er_7 := hw
          obtain ⟨hP1, hK1, hD1⟩ := hB
          rw [ht] at hP1
          have hP1 : va_P (dC, dI) classes [(i0, .inr (6, [.ref h0, .int se])), (h0, .inr (0, [.int sec, .ref h1, .int pw])), (h1, .inl (cB, n, .inl f))] H1 := hP1
          have hD1 : va_D _ [(i0, .inr (6, [.ref h0, .int se])), (h0, .inr (0, [.int sec, .ref h1, .int pw])), (h1, .inl (cB, n, .inl f))] := hD1
          obtain ⟨hP, hD⟩ := va_join (wr := [(v0, .inr (11, [.ref h0, .ref t0, .ref b0, .ref e0, .ref r0, .ref d0, .ref g0, .ref u0, .ref i0, .ref fa, .ref fw, .int fs, .int he, .int sta, .int lf, .int hru]))]) (w1 := [(i0, .inr (6, [.ref h0, .int se])), (h0, .inr (0, [.int sec, .ref h1, .int pw])), (h1, .inl (cB, n, .inl f))]) hP hD [1, 2, 3] [0] rfl rfl (by decide) (by decide) hk1 hFc hP1 hD1
          generalize H1 = H at hP hS ⊢
          have hP : va_P (dC, dI) classes [(v0, .inr (11, [.ref h0, .ref t0, .ref b0, .ref e0, .ref r0, .ref d0, .ref g0, .ref u0, .ref i0, .ref fa, .ref fw, .int fs, .int he, .int sta, .int lf, .int hru])), (i0, .inr (6, [.ref h0, .int se])), (h0, .inr (0, [.int sec, .ref h1, .int pw])), (h1, .inl (cB, n, .inl f))] H := hP
          have hD : va_D A [(v0, .inr (11, [.ref h0, .ref t0, .ref b0, .ref e0, .ref r0, .ref d0, .ref g0, .ref u0, .ref i0, .ref fa, .ref fw, .int fs, .int he, .int sta, .int lf, .int hru])), (i0, .inr (6, [.ref h0, .int se])), (h0, .inr (0, [.int sec, .ref h1, .int pw])), (h1, .inl (cB, n, .inl f))] := hD
          refine lv_if_eq (tgt := 59) hx hb d_Vt_byteAt_52 (by decide) (fun c_8 => ?_) (fun c_8 => ?_)
          · refine lv_iconst (v := 0) hx hb d_Vt_byteAt_59 (by decide) ?_
            refine lv_istore (lv' := [(4, .int 0), (3, .int 2), (0, .ref v0), (1, .int p1), (2, .int p2)]) hx hb d_Vt_byteAt_60 hl (by decide) rfl (fun ls hl => ?_)
            refine lv_iload hx hb d_Vt_byteAt_62 (lv_at hl 0 rfl) ?_
            refine lv_if_eq (tgt := 84) hx hb d_Vt_byteAt_64 (by decide) (fun c_9 => ?_) (fun c_9 => ?_)
            · refine lv_iconst (v := (-1)) hx hb d_Vt_byteAt_84 (by decide) ?_
              exact W.iret (v := ((-1))) hx hb hr (fun t ht hW => ⟨⟨((-1)), (), rfl, by rw [vt_byte2, ← er_1, if_neg c_2, ← er_7, if_pos c_8], by rw [ht]; exact hP, va_K.moved hW.alike hK, hD⟩, hS.F ht⟩) hS.2.2 d_Vt_byteAt_85
            · exact absurd c_9 (by decide)
          · refine lv_iconst (v := 1) hx hb d_Vt_byteAt_55 (by decide) ?_
            refine lv_goto (tgt := 60) hx hb d_Vt_byteAt_56 (by decide) ?_
            refine lv_istore (lv' := [(4, .int 1), (3, .int 2), (0, .ref v0), (1, .int p1), (2, .int p2)]) hx hb d_Vt_byteAt_60 hl (by decide) rfl (fun ls hl => ?_)
            refine lv_iload hx hb d_Vt_byteAt_62 (lv_at hl 0 rfl) ?_
            refine lv_if_eq (tgt := 84) hx hb d_Vt_byteAt_64 (by decide) (fun c_10 => ?_) (fun c_10 => ?_)
            · exact absurd c_10 (by decide)
            · refine lv_aload_n hx hb d_Vt_byteAt_67 rfl (lv_at hl 2 rfl) ?_
              refine va_get (D := (dC, dI)) (ci := 11) (v := .ref h0) (C := R_Vt) (T := F_Vt) (N := 16) hx hb hts i_Vt hown hK hP 0 rfl rfl 0 (by decide) (hts _ (k_Vt_29)) (fun _ h9 => h9) rfl d_Vt_byteAt_68 ?_
              refine lv_iload_n hx hb d_Vt_byteAt_71 rfl (lv_at hl 3 rfl) ?_
              refine lv_sipush (v := 512) hx hb d_Vt_byteAt_72 (by decide) ?_
              refine lv_imul hx hb d_Vt_byteAt_75 ?_
              refine lv_iload_n hx hb d_Vt_byteAt_76 rfl (lv_at hl 4 rfl) ?_
              refine lv_iadd hx hb d_Vt_byteAt_77 ?_
              have hPc := hP.sub (ws' := [(h0, .inr (0, [.int sec, .ref h1, .int pw])), (h1, .inl (cB, n, .inl f))]) [2, 3] rfl
              have hDc := hD.sub (ws' := [(h0, .inr (0, [.int sec, .ref h1, .int pw])), (h1, .inl (cB, n, .inl f))]) [2, 3] (by decide) rfl
              have hKc := hK.sub (tys' := [(cB, .byte)]) [0] rfl
              have hFc := va_free (wc := [(h0, .inr (0, [.int sec, .ref h1, .int pw])), (h1, .inl (cB, n, .inl f))]) hD hS hA [2, 3] rfl
              refine va_calli (va_runV (As := [.int ((p1 * 512) + p2)]) (rest := []) ⟨hx, hb, hml, hown, hts⟩ (c_Dk_one l dC dI h0 h1 H.size cB sec pw n f h4 hn ((p1 * 512) + p2)) (cwV 1 hts (gwV good_Vt (k_Vt_81) (u_Vt_Dk _ k_Dk_20) (u_Vt_Dk _ k_Dk_21) (u_Vt_Dk _ k_Dk_0) (wcs (u_Vt_Dk _ k_Dk_22) u_Vt_Dk)) rfl rfl rfl (by decide +kernel) ⟨Nat.le_of_ble_eq_true rfl, Nat.le_of_ble_eq_true rfl⟩) (pv_of hPc hKc hDc (va_recv hKc hPc (ci := 0) (q0 := 0) rfl rfl)) rfl rfl hl.1 rfl (lv_room (Nat.le_of_ble_eq_true rfl)) d_Vt_byteAt_78 ⟨by decide, by decide⟩) hS (fun q _ h => hFc q h) hFc (fun r_11 u t H1 locs ht hvm hw hB hz1 hk1 hS => ?_)
              obtain ⟨er_11, rfl⟩ := hw
              obtain ⟨hP1, hK1, hD1⟩ := hB
              rw [ht] at hP1
              have hP1 : va_P (dC, dI) classes [(h0, .inr (0, [.int sec, .ref h1, .int pw])), (h1, .inl (cB, n, .inl f))] H1 := hP1
              have hD1 : va_D _ [(h0, .inr (0, [.int sec, .ref h1, .int pw])), (h1, .inl (cB, n, .inl f))] := hD1
              obtain ⟨hP, hD⟩ := va_join (wr := [(v0, .inr (11, [.ref h0, .ref t0, .ref b0, .ref e0, .ref r0, .ref d0, .ref g0, .ref u0, .ref i0, .ref fa, .ref fw, .int fs, .int he, .int sta, .int lf, .int hru])), (i0, .inr (6, [.ref h0, .int se]))]) (w1 := [(h0, .inr (0, [.int sec, .ref h1, .int pw])), (h1, .inl (cB, n, .inl f))]) hP hD [2, 3] [0, 1] rfl rfl (by decide) (by decide) hk1 hFc hP1 hD1
              generalize H1 = H at hP hS ⊢
              have hP : va_P (dC, dI) classes [(v0, .inr (11, [.ref h0, .ref t0, .ref b0, .ref e0, .ref r0, .ref d0, .ref g0, .ref u0, .ref i0, .ref fa, .ref fw, .int fs, .int he, .int sta, .int lf, .int hru])), (i0, .inr (6, [.ref h0, .int se])), (h0, .inr (0, [.int sec, .ref h1, .int pw])), (h1, .inl (cB, n, .inl f))] H := hP
              have hD : va_D A [(v0, .inr (11, [.ref h0, .ref t0, .ref b0, .ref e0, .ref r0, .ref d0, .ref g0, .ref u0, .ref i0, .ref fa, .ref fw, .int fs, .int he, .int sta, .int lf, .int hru])), (i0, .inr (6, [.ref h0, .int se])), (h0, .inr (0, [.int sec, .ref h1, .int pw])), (h1, .inl (cB, n, .inl f))] := hD
              refine lv_goto (tgt := 85) hx hb d_Vt_byteAt_81 (by decide) ?_
              exact W.iret (v := r_11) hx hb hr (fun t ht hW => ⟨⟨r_11, (), rfl, by rw [vt_byte2, ← er_1, if_neg c_2, ← er_7, if_neg c_8]; exact er_11, by rw [ht]; exact hP, va_K.moved hW.alike hK, hD⟩, hS.F ht⟩) hS.2.2 d_Vt_byteAt_85
      · exact absurd c_5 (by decide)
  · refine lv_iconst (v := (-1)) hx hb d_Vt_byteAt_12 (by decide) ?_
    exact W.iret (v := ((-1))) hx hb hr (fun t ht hW => ⟨⟨((-1)), (), rfl, by rw [vt_byte2, ← er_1, if_pos c_2], by rw [ht]; exact hP, va_K.moved hW.alike hK, hD⟩, hS.F ht⟩) hS.2.2 d_Vt_byteAt_13
set_option maxHeartbeats 4000000 in
set_option maxRecDepth 100000 in
/-- plan where there is an inode volume -/
theorem c_Vt_plan2 (l : Launch) (dC : Nat → ClassId) (dI : Nat → Nat → Nat) (v0 sz h0 t0 b0 e0 r0 d0 g0 u0 i0 fa fw : Nat) (fs he sta lf hru : Int32) (se : Int32) (h1 : Nat) (cB : ClassId) (sec pw : Int32) (n : Nat) (f : Nat → Int32) (h4 : 4 ≤ n) (hn : n < 2 ^ 31) (hit : in_there n f = 1) (p1 p2 : Int32) : Met l y_Vt_plan (.code y_Vt_plan b_Vt_plan 4 (some .int) :: V_Vt) ({ frames := 4, cells := 0, slots := 0, locals := 81 }) (va_Pc [.ref v0, .int p1, .int p2] (fun U => U.heap.size = sz ∧ at_ (dC, dI) (fun _ => True) [(v0, .inr (11, [.ref h0, .ref t0, .ref b0, .ref e0, .ref r0, .ref d0, .ref g0, .ref u0, .ref i0, .ref fa, .ref fw, .int fs, .int he, .int sta, .int lf, .int hru])), (i0, .inr (6, [.ref h0, .int se])), (h0, .inr (0, [.int sec, .ref h1, .int pw])), (h1, .inl (cB, n, .inl f))] [(cB, .byte)] U)) (va_Qi (fun (r : Int32) (u : Unit) => r = -1) (fun (u : Unit) t => at_ (dC, dI) (va_A [(v0, .inr (11, [.ref h0, .ref t0, .ref b0, .ref e0, .ref r0, .ref d0, .ref g0, .ref u0, .ref i0, .ref fa, .ref fw, .int fs, .int he, .int sta, .int lf, .int hru])), (i0, .inr (6, [.ref h0, .int se])), (h0, .inr (0, [.int sec, .ref h1, .int pw])), (h1, .inl (cB, n, .inl f))] sz) [(v0, .inr (11, [.ref h0, .ref t0, .ref b0, .ref e0, .ref r0, .ref d0, .ref g0, .ref u0, .ref i0, .ref fa, .ref fw, .int fs, .int he, .int sta, .int lf, .int hru])), (i0, .inr (6, [.ref h0, .int se])), (h0, .inr (0, [.int sec, .ref h1, .int pw])), (h1, .inl (cB, n, .inl f))] [(cB, .byte)] t) (va_A [(v0, .inr (11, [.ref h0, .ref t0, .ref b0, .ref e0, .ref r0, .ref d0, .ref g0, .ref u0, .ref i0, .ref fa, .ref fw, .int fs, .int he, .int sta, .int lf, .int hru])), (i0, .inr (6, [.ref h0, .int se])), (h0, .inr (0, [.int sec, .ref h1, .int pw])), (h1, .inl (cB, n, .inl f))] sz)) 0 0 (va_A [(v0, .inr (11, [.ref h0, .ref t0, .ref b0, .ref e0, .ref r0, .ref d0, .ref g0, .ref u0, .ref i0, .ref fa, .ref fw, .int fs, .int he, .int sta, .int lf, .int hru])), (i0, .inr (6, [.ref h0, .int se])), (h0, .inr (0, [.int sec, .ref h1, .int pw])), (h1, .inl (cB, n, .inl f))] sz) := by
  refine Met.ofW (cc := b_Vt_plan) (maxL := 4) (ret := (some .int)) (by decide) rfl ?_
  intro p e s m args below meth c s₁ B hml hv
  obtain ⟨rfl, hsz, hP, hK, hD0⟩ := hv
  have hx := B.exec
  have hb := B.bytes
  have hr := B.returns
  have hts0 := atoms_spec (ws := .code y_Vt_plan b_Vt_plan 4 (some .int) :: V_Vt) B.pre
  have hts : ∀ w ∈ V_Vt, w.before ([.ref v0, .int p1, .int p2] : List Value).toArray s = true := fun w h => hts0 w (List.mem_cons_of_mem _ h)
  have hown : s.vm.findClass R_Vt = some m.cls := findClass_of_methodNamed B.named
  have hlocks := B.notSynchronized
  subst hsz
  have hD := hD0.self (sz := s.heap.size)
  generalize hAe : va_A [(v0, .inr (11, [.ref h0, .ref t0, .ref b0, .ref e0, .ref r0, .ref d0, .ref g0, .ref u0, .ref i0, .ref fa, .ref fw, .int fs, .int he, .int sta, .int lf, .int hru])), (i0, .inr (6, [.ref h0, .int se])), (h0, .inr (0, [.int sec, .ref h1, .int pw])), (h1, .inl (cB, n, .inl f))] s.heap.size = A at hD ⊢
  have hA : ∀ q : Nat, s.heap.size ≤ q → A q := fun q h => by rw [← hAe]; exact Or.inr h
  have hS : va_S A s.heap s.heap [] := va_S.rf
  have hP : va_P (dC, dI) classes [(v0, .inr (11, [.ref h0, .ref t0, .ref b0, .ref e0, .ref r0, .ref d0, .ref g0, .ref u0, .ref i0, .ref fa, .ref fw, .int fs, .int he, .int sta, .int lf, .int hru])), (i0, .inr (6, [.ref h0, .int se])), (h0, .inr (0, [.int sec, .ref h1, .int pw])), (h1, .inl (cB, n, .inl f))] s.heap := hP
  have hK : va_K (dC, dI) classes [(cB, .byte)] s := hK
  have hl := lv_entry ([.ref v0, .int p1, .int p2]) (n := 4) (Nat.le_of_ble_eq_true rfl)
  rw [lg_entry_eq]
  generalize (lg_sl ([.ref v0, .int p1, .int p2]) ++ List.replicate (4 - (lg_sl ([.ref v0, .int p1, .int p2])).length) Slot.unset).toArray = ls at hl ⊢
  have hl : lv_has ls 4 [(0, .ref v0), (1, .int p1), (2, .int p2)] := hl
  refine lv_iload_n hx hb d_Vt_plan_0 rfl (lv_at hl 2 rfl) ?_
  refine lv_if_lt (tgt := 18) hx hb d_Vt_plan_1 (by decide) (fun c_1 => ?_) (fun c_1 => ?_)
  · refine lv_iconst (v := (-1)) hx hb d_Vt_plan_18 (by decide) ?_
    exact W.iret (v := ((-1))) hx hb hr (fun t ht hW => ⟨⟨((-1)), (), rfl, rfl, by rw [ht]; exact hP, va_K.moved hW.alike hK, hD⟩, hS.F ht⟩) hS.2.2 d_Vt_plan_19
  · refine lv_iload_n hx hb d_Vt_plan_4 rfl (lv_at hl 2 rfl) ?_
    refine lv_bipush (v := 6) hx hb d_Vt_plan_5 (by decide) ?_
    refine lv_icmp_gt (tgt := 18) hx hb d_Vt_plan_7 (by decide) (fun c_2 => ?_) (fun c_2 => ?_)
    · refine lv_iconst (v := (-1)) hx hb d_Vt_plan_18 (by decide) ?_
      exact W.iret (v := ((-1))) hx hb hr (fun t ht hW => ⟨⟨((-1)), (), rfl, rfl, by rw [ht]; exact hP, va_K.moved hW.alike hK, hD⟩, hS.F ht⟩) hS.2.2 d_Vt_plan_19
    · refine lv_aload_n hx hb d_Vt_plan_10 rfl (lv_at hl 0 rfl) ?_
      have hPc := hP.sub (ws' := [(v0, .inr (11, [.ref h0, .ref t0, .ref b0, .ref e0, .ref r0, .ref d0, .ref g0, .ref u0, .ref i0, .ref fa, .ref fw, .int fs, .int he, .int sta, .int lf, .int hru])), (i0, .inr (6, [.ref h0, .int se])), (h0, .inr (0, [.int sec, .ref h1, .int pw])), (h1, .inl (cB, n, .inl f))]) [0, 1, 2, 3] rfl
      have hDc := hD.sub (ws' := [(v0, .inr (11, [.ref h0, .ref t0, .ref b0, .ref e0, .ref r0, .ref d0, .ref g0, .ref u0, .ref i0, .ref fa, .ref fw, .int fs, .int he, .int sta, .int lf, .int hru])), (i0, .inr (6, [.ref h0, .int se])), (h0, .inr (0, [.int sec, .ref h1, .int pw])), (h1, .inl (cB, n, .inl f))]) [0, 1, 2, 3] (by decide) rfl
      have hKc := hK.sub (tys' := [(cB, .byte)]) [0] rfl
      have hFc := va_free (wc := [(v0, .inr (11, [.ref h0, .ref t0, .ref b0, .ref e0, .ref r0, .ref d0, .ref g0, .ref u0, .ref i0, .ref fa, .ref fw, .int fs, .int he, .int sta, .int lf, .int hru])), (i0, .inr (6, [.ref h0, .int se])), (h0, .inr (0, [.int sec, .ref h1, .int pw])), (h1, .inl (cB, n, .inl f))]) hD hS hA [0, 1, 2, 3] rfl
      refine va_calli (va_runV (As := []) (rest := []) ⟨hx, hb, hml, hown, hts⟩ (c_Vt_look2 l dC dI v0 s.heap.size h0 t0 b0 e0 r0 d0 g0 u0 i0 fa fw fs he sta lf hru se h1 cB sec pw n f h4 hn hit) (cwV 0 hts (gwV good_Vt (k_Vt_68) (k_Vt_69) (k_Vt_214) (k_Vt_0) (wcs (k_Vt_70) (fun _ h => h))) rfl rfl rfl (by decide +kernel) ⟨Nat.le_of_ble_eq_true rfl, Nat.le_of_ble_eq_true rfl⟩) (pv_of hPc hKc hDc (va_recv hKc hPc (ci := 11) (q0 := 0) rfl rfl)) rfl rfl hl.1 rfl (lv_room (Nat.le_of_ble_eq_true rfl)) d_Vt_plan_11 ⟨by decide, by decide⟩) hS (fun q _ h => hFc q h) hFc (fun r_3 u t H1 locs ht hvm hw hB hz1 hk1 hS => ?_)
      subst hw
      obtain ⟨hP1, hK1, hD1⟩ := hB
      rw [ht] at hP1
      have hP1 : va_P (dC, dI) classes [(v0, .inr (11, [.ref h0, .ref t0, .ref b0, .ref e0, .ref r0, .ref d0, .ref g0, .ref u0, .ref i0, .ref fa, .ref fw, .int fs, .int he, .int sta, .int lf, .int hru])), (i0, .inr (6, [.ref h0, .int se])), (h0, .inr (0, [.int sec, .ref h1, .int pw])), (h1, .inl (cB, n, .inl f))] H1 := hP1
      have hD1 : va_D _ [(v0, .inr (11, [.ref h0, .ref t0, .ref b0, .ref e0, .ref r0, .ref d0, .ref g0, .ref u0, .ref i0, .ref fa, .ref fw, .int fs, .int he, .int sta, .int lf, .int hru])), (i0, .inr (6, [.ref h0, .int se])), (h0, .inr (0, [.int sec, .ref h1, .int pw])), (h1, .inl (cB, n, .inl f))] := hD1
      obtain ⟨hP, hD⟩ := va_join (wr := []) (w1 := [(v0, .inr (11, [.ref h0, .ref t0, .ref b0, .ref e0, .ref r0, .ref d0, .ref g0, .ref u0, .ref i0, .ref fa, .ref fw, .int fs, .int he, .int sta, .int lf, .int hru])), (i0, .inr (6, [.ref h0, .int se])), (h0, .inr (0, [.int sec, .ref h1, .int pw])), (h1, .inl (cB, n, .inl f))]) hP hD [0, 1, 2, 3] [] rfl rfl (by decide) (by decide) hk1 hFc hP1 hD1
      generalize H1 = H at hP hS ⊢
      have hP : va_P (dC, dI) classes [(v0, .inr (11, [.ref h0, .ref t0, .ref b0, .ref e0, .ref r0, .ref d0, .ref g0, .ref u0, .ref i0, .ref fa, .ref fw, .int fs, .int he, .int sta, .int lf, .int hru])), (i0, .inr (6, [.ref h0, .int se])), (h0, .inr (0, [.int sec, .ref h1, .int pw])), (h1, .inl (cB, n, .inl f))] H := hP
      have hD : va_D A [(v0, .inr (11, [.ref h0, .ref t0, .ref b0, .ref e0, .ref r0, .ref d0, .ref g0, .ref u0, .ref i0, .ref fa, .ref fw, .int fs, .int he, .int sta, .int lf, .int hru])), (i0, .inr (6, [.ref h0, .int se])), (h0, .inr (0, [.int sec, .ref h1, .int pw])), (h1, .inl (cB, n, .inl f))] := hD
      refine lv_iconst (v := 1) hx hb d_Vt_plan_14 (by decide) ?_
      refine lv_icmp_eq (tgt := 20) hx hb d_Vt_plan_15 (by decide) (fun c_4 => ?_) (fun c_4 => ?_)
      · exact absurd c_4 (by decide)
      · refine lv_iconst (v := (-1)) hx hb d_Vt_plan_18 (by decide) ?_
        exact W.iret (v := ((-1))) hx hb hr (fun t ht hW => ⟨⟨((-1)), (), rfl, rfl, by rw [ht]; exact hP, va_K.moved hW.alike hK, hD⟩, hS.F ht⟩) hS.2.2 d_Vt_plan_19
set_option maxHeartbeats 4000000 in
set_option maxRecDepth 100000 in
/-- target where there is an inode volume -/
theorem c_Vt_target2 (l : Launch) (dC : Nat → ClassId) (dI : Nat → Nat → Nat) (v0 sz h0 t0 b0 e0 r0 d0 g0 u0 i0 fa fw : Nat) (fs he sta lf hru : Int32) (se : Int32) (h1 : Nat) (cB : ClassId) (sec pw : Int32) (n : Nat) (f : Nat → Int32) (h4 : 4 ≤ n) (hn : n < 2 ^ 31) (hit : in_there n f = 1) (p1 p2 : Int32) : Met l y_Vt_target (.code y_Vt_target b_Vt_target 3 (some .int) :: V_Vt) ({ frames := 4, cells := 0, slots := 0, locals := 81 }) (va_Pc [.ref v0, .int p1, .int p2] (fun U => U.heap.size = sz ∧ at_ (dC, dI) (fun _ => True) [(v0, .inr (11, [.ref h0, .ref t0, .ref b0, .ref e0, .ref r0, .ref d0, .ref g0, .ref u0, .ref i0, .ref fa, .ref fw, .int fs, .int he, .int sta, .int lf, .int hru])), (i0, .inr (6, [.ref h0, .int se])), (h0, .inr (0, [.int sec, .ref h1, .int pw])), (h1, .inl (cB, n, .inl f))] [(cB, .byte)] U)) (va_Qi (fun (r : Int32) (u : Unit) => r = -1) (fun (u : Unit) t => at_ (dC, dI) (va_A [(v0, .inr (11, [.ref h0, .ref t0, .ref b0, .ref e0, .ref r0, .ref d0, .ref g0, .ref u0, .ref i0, .ref fa, .ref fw, .int fs, .int he, .int sta, .int lf, .int hru])), (i0, .inr (6, [.ref h0, .int se])), (h0, .inr (0, [.int sec, .ref h1, .int pw])), (h1, .inl (cB, n, .inl f))] sz) [(v0, .inr (11, [.ref h0, .ref t0, .ref b0, .ref e0, .ref r0, .ref d0, .ref g0, .ref u0, .ref i0, .ref fa, .ref fw, .int fs, .int he, .int sta, .int lf, .int hru])), (i0, .inr (6, [.ref h0, .int se])), (h0, .inr (0, [.int sec, .ref h1, .int pw])), (h1, .inl (cB, n, .inl f))] [(cB, .byte)] t) (va_A [(v0, .inr (11, [.ref h0, .ref t0, .ref b0, .ref e0, .ref r0, .ref d0, .ref g0, .ref u0, .ref i0, .ref fa, .ref fw, .int fs, .int he, .int sta, .int lf, .int hru])), (i0, .inr (6, [.ref h0, .int se])), (h0, .inr (0, [.int sec, .ref h1, .int pw])), (h1, .inl (cB, n, .inl f))] sz)) 0 0 (va_A [(v0, .inr (11, [.ref h0, .ref t0, .ref b0, .ref e0, .ref r0, .ref d0, .ref g0, .ref u0, .ref i0, .ref fa, .ref fw, .int fs, .int he, .int sta, .int lf, .int hru])), (i0, .inr (6, [.ref h0, .int se])), (h0, .inr (0, [.int sec, .ref h1, .int pw])), (h1, .inl (cB, n, .inl f))] sz) := by
  refine Met.ofW (cc := b_Vt_target) (maxL := 3) (ret := (some .int)) (by decide) rfl ?_
  intro p e s m args below meth c s₁ B hml hv
  obtain ⟨rfl, hsz, hP, hK, hD0⟩ := hv
  have hx := B.exec
  have hb := B.bytes
  have hr := B.returns
  have hts0 := atoms_spec (ws := .code y_Vt_target b_Vt_target 3 (some .int) :: V_Vt) B.pre
  have hts : ∀ w ∈ V_Vt, w.before ([.ref v0, .int p1, .int p2] : List Value).toArray s = true := fun w h => hts0 w (List.mem_cons_of_mem _ h)
  have hown : s.vm.findClass R_Vt = some m.cls := findClass_of_methodNamed B.named
  have hlocks := B.notSynchronized
  subst hsz
  have hD := hD0.self (sz := s.heap.size)
  generalize hAe : va_A [(v0, .inr (11, [.ref h0, .ref t0, .ref b0, .ref e0, .ref r0, .ref d0, .ref g0, .ref u0, .ref i0, .ref fa, .ref fw, .int fs, .int he, .int sta, .int lf, .int hru])), (i0, .inr (6, [.ref h0, .int se])), (h0, .inr (0, [.int sec, .ref h1, .int pw])), (h1, .inl (cB, n, .inl f))] s.heap.size = A at hD ⊢
  have hA : ∀ q : Nat, s.heap.size ≤ q → A q := fun q h => by rw [← hAe]; exact Or.inr h
  have hS : va_S A s.heap s.heap [] := va_S.rf
  have hP : va_P (dC, dI) classes [(v0, .inr (11, [.ref h0, .ref t0, .ref b0, .ref e0, .ref r0, .ref d0, .ref g0, .ref u0, .ref i0, .ref fa, .ref fw, .int fs, .int he, .int sta, .int lf, .int hru])), (i0, .inr (6, [.ref h0, .int se])), (h0, .inr (0, [.int sec, .ref h1, .int pw])), (h1, .inl (cB, n, .inl f))] s.heap := hP
  have hK : va_K (dC, dI) classes [(cB, .byte)] s := hK
  have hl := lv_entry ([.ref v0, .int p1, .int p2]) (n := 3) (Nat.le_of_ble_eq_true rfl)
  rw [lg_entry_eq]
  generalize (lg_sl ([.ref v0, .int p1, .int p2]) ++ List.replicate (3 - (lg_sl ([.ref v0, .int p1, .int p2])).length) Slot.unset).toArray = ls at hl ⊢
  have hl : lv_has ls 3 [(0, .ref v0), (1, .int p1), (2, .int p2)] := hl
  refine lv_aload_n hx hb d_Vt_target_0 rfl (lv_at hl 0 rfl) ?_
  have hPc := hP.sub (ws' := [(v0, .inr (11, [.ref h0, .ref t0, .ref b0, .ref e0, .ref r0, .ref d0, .ref g0, .ref u0, .ref i0, .ref fa, .ref fw, .int fs, .int he, .int sta, .int lf, .int hru])), (i0, .inr (6, [.ref h0, .int se])), (h0, .inr (0, [.int sec, .ref h1, .int pw])), (h1, .inl (cB, n, .inl f))]) [0, 1, 2, 3] rfl
  have hDc := hD.sub (ws' := [(v0, .inr (11, [.ref h0, .ref t0, .ref b0, .ref e0, .ref r0, .ref d0, .ref g0, .ref u0, .ref i0, .ref fa, .ref fw, .int fs, .int he, .int sta, .int lf, .int hru])), (i0, .inr (6, [.ref h0, .int se])), (h0, .inr (0, [.int sec, .ref h1, .int pw])), (h1, .inl (cB, n, .inl f))]) [0, 1, 2, 3] (by decide) rfl
  have hKc := hK.sub (tys' := [(cB, .byte)]) [0] rfl
  have hFc := va_free (wc := [(v0, .inr (11, [.ref h0, .ref t0, .ref b0, .ref e0, .ref r0, .ref d0, .ref g0, .ref u0, .ref i0, .ref fa, .ref fw, .int fs, .int he, .int sta, .int lf, .int hru])), (i0, .inr (6, [.ref h0, .int se])), (h0, .inr (0, [.int sec, .ref h1, .int pw])), (h1, .inl (cB, n, .inl f))]) hD hS hA [0, 1, 2, 3] rfl
  refine va_calli (va_runV (As := []) (rest := []) ⟨hx, hb, hml, hown, hts⟩ (c_Vt_look2 l dC dI v0 s.heap.size h0 t0 b0 e0 r0 d0 g0 u0 i0 fa fw fs he sta lf hru se h1 cB sec pw n f h4 hn hit) (cwV 0 hts (gwV good_Vt (k_Vt_68) (k_Vt_69) (k_Vt_214) (k_Vt_0) (wcs (k_Vt_70) (fun _ h => h))) rfl rfl rfl (by decide +kernel) ⟨Nat.le_of_ble_eq_true rfl, Nat.le_of_ble_eq_true rfl⟩) (pv_of hPc hKc hDc (va_recv hKc hPc (ci := 11) (q0 := 0) rfl rfl)) rfl rfl hl.1 rfl (lv_room (Nat.le_of_ble_eq_true rfl)) d_Vt_target_1 ⟨by decide, by decide⟩) hS (fun q _ h => hFc q h) hFc (fun r_1 u t H1 locs ht hvm hw hB hz1 hk1 hS => ?_)
  subst hw
  obtain ⟨hP1, hK1, hD1⟩ := hB
  rw [ht] at hP1
  have hP1 : va_P (dC, dI) classes [(v0, .inr (11, [.ref h0, .ref t0, .ref b0, .ref e0, .ref r0, .ref d0, .ref g0, .ref u0, .ref i0, .ref fa, .ref fw, .int fs, .int he, .int sta, .int lf, .int hru])), (i0, .inr (6, [.ref h0, .int se])), (h0, .inr (0, [.int sec, .ref h1, .int pw])), (h1, .inl (cB, n, .inl f))] H1 := hP1
  have hD1 : va_D _ [(v0, .inr (11, [.ref h0, .ref t0, .ref b0, .ref e0, .ref r0, .ref d0, .ref g0, .ref u0, .ref i0, .ref fa, .ref fw, .int fs, .int he, .int sta, .int lf, .int hru])), (i0, .inr (6, [.ref h0, .int se])), (h0, .inr (0, [.int sec, .ref h1, .int pw])), (h1, .inl (cB, n, .inl f))] := hD1
  obtain ⟨hP, hD⟩ := va_join (wr := []) (w1 := [(v0, .inr (11, [.ref h0, .ref t0, .ref b0, .ref e0, .ref r0, .ref d0, .ref g0, .ref u0, .ref i0, .ref fa, .ref fw, .int fs, .int he, .int sta, .int lf, .int hru])), (i0, .inr (6, [.ref h0, .int se])), (h0, .inr (0, [.int sec, .ref h1, .int pw])), (h1, .inl (cB, n, .inl f))]) hP hD [0, 1, 2, 3] [] rfl rfl (by decide) (by decide) hk1 hFc hP1 hD1
  generalize H1 = H at hP hS ⊢
  have hP : va_P (dC, dI) classes [(v0, .inr (11, [.ref h0, .ref t0, .ref b0, .ref e0, .ref r0, .ref d0, .ref g0, .ref u0, .ref i0, .ref fa, .ref fw, .int fs, .int he, .int sta, .int lf, .int hru])), (i0, .inr (6, [.ref h0, .int se])), (h0, .inr (0, [.int sec, .ref h1, .int pw])), (h1, .inl (cB, n, .inl f))] H := hP
  have hD : va_D A [(v0, .inr (11, [.ref h0, .ref t0, .ref b0, .ref e0, .ref r0, .ref d0, .ref g0, .ref u0, .ref i0, .ref fa, .ref fw, .int fs, .int he, .int sta, .int lf, .int hru])), (i0, .inr (6, [.ref h0, .int se])), (h0, .inr (0, [.int sec, .ref h1, .int pw])), (h1, .inl (cB, n, .inl f))] := hD
  refine lv_iconst (v := 1) hx hb d_Vt_target_4 (by decide) ?_
  refine lv_icmp_ne (tgt := 23) hx hb d_Vt_target_5 (by decide) (fun c_2 => ?_) (fun c_2 => ?_)
  · refine lv_iconst (v := (-1)) hx hb d_Vt_target_23 (by decide) ?_
    exact W.iret (v := ((-1))) hx hb hr (fun t ht hW => ⟨⟨((-1)), (), rfl, rfl, by rw [ht]; exact hP, va_K.moved hW.alike hK, hD⟩, hS.F ht⟩) hS.2.2 d_Vt_target_24
  · exact absurd c_2 (by decide)
set_option maxHeartbeats 4000000 in
set_option maxRecDepth 100000 in
/-- make where there is an inode volume -/
theorem cx_Vt_make2 (l : Launch) (hfl : l.flags = pinnedFlags ++ [noTraceFlag]) (dC : Nat → ClassId) (dI : Nat → Nat → Nat) (v0 sz h0 t0 b0 e0 r0 d0 g0 u0 i0 fa fw : Nat) (fs he sta lf hru : Int32) (se : Int32) (h1 : Nat) (cB : ClassId) (sec pw : Int32) (n : Nat) (f : Nat → Int32) (h4 : 4 ≤ n) (hn : n < 2 ^ 31) (hit : in_there n f = 1) (t1 t2 : Nat) (c2 c3 : ClassId) (tb tr : Nat → Int32) (us : Int32) (p1 : Int32) : MetX l y_Vt_make (.code y_Vt_make b_Vt_make 3 (some .int) :: V_Vt) ({ frames := 7, cells := 1, slots := 6, locals := 111 }) (va_Pc [.ref v0, .int p1] (fun U => U.heap.size = sz ∧ at_ (dC, dI) (fun _ => True) [(v0, .inr (11, [.ref h0, .ref t0, .ref b0, .ref e0, .ref r0, .ref d0, .ref g0, .ref u0, .ref i0, .ref fa, .ref fw, .int fs, .int he, .int sta, .int lf, .int hru])), (i0, .inr (6, [.ref h0, .int se])), (h0, .inr (0, [.int sec, .ref h1, .int pw])), (h1, .inl (cB, n, .inl f)), (t0, .inr (3, [.ref t1, .ref t2, .int us])), (t1, .inl (c2, 4096, .inl tb)), (t2, .inl (c3, 20, .inl tr))] [(cB, .byte), (c2, .byte), (c3, .byte)] U ∧ x_T R_Vt 314 "java/lang/IllegalStateException" 335 "no sound table volume" U)) (fun _ _ _ _ => False) (x_Q "java/lang/IllegalStateException" (va_A [(v0, .inr (11, [.ref h0, .ref t0, .ref b0, .ref e0, .ref r0, .ref d0, .ref g0, .ref u0, .ref i0, .ref fa, .ref fw, .int fs, .int he, .int sta, .int lf, .int hru])), (i0, .inr (6, [.ref h0, .int se])), (h0, .inr (0, [.int sec, .ref h1, .int pw])), (h1, .inl (cB, n, .inl f)), (t0, .inr (3, [.ref t1, .ref t2, .int us])), (t1, .inl (c2, 4096, .inl tb)), (t2, .inl (c3, 20, .inl tr))] sz) (at_ (dC, dI) (va_A [(v0, .inr (11, [.ref h0, .ref t0, .ref b0, .ref e0, .ref r0, .ref d0, .ref g0, .ref u0, .ref i0, .ref fa, .ref fw, .int fs, .int he, .int sta, .int lf, .int hru])), (i0, .inr (6, [.ref h0, .int se])), (h0, .inr (0, [.int sec, .ref h1, .int pw])), (h1, .inl (cB, n, .inl f)), (t0, .inr (3, [.ref t1, .ref t2, .int us])), (t1, .inl (c2, 4096, .inl tb)), (t2, .inl (c3, 20, .inl tr))] sz) [(t0, .inr (3, [.ref t1, .ref t2, .int 0])), (t1, .inl (c2, 4096, .inl tb)), (t2, .inl (c3, 20, .inl tr)), (i0, .inr (6, [.ref h0, .int se])), (h0, .inr (0, [.int sec, .ref h1, .int pw])), (h1, .inl (cB, n, .inl f)), (v0, .inr (11, [.ref h0, .ref t0, .ref b0, .ref e0, .ref r0, .ref d0, .ref g0, .ref u0, .ref i0, .ref fa, .ref fw, .int fs, .int he, .int sta, .int lf, .int hru]))] [(cB, .byte), (c2, .byte), (c3, .byte)])) 1 6 (va_A [(v0, .inr (11, [.ref h0, .ref t0, .ref b0, .ref e0, .ref r0, .ref d0, .ref g0, .ref u0, .ref i0, .ref fa, .ref fw, .int fs, .int he, .int sta, .int lf, .int hru])), (i0, .inr (6, [.ref h0, .int se])), (h0, .inr (0, [.int sec, .ref h1, .int pw])), (h1, .inl (cB, n, .inl f)), (t0, .inr (3, [.ref t1, .ref t2, .int us])), (t1, .inl (c2, 4096, .inl tb)), (t2, .inl (c3, 20, .inl tr))] sz) := by
  refine MetX.ofW (cc := b_Vt_make) (maxL := 3) (ret := (some .int)) (by decide) rfl ?_
  intro p e s m args below meth c s₁ B hml hv
  obtain ⟨rfl, hsz, ⟨hP, hK, hD0⟩, hE⟩ := hv
  have hx := B.exec
  have hb := B.bytes
  have hr := B.returns
  have hts0 := atoms_spec (ws := .code y_Vt_make b_Vt_make 3 (some .int) :: V_Vt) B.pre
  have hts : ∀ w ∈ V_Vt, w.before ([.ref v0, .int p1] : List Value).toArray s = true := fun w h => hts0 w (List.mem_cons_of_mem _ h)
  have hown : s.vm.findClass R_Vt = some m.cls := findClass_of_methodNamed B.named
  have hlocks := B.notSynchronized
  subst hsz
  have hD := hD0.self (sz := s.heap.size)
  generalize hAe : va_A [(v0, .inr (11, [.ref h0, .ref t0, .ref b0, .ref e0, .ref r0, .ref d0, .ref g0, .ref u0, .ref i0, .ref fa, .ref fw, .int fs, .int he, .int sta, .int lf, .int hru])), (i0, .inr (6, [.ref h0, .int se])), (h0, .inr (0, [.int sec, .ref h1, .int pw])), (h1, .inl (cB, n, .inl f)), (t0, .inr (3, [.ref t1, .ref t2, .int us])), (t1, .inl (c2, 4096, .inl tb)), (t2, .inl (c3, 20, .inl tr))] s.heap.size = A at hD ⊢
  have hA : ∀ q : Nat, s.heap.size ≤ q → A q := fun q h => by rw [← hAe]; exact Or.inr h
  have hS : va_S A s.heap s.heap [] := va_S.rf
  have hP : va_P (dC, dI) classes [(v0, .inr (11, [.ref h0, .ref t0, .ref b0, .ref e0, .ref r0, .ref d0, .ref g0, .ref u0, .ref i0, .ref fa, .ref fw, .int fs, .int he, .int sta, .int lf, .int hru])), (i0, .inr (6, [.ref h0, .int se])), (h0, .inr (0, [.int sec, .ref h1, .int pw])), (h1, .inl (cB, n, .inl f)), (t0, .inr (3, [.ref t1, .ref t2, .int us])), (t1, .inl (c2, 4096, .inl tb)), (t2, .inl (c3, 20, .inl tr))] s.heap := hP
  have hK : va_K (dC, dI) classes [(cB, .byte), (c2, .byte), (c3, .byte)] s := hK
  have hP0 := hP
  have hout := x_table B (hts0 _ List.mem_cons_self)
  have hl := lv_entry ([.ref v0, .int p1]) (n := 3) (Nat.le_of_ble_eq_true rfl)
  rw [lg_entry_eq]
  generalize (lg_sl ([.ref v0, .int p1]) ++ List.replicate (3 - (lg_sl ([.ref v0, .int p1])).length) Slot.unset).toArray = ls at hl ⊢
  have hl : lv_has ls 3 [(0, .ref v0), (1, .int p1)] := hl
  refine lv_aload_n hx hb d_Vt_make_0 rfl (lv_at hl 0 rfl) ?_
  refine va_get (D := (dC, dI)) (ci := 11) (v := .ref t0) (C := R_Vt) (T := F_Vt) (N := 16) hx hb hts i_Vt hown hK hP 0 rfl rfl 1 (by decide) (hts _ (k_Vt_30)) (fun _ h9 => h9) rfl d_Vt_make_1 ?_
  have hPc := hP.sub (ws' := [(t0, .inr (3, [.ref t1, .ref t2, .int us])), (t1, .inl (c2, 4096, .inl tb)), (t2, .inl (c3, 20, .inl tr))]) [4, 5, 6] rfl
  have hDc := hD.sub (ws' := [(t0, .inr (3, [.ref t1, .ref t2, .int us])), (t1, .inl (c2, 4096, .inl tb)), (t2, .inl (c3, 20, .inl tr))]) [4, 5, 6] (by decide) rfl
  have hKc := hK.sub (tys' := [(c2, .byte), (c3, .byte)]) [1, 2] rfl
  have hFc := va_free (wc := [(t0, .inr (3, [.ref t1, .ref t2, .int us])), (t1, .inl (c2, 4096, .inl tb)), (t2, .inl (c3, 20, .inl tr))]) hD hS hA [4, 5, 6] rfl
  refine va_calli (va_runV (As := []) (rest := []) ⟨hx, hb, hml, hown, hts⟩ (c_Tp_useUp l dC dI t0 t1 t2 s.heap.size c2 c3 tb tr us) (cwV 0 hts (gwV good_Vt (k_Vt_56) (u_Vt_Tp _ k_Tp_16) (u_Vt_Tp _ k_Tp_17) (u_Vt_Tp _ k_Tp_0) (wcs (u_Vt_Tp _ k_Tp_18) u_Vt_Tp)) rfl rfl rfl (by decide +kernel) ⟨Nat.le_of_ble_eq_true rfl, Nat.le_of_ble_eq_true rfl⟩) (pv_of hPc hKc hDc (va_recv hKc hPc (ci := 3) (q0 := 0) rfl rfl)) rfl rfl hl.1 rfl (lv_room (Nat.le_of_ble_eq_true rfl)) d_Vt_make_4 ⟨by decide, by decide⟩) hS (fun q _ h => hFc q h) hFc (fun r_1 u t H1 locs ht hvm hw hB hz1 hk1 hS => ?_)
  obtain ⟨hw1, rfl⟩ := hw
  rw [hw1]
  obtain ⟨hP1, hK1, hD1⟩ := hB
  rw [ht] at hP1
  have hP1 : va_P (dC, dI) classes [(t0, .inr (3, [.ref t1, .ref t2, .int 0])), (t1, .inl (c2, 4096, .inl tb)), (t2, .inl (c3, 20, .inl tr))] H1 := hP1
  have hD1 : va_D _ [(t0, .inr (3, [.ref t1, .ref t2, .int 0])), (t1, .inl (c2, 4096, .inl tb)), (t2, .inl (c3, 20, .inl tr))] := hD1
  obtain ⟨hP, hD⟩ := va_join (wr := [(v0, .inr (11, [.ref h0, .ref t0, .ref b0, .ref e0, .ref r0, .ref d0, .ref g0, .ref u0, .ref i0, .ref fa, .ref fw, .int fs, .int he, .int sta, .int lf, .int hru])), (i0, .inr (6, [.ref h0, .int se])), (h0, .inr (0, [.int sec, .ref h1, .int pw])), (h1, .inl (cB, n, .inl f))]) (w1 := [(t0, .inr (3, [.ref t1, .ref t2, .int 0])), (t1, .inl (c2, 4096, .inl tb)), (t2, .inl (c3, 20, .inl tr))]) hP hD [4, 5, 6] [0, 1, 2, 3] rfl rfl (by decide) (by decide) hk1 hFc hP1 hD1
  generalize H1 = H at hP hS ⊢
  have hP : va_P (dC, dI) classes [(v0, .inr (11, [.ref h0, .ref t0, .ref b0, .ref e0, .ref r0, .ref d0, .ref g0, .ref u0, .ref i0, .ref fa, .ref fw, .int fs, .int he, .int sta, .int lf, .int hru])), (i0, .inr (6, [.ref h0, .int se])), (h0, .inr (0, [.int sec, .ref h1, .int pw])), (h1, .inl (cB, n, .inl f)), (t0, .inr (3, [.ref t1, .ref t2, .int 0])), (t1, .inl (c2, 4096, .inl tb)), (t2, .inl (c3, 20, .inl tr))] H := hP
  have hD : va_D A [(v0, .inr (11, [.ref h0, .ref t0, .ref b0, .ref e0, .ref r0, .ref d0, .ref g0, .ref u0, .ref i0, .ref fa, .ref fw, .int fs, .int he, .int sta, .int lf, .int hru])), (i0, .inr (6, [.ref h0, .int se])), (h0, .inr (0, [.int sec, .ref h1, .int pw])), (h1, .inl (cB, n, .inl f)), (t0, .inr (3, [.ref t1, .ref t2, .int 0])), (t1, .inl (c2, 4096, .inl tb)), (t2, .inl (c3, 20, .inl tr))] := hD
  refine lv_istore_n (lv' := [(2, .int us), (0, .ref v0), (1, .int p1)]) hx hb d_Vt_make_7 rfl hl (by decide) rfl (fun ls hl => ?_)
  refine lv_aload_n hx hb d_Vt_make_8 rfl (lv_at hl 1 rfl) ?_
  refine lv_aload_n hx hb d_Vt_make_9 rfl (lv_at hl 1 rfl) ?_
  have hPc := hP.sub (ws' := [(v0, .inr (11, [.ref h0, .ref t0, .ref b0, .ref e0, .ref r0, .ref d0, .ref g0, .ref u0, .ref i0, .ref fa, .ref fw, .int fs, .int he, .int sta, .int lf, .int hru])), (i0, .inr (6, [.ref h0, .int se])), (h0, .inr (0, [.int sec, .ref h1, .int pw])), (h1, .inl (cB, n, .inl f))]) [0, 1, 2, 3] rfl
  have hDc := hD.sub (ws' := [(v0, .inr (11, [.ref h0, .ref t0, .ref b0, .ref e0, .ref r0, .ref d0, .ref g0, .ref u0, .ref i0, .ref fa, .ref fw, .int fs, .int he, .int sta, .int lf, .int hru])), (i0, .inr (6, [.ref h0, .int se])), (h0, .inr (0, [.int sec, .ref h1, .int pw])), (h1, .inl (cB, n, .inl f))]) [0, 1, 2, 3] (by decide) rfl
  have hKc := hK.sub (tys' := [(cB, .byte)]) [0] rfl
  have hFc := va_free (wc := [(v0, .inr (11, [.ref h0, .ref t0, .ref b0, .ref e0, .ref r0, .ref d0, .ref g0, .ref u0, .ref i0, .ref fa, .ref fw, .int fs, .int he, .int sta, .int lf, .int hru])), (i0, .inr (6, [.ref h0, .int se])), (h0, .inr (0, [.int sec, .ref h1, .int pw])), (h1, .inl (cB, n, .inl f))]) hD hS hA [0, 1, 2, 3] rfl
  refine va_calli (va_runV (As := []) (rest := [.ref v0]) ⟨hx, hb, hml, hown, hts⟩ (c_Vt_look2 l dC dI v0 H.size h0 t0 b0 e0 r0 d0 g0 u0 i0 fa fw fs he sta lf hru se h1 cB sec pw n f h4 hn hit) (cwV 0 hts (gwV good_Vt (k_Vt_68) (k_Vt_69) (k_Vt_214) (k_Vt_0) (wcs (k_Vt_70) (fun _ h => h))) rfl rfl rfl (by decide +kernel) ⟨Nat.le_of_ble_eq_true rfl, Nat.le_of_ble_eq_true rfl⟩) (pv_of hPc hKc hDc (va_recv hKc hPc (ci := 11) (q0 := 0) rfl rfl)) rfl rfl hl.1 rfl (lv_room (Nat.le_of_ble_eq_true rfl)) d_Vt_make_10 ⟨by decide, by decide⟩) hS (fun q _ h => hFc q h) hFc (fun r_2 u t H1 locs ht hvm hw hB hz1 hk1 hS => ?_)
  subst hw
  obtain ⟨hP1, hK1, hD1⟩ := hB
  rw [ht] at hP1
  have hP1 : va_P (dC, dI) classes [(v0, .inr (11, [.ref h0, .ref t0, .ref b0, .ref e0, .ref r0, .ref d0, .ref g0, .ref u0, .ref i0, .ref fa, .ref fw, .int fs, .int he, .int sta, .int lf, .int hru])), (i0, .inr (6, [.ref h0, .int se])), (h0, .inr (0, [.int sec, .ref h1, .int pw])), (h1, .inl (cB, n, .inl f))] H1 := hP1
  have hD1 : va_D _ [(v0, .inr (11, [.ref h0, .ref t0, .ref b0, .ref e0, .ref r0, .ref d0, .ref g0, .ref u0, .ref i0, .ref fa, .ref fw, .int fs, .int he, .int sta, .int lf, .int hru])), (i0, .inr (6, [.ref h0, .int se])), (h0, .inr (0, [.int sec, .ref h1, .int pw])), (h1, .inl (cB, n, .inl f))] := hD1
  obtain ⟨hP, hD⟩ := va_join (wr := [(t0, .inr (3, [.ref t1, .ref t2, .int 0])), (t1, .inl (c2, 4096, .inl tb)), (t2, .inl (c3, 20, .inl tr))]) (w1 := [(v0, .inr (11, [.ref h0, .ref t0, .ref b0, .ref e0, .ref r0, .ref d0, .ref g0, .ref u0, .ref i0, .ref fa, .ref fw, .int fs, .int he, .int sta, .int lf, .int hru])), (i0, .inr (6, [.ref h0, .int se])), (h0, .inr (0, [.int sec, .ref h1, .int pw])), (h1, .inl (cB, n, .inl f))]) hP hD [0, 1, 2, 3] [4, 5, 6] rfl rfl (by decide) (by decide) hk1 hFc hP1 hD1
  generalize H1 = H at hP hS ⊢
  have hP : va_P (dC, dI) classes [(t0, .inr (3, [.ref t1, .ref t2, .int 0])), (t1, .inl (c2, 4096, .inl tb)), (t2, .inl (c3, 20, .inl tr)), (v0, .inr (11, [.ref h0, .ref t0, .ref b0, .ref e0, .ref r0, .ref d0, .ref g0, .ref u0, .ref i0, .ref fa, .ref fw, .int fs, .int he, .int sta, .int lf, .int hru])), (i0, .inr (6, [.ref h0, .int se])), (h0, .inr (0, [.int sec, .ref h1, .int pw])), (h1, .inl (cB, n, .inl f))] H := hP
  have hD : va_D A [(t0, .inr (3, [.ref t1, .ref t2, .int 0])), (t1, .inl (c2, 4096, .inl tb)), (t2, .inl (c3, 20, .inl tr)), (v0, .inr (11, [.ref h0, .ref t0, .ref b0, .ref e0, .ref r0, .ref d0, .ref g0, .ref u0, .ref i0, .ref fa, .ref fw, .int fs, .int he, .int sta, .int lf, .int hru])), (i0, .inr (6, [.ref h0, .int se])), (h0, .inr (0, [.int sec, .ref h1, .int pw])), (h1, .inl (cB, n, .inl f))] := hD
  have hPc := hP.sub (ws' := [(v0, .inr (11, [.ref h0, .ref t0, .ref b0, .ref e0, .ref r0, .ref d0, .ref g0, .ref u0, .ref i0, .ref fa, .ref fw, .int fs, .int he, .int sta, .int lf, .int hru]))]) [3] rfl
  have hDc := hD.sub (ws' := [(v0, .inr (11, [.ref h0, .ref t0, .ref b0, .ref e0, .ref r0, .ref d0, .ref g0, .ref u0, .ref i0, .ref fa, .ref fw, .int fs, .int he, .int sta, .int lf, .int hru]))]) [3] (by decide) rfl
  have hKc := hK.sub (tys' := []) [] rfl
  have hFc := va_free (wc := [(v0, .inr (11, [.ref h0, .ref t0, .ref b0, .ref e0, .ref r0, .ref d0, .ref g0, .ref u0, .ref i0, .ref fa, .ref fw, .int fs, .int he, .int sta, .int lf, .int hru]))]) hD hS hA [3] rfl
  exact x_outV (n := 1) (As := [.int 2]) (rest := []) (b := v0) (st0 := [.int 2, .ref v0]) ⟨hx, hb, hml, hown, hts⟩ (cx_Vt_wantSoundTable2 l hfl dC dI v0 H.size h0 t0 b0 e0 r0 d0 g0 u0 i0 fa fw fs he sta lf hru) (cwV 1 hts (gwV good_Vt (k_Vt_166) (k_Vt_167) (k_Vt_216) (k_Vt_0) (wcs (k_Vt_168) (fun _ h => h))) rfl rfl rfl (by decide +kernel) ⟨Nat.le_of_ble_eq_true rfl, Nat.le_of_ble_eq_true rfl⟩) (pv_ofE (fun U V z1 z2 z => x_T.same x_allS z1 z2 z) (fun U z1 z2 => x_T.at x_allS hE z2 (by rw [z1]; exact x_kept.ofS hP0 hAe hS)) hPc hKc hDc (va_recv hKc hPc (ci := 11) (q0 := 0) rfl rfl)) rfl hl.1 rfl (by decide) d_Vt_make_13 ⟨by decide, by decide⟩ hlocks hout ⟨by decide, by decide⟩ (fun E st t U z1 z2 z3 z4 z5 => x_outQ (wr := [(t0, .inr (3, [.ref t1, .ref t2, .int 0])), (t1, .inl (c2, 4096, .inl tb)), (t2, .inl (c3, 20, .inl tr)), (i0, .inr (6, [.ref h0, .int se])), (h0, .inr (0, [.int sec, .ref h1, .int pw])), (h1, .inl (cB, n, .inl f))]) (w1 := [(v0, .inr (11, [.ref h0, .ref t0, .ref b0, .ref e0, .ref r0, .ref d0, .ref g0, .ref u0, .ref i0, .ref fa, .ref fw, .int fs, .int he, .int sta, .int lf, .int hru]))]) hS hP hD hK [3] [0, 1, 2, 4, 5, 6] rfl rfl (by decide) (by decide) hFc z1 z3 z4 z5) ⟨hS.2.2, fun z h => hFc z h⟩
set_option maxHeartbeats 4000000 in
set_option maxRecDepth 100000 in
/-- write where there is an inode volume -/
theorem cx_Vt_write2 (l : Launch) (hfl : l.flags = pinnedFlags ++ [noTraceFlag]) (dC : Nat → ClassId) (dI : Nat → Nat → Nat) (v0 sz h0 t0 b0 e0 r0 d0 g0 u0 i0 fa fw : Nat) (fs he sta lf hru : Int32) (se : Int32) (h1 : Nat) (cB : ClassId) (sec pw : Int32) (n : Nat) (f : Nat → Int32) (h4 : 4 ≤ n) (hn : n < 2 ^ 31) (hit : in_there n f = 1) (t1 t2 : Nat) (c2 c3 : ClassId) (tb tr : Nat → Int32) (us : Int32) (p1 : Int32) : MetX l y_Vt_write (.code y_Vt_write b_Vt_write 7 (some .int) :: V_Vt) ({ frames := 7, cells := 1, slots := 6, locals := 111 }) (va_Pc [.ref v0, .int p1] (fun U => U.heap.size = sz ∧ at_ (dC, dI) (fun _ => True) [(v0, .inr (11, [.ref h0, .ref t0, .ref b0, .ref e0, .ref r0, .ref d0, .ref g0, .ref u0, .ref i0, .ref fa, .ref fw, .int fs, .int he, .int sta, .int lf, .int hru])), (i0, .inr (6, [.ref h0, .int se])), (h0, .inr (0, [.int sec, .ref h1, .int pw])), (h1, .inl (cB, n, .inl f)), (t0, .inr (3, [.ref t1, .ref t2, .int us])), (t1, .inl (c2, 4096, .inl tb)), (t2, .inl (c3, 20, .inl tr))] [(cB, .byte), (c2, .byte), (c3, .byte)] U ∧ x_T R_Vt 314 "java/lang/IllegalStateException" 335 "no sound table volume" U)) (fun _ _ _ _ => False) (x_Q "java/lang/IllegalStateException" (va_A [(v0, .inr (11, [.ref h0, .ref t0, .ref b0, .ref e0, .ref r0, .ref d0, .ref g0, .ref u0, .ref i0, .ref fa, .ref fw, .int fs, .int he, .int sta, .int lf, .int hru])), (i0, .inr (6, [.ref h0, .int se])), (h0, .inr (0, [.int sec, .ref h1, .int pw])), (h1, .inl (cB, n, .inl f)), (t0, .inr (3, [.ref t1, .ref t2, .int us])), (t1, .inl (c2, 4096, .inl tb)), (t2, .inl (c3, 20, .inl tr))] sz) (at_ (dC, dI) (va_A [(v0, .inr (11, [.ref h0, .ref t0, .ref b0, .ref e0, .ref r0, .ref d0, .ref g0, .ref u0, .ref i0, .ref fa, .ref fw, .int fs, .int he, .int sta, .int lf, .int hru])), (i0, .inr (6, [.ref h0, .int se])), (h0, .inr (0, [.int sec, .ref h1, .int pw])), (h1, .inl (cB, n, .inl f)), (t0, .inr (3, [.ref t1, .ref t2, .int us])), (t1, .inl (c2, 4096, .inl tb)), (t2, .inl (c3, 20, .inl tr))] sz) [(t0, .inr (3, [.ref t1, .ref t2, .int 0])), (t1, .inl (c2, 4096, .inl tb)), (t2, .inl (c3, 20, .inl tr)), (i0, .inr (6, [.ref h0, .int se])), (h0, .inr (0, [.int sec, .ref h1, .int pw])), (h1, .inl (cB, n, .inl f)), (v0, .inr (11, [.ref h0, .ref t0, .ref b0, .ref e0, .ref r0, .ref d0, .ref g0, .ref u0, .ref i0, .ref fa, .ref fw, .int fs, .int he, .int sta, .int lf, .int hru]))] [(cB, .byte), (c2, .byte), (c3, .byte)])) 1 6 (va_A [(v0, .inr (11, [.ref h0, .ref t0, .ref b0, .ref e0, .ref r0, .ref d0, .ref g0, .ref u0, .ref i0, .ref fa, .ref fw, .int fs, .int he, .int sta, .int lf, .int hru])), (i0, .inr (6, [.ref h0, .int se])), (h0, .inr (0, [.int sec, .ref h1, .int pw])), (h1, .inl (cB, n, .inl f)), (t0, .inr (3, [.ref t1, .ref t2, .int us])), (t1, .inl (c2, 4096, .inl tb)), (t2, .inl (c3, 20, .inl tr))] sz) := by
  refine MetX.ofW (cc := b_Vt_write) (maxL := 7) (ret := (some .int)) (by decide) rfl ?_
  intro p e s m args below meth c s₁ B hml hv
  obtain ⟨rfl, hsz, ⟨hP, hK, hD0⟩, hE⟩ := hv
  have hx := B.exec
  have hb := B.bytes
  have hr := B.returns
  have hts0 := atoms_spec (ws := .code y_Vt_write b_Vt_write 7 (some .int) :: V_Vt) B.pre
  have hts : ∀ w ∈ V_Vt, w.before ([.ref v0, .int p1] : List Value).toArray s = true := fun w h => hts0 w (List.mem_cons_of_mem _ h)
  have hown : s.vm.findClass R_Vt = some m.cls := findClass_of_methodNamed B.named
  have hlocks := B.notSynchronized
  subst hsz
  have hD := hD0.self (sz := s.heap.size)
  generalize hAe : va_A [(v0, .inr (11, [.ref h0, .ref t0, .ref b0, .ref e0, .ref r0, .ref d0, .ref g0, .ref u0, .ref i0, .ref fa, .ref fw, .int fs, .int he, .int sta, .int lf, .int hru])), (i0, .inr (6, [.ref h0, .int se])), (h0, .inr (0, [.int sec, .ref h1, .int pw])), (h1, .inl (cB, n, .inl f)), (t0, .inr (3, [.ref t1, .ref t2, .int us])), (t1, .inl (c2, 4096, .inl tb)), (t2, .inl (c3, 20, .inl tr))] s.heap.size = A at hD ⊢
  have hA : ∀ q : Nat, s.heap.size ≤ q → A q := fun q h => by rw [← hAe]; exact Or.inr h
  have hS : va_S A s.heap s.heap [] := va_S.rf
  have hP : va_P (dC, dI) classes [(v0, .inr (11, [.ref h0, .ref t0, .ref b0, .ref e0, .ref r0, .ref d0, .ref g0, .ref u0, .ref i0, .ref fa, .ref fw, .int fs, .int he, .int sta, .int lf, .int hru])), (i0, .inr (6, [.ref h0, .int se])), (h0, .inr (0, [.int sec, .ref h1, .int pw])), (h1, .inl (cB, n, .inl f)), (t0, .inr (3, [.ref t1, .ref t2, .int us])), (t1, .inl (c2, 4096, .inl tb)), (t2, .inl (c3, 20, .inl tr))] s.heap := hP
  have hK : va_K (dC, dI) classes [(cB, .byte), (c2, .byte), (c3, .byte)] s := hK
  have hP0 := hP
  have hout := x_table B (hts0 _ List.mem_cons_self)
  have hl := lv_entry ([.ref v0, .int p1]) (n := 7) (Nat.le_of_ble_eq_true rfl)
  rw [lg_entry_eq]
  generalize (lg_sl ([.ref v0, .int p1]) ++ List.replicate (7 - (lg_sl ([.ref v0, .int p1])).length) Slot.unset).toArray = ls at hl ⊢
  have hl : lv_has ls 7 [(0, .ref v0), (1, .int p1)] := hl
  refine lv_aload_n hx hb d_Vt_write_0 rfl (lv_at hl 0 rfl) ?_
  refine va_get (D := (dC, dI)) (ci := 11) (v := .ref t0) (C := R_Vt) (T := F_Vt) (N := 16) hx hb hts i_Vt hown hK hP 0 rfl rfl 1 (by decide) (hts _ (k_Vt_30)) (fun _ h9 => h9) rfl d_Vt_write_1 ?_
  have hPc := hP.sub (ws' := [(t0, .inr (3, [.ref t1, .ref t2, .int us])), (t1, .inl (c2, 4096, .inl tb)), (t2, .inl (c3, 20, .inl tr))]) [4, 5, 6] rfl
  have hDc := hD.sub (ws' := [(t0, .inr (3, [.ref t1, .ref t2, .int us])), (t1, .inl (c2, 4096, .inl tb)), (t2, .inl (c3, 20, .inl tr))]) [4, 5, 6] (by decide) rfl
  have hKc := hK.sub (tys' := [(c2, .byte), (c3, .byte)]) [1, 2] rfl
  have hFc := va_free (wc := [(t0, .inr (3, [.ref t1, .ref t2, .int us])), (t1, .inl (c2, 4096, .inl tb)), (t2, .inl (c3, 20, .inl tr))]) hD hS hA [4, 5, 6] rfl
  refine va_calli (va_runV (As := []) (rest := []) ⟨hx, hb, hml, hown, hts⟩ (c_Tp_useUp l dC dI t0 t1 t2 s.heap.size c2 c3 tb tr us) (cwV 0 hts (gwV good_Vt (k_Vt_56) (u_Vt_Tp _ k_Tp_16) (u_Vt_Tp _ k_Tp_17) (u_Vt_Tp _ k_Tp_0) (wcs (u_Vt_Tp _ k_Tp_18) u_Vt_Tp)) rfl rfl rfl (by decide +kernel) ⟨Nat.le_of_ble_eq_true rfl, Nat.le_of_ble_eq_true rfl⟩) (pv_of hPc hKc hDc (va_recv hKc hPc (ci := 3) (q0 := 0) rfl rfl)) rfl rfl hl.1 rfl (lv_room (Nat.le_of_ble_eq_true rfl)) d_Vt_write_4 ⟨by decide, by decide⟩) hS (fun q _ h => hFc q h) hFc (fun r_1 u t H1 locs ht hvm hw hB hz1 hk1 hS => ?_)
  obtain ⟨hw1, rfl⟩ := hw
  rw [hw1]
  obtain ⟨hP1, hK1, hD1⟩ := hB
  rw [ht] at hP1
  have hP1 : va_P (dC, dI) classes [(t0, .inr (3, [.ref t1, .ref t2, .int 0])), (t1, .inl (c2, 4096, .inl tb)), (t2, .inl (c3, 20, .inl tr))] H1 := hP1
  have hD1 : va_D _ [(t0, .inr (3, [.ref t1, .ref t2, .int 0])), (t1, .inl (c2, 4096, .inl tb)), (t2, .inl (c3, 20, .inl tr))] := hD1
  obtain ⟨hP, hD⟩ := va_join (wr := [(v0, .inr (11, [.ref h0, .ref t0, .ref b0, .ref e0, .ref r0, .ref d0, .ref g0, .ref u0, .ref i0, .ref fa, .ref fw, .int fs, .int he, .int sta, .int lf, .int hru])), (i0, .inr (6, [.ref h0, .int se])), (h0, .inr (0, [.int sec, .ref h1, .int pw])), (h1, .inl (cB, n, .inl f))]) (w1 := [(t0, .inr (3, [.ref t1, .ref t2, .int 0])), (t1, .inl (c2, 4096, .inl tb)), (t2, .inl (c3, 20, .inl tr))]) hP hD [4, 5, 6] [0, 1, 2, 3] rfl rfl (by decide) (by decide) hk1 hFc hP1 hD1
  generalize H1 = H at hP hS ⊢
  have hP : va_P (dC, dI) classes [(v0, .inr (11, [.ref h0, .ref t0, .ref b0, .ref e0, .ref r0, .ref d0, .ref g0, .ref u0, .ref i0, .ref fa, .ref fw, .int fs, .int he, .int sta, .int lf, .int hru])), (i0, .inr (6, [.ref h0, .int se])), (h0, .inr (0, [.int sec, .ref h1, .int pw])), (h1, .inl (cB, n, .inl f)), (t0, .inr (3, [.ref t1, .ref t2, .int 0])), (t1, .inl (c2, 4096, .inl tb)), (t2, .inl (c3, 20, .inl tr))] H := hP
  have hD : va_D A [(v0, .inr (11, [.ref h0, .ref t0, .ref b0, .ref e0, .ref r0, .ref d0, .ref g0, .ref u0, .ref i0, .ref fa, .ref fw, .int fs, .int he, .int sta, .int lf, .int hru])), (i0, .inr (6, [.ref h0, .int se])), (h0, .inr (0, [.int sec, .ref h1, .int pw])), (h1, .inl (cB, n, .inl f)), (t0, .inr (3, [.ref t1, .ref t2, .int 0])), (t1, .inl (c2, 4096, .inl tb)), (t2, .inl (c3, 20, .inl tr))] := hD
  refine lv_istore_n (lv' := [(2, .int us), (0, .ref v0), (1, .int p1)]) hx hb d_Vt_write_7 rfl hl (by decide) rfl (fun ls hl => ?_)
  refine lv_aload_n hx hb d_Vt_write_8 rfl (lv_at hl 1 rfl) ?_
  refine lv_aload_n hx hb d_Vt_write_9 rfl (lv_at hl 1 rfl) ?_
  have hPc := hP.sub (ws' := [(v0, .inr (11, [.ref h0, .ref t0, .ref b0, .ref e0, .ref r0, .ref d0, .ref g0, .ref u0, .ref i0, .ref fa, .ref fw, .int fs, .int he, .int sta, .int lf, .int hru])), (i0, .inr (6, [.ref h0, .int se])), (h0, .inr (0, [.int sec, .ref h1, .int pw])), (h1, .inl (cB, n, .inl f))]) [0, 1, 2, 3] rfl
  have hDc := hD.sub (ws' := [(v0, .inr (11, [.ref h0, .ref t0, .ref b0, .ref e0, .ref r0, .ref d0, .ref g0, .ref u0, .ref i0, .ref fa, .ref fw, .int fs, .int he, .int sta, .int lf, .int hru])), (i0, .inr (6, [.ref h0, .int se])), (h0, .inr (0, [.int sec, .ref h1, .int pw])), (h1, .inl (cB, n, .inl f))]) [0, 1, 2, 3] (by decide) rfl
  have hKc := hK.sub (tys' := [(cB, .byte)]) [0] rfl
  have hFc := va_free (wc := [(v0, .inr (11, [.ref h0, .ref t0, .ref b0, .ref e0, .ref r0, .ref d0, .ref g0, .ref u0, .ref i0, .ref fa, .ref fw, .int fs, .int he, .int sta, .int lf, .int hru])), (i0, .inr (6, [.ref h0, .int se])), (h0, .inr (0, [.int sec, .ref h1, .int pw])), (h1, .inl (cB, n, .inl f))]) hD hS hA [0, 1, 2, 3] rfl
  refine va_calli (va_runV (As := []) (rest := [.ref v0]) ⟨hx, hb, hml, hown, hts⟩ (c_Vt_look2 l dC dI v0 H.size h0 t0 b0 e0 r0 d0 g0 u0 i0 fa fw fs he sta lf hru se h1 cB sec pw n f h4 hn hit) (cwV 0 hts (gwV good_Vt (k_Vt_68) (k_Vt_69) (k_Vt_214) (k_Vt_0) (wcs (k_Vt_70) (fun _ h => h))) rfl rfl rfl (by decide +kernel) ⟨Nat.le_of_ble_eq_true rfl, Nat.le_of_ble_eq_true rfl⟩) (pv_of hPc hKc hDc (va_recv hKc hPc (ci := 11) (q0 := 0) rfl rfl)) rfl rfl hl.1 rfl (lv_room (Nat.le_of_ble_eq_true rfl)) d_Vt_write_10 ⟨by decide, by decide⟩) hS (fun q _ h => hFc q h) hFc (fun r_2 u t H1 locs ht hvm hw hB hz1 hk1 hS => ?_)
  subst hw
  obtain ⟨hP1, hK1, hD1⟩ := hB
  rw [ht] at hP1
  have hP1 : va_P (dC, dI) classes [(v0, .inr (11, [.ref h0, .ref t0, .ref b0, .ref e0, .ref r0, .ref d0, .ref g0, .ref u0, .ref i0, .ref fa, .ref fw, .int fs, .int he, .int sta, .int lf, .int hru])), (i0, .inr (6, [.ref h0, .int se])), (h0, .inr (0, [.int sec, .ref h1, .int pw])), (h1, .inl (cB, n, .inl f))] H1 := hP1
  have hD1 : va_D _ [(v0, .inr (11, [.ref h0, .ref t0, .ref b0, .ref e0, .ref r0, .ref d0, .ref g0, .ref u0, .ref i0, .ref fa, .ref fw, .int fs, .int he, .int sta, .int lf, .int hru])), (i0, .inr (6, [.ref h0, .int se])), (h0, .inr (0, [.int sec, .ref h1, .int pw])), (h1, .inl (cB, n, .inl f))] := hD1
  obtain ⟨hP, hD⟩ := va_join (wr := [(t0, .inr (3, [.ref t1, .ref t2, .int 0])), (t1, .inl (c2, 4096, .inl tb)), (t2, .inl (c3, 20, .inl tr))]) (w1 := [(v0, .inr (11, [.ref h0, .ref t0, .ref b0, .ref e0, .ref r0, .ref d0, .ref g0, .ref u0, .ref i0, .ref fa, .ref fw, .int fs, .int he, .int sta, .int lf, .int hru])), (i0, .inr (6, [.ref h0, .int se])), (h0, .inr (0, [.int sec, .ref h1, .int pw])), (h1, .inl (cB, n, .inl f))]) hP hD [0, 1, 2, 3] [4, 5, 6] rfl rfl (by decide) (by decide) hk1 hFc hP1 hD1
  generalize H1 = H at hP hS ⊢
  have hP : va_P (dC, dI) classes [(t0, .inr (3, [.ref t1, .ref t2, .int 0])), (t1, .inl (c2, 4096, .inl tb)), (t2, .inl (c3, 20, .inl tr)), (v0, .inr (11, [.ref h0, .ref t0, .ref b0, .ref e0, .ref r0, .ref d0, .ref g0, .ref u0, .ref i0, .ref fa, .ref fw, .int fs, .int he, .int sta, .int lf, .int hru])), (i0, .inr (6, [.ref h0, .int se])), (h0, .inr (0, [.int sec, .ref h1, .int pw])), (h1, .inl (cB, n, .inl f))] H := hP
  have hD : va_D A [(t0, .inr (3, [.ref t1, .ref t2, .int 0])), (t1, .inl (c2, 4096, .inl tb)), (t2, .inl (c3, 20, .inl tr)), (v0, .inr (11, [.ref h0, .ref t0, .ref b0, .ref e0, .ref r0, .ref d0, .ref g0, .ref u0, .ref i0, .ref fa, .ref fw, .int fs, .int he, .int sta, .int lf, .int hru])), (i0, .inr (6, [.ref h0, .int se])), (h0, .inr (0, [.int sec, .ref h1, .int pw])), (h1, .inl (cB, n, .inl f))] := hD
  have hPc := hP.sub (ws' := [(v0, .inr (11, [.ref h0, .ref t0, .ref b0, .ref e0, .ref r0, .ref d0, .ref g0, .ref u0, .ref i0, .ref fa, .ref fw, .int fs, .int he, .int sta, .int lf, .int hru]))]) [3] rfl
  have hDc := hD.sub (ws' := [(v0, .inr (11, [.ref h0, .ref t0, .ref b0, .ref e0, .ref r0, .ref d0, .ref g0, .ref u0, .ref i0, .ref fa, .ref fw, .int fs, .int he, .int sta, .int lf, .int hru]))]) [3] (by decide) rfl
  have hKc := hK.sub (tys' := []) [] rfl
  have hFc := va_free (wc := [(v0, .inr (11, [.ref h0, .ref t0, .ref b0, .ref e0, .ref r0, .ref d0, .ref g0, .ref u0, .ref i0, .ref fa, .ref fw, .int fs, .int he, .int sta, .int lf, .int hru]))]) hD hS hA [3] rfl
  exact x_outV (n := 1) (As := [.int 2]) (rest := []) (b := v0) (st0 := [.int 2, .ref v0]) ⟨hx, hb, hml, hown, hts⟩ (cx_Vt_wantSoundTable2 l hfl dC dI v0 H.size h0 t0 b0 e0 r0 d0 g0 u0 i0 fa fw fs he sta lf hru) (cwV 1 hts (gwV good_Vt (k_Vt_166) (k_Vt_167) (k_Vt_216) (k_Vt_0) (wcs (k_Vt_168) (fun _ h => h))) rfl rfl rfl (by decide +kernel) ⟨Nat.le_of_ble_eq_true rfl, Nat.le_of_ble_eq_true rfl⟩) (pv_ofE (fun U V z1 z2 z => x_T.same x_allS z1 z2 z) (fun U z1 z2 => x_T.at x_allS hE z2 (by rw [z1]; exact x_kept.ofS hP0 hAe hS)) hPc hKc hDc (va_recv hKc hPc (ci := 11) (q0 := 0) rfl rfl)) rfl hl.1 rfl (by decide) d_Vt_write_13 ⟨by decide, by decide⟩ hlocks hout ⟨by decide, by decide⟩ (fun E st t U z1 z2 z3 z4 z5 => x_outQ (wr := [(t0, .inr (3, [.ref t1, .ref t2, .int 0])), (t1, .inl (c2, 4096, .inl tb)), (t2, .inl (c3, 20, .inl tr)), (i0, .inr (6, [.ref h0, .int se])), (h0, .inr (0, [.int sec, .ref h1, .int pw])), (h1, .inl (cB, n, .inl f))]) (w1 := [(v0, .inr (11, [.ref h0, .ref t0, .ref b0, .ref e0, .ref r0, .ref d0, .ref g0, .ref u0, .ref i0, .ref fa, .ref fw, .int fs, .int he, .int sta, .int lf, .int hru]))]) hS hP hD hK [3] [0, 1, 2, 4, 5, 6] rfl rfl (by decide) (by decide) hFc z1 z3 z4 z5) ⟨hS.2.2, fun z h => hFc z h⟩
