set_option maxHeartbeats 4000000 in
set_option maxRecDepth 100000 in
/-- no such item: less than 0 -/
theorem cx_Vt_entryHereA (l : Launch) (hfl : l.flags = pinnedFlags ++ [noTraceFlag]) (dC : Nat → ClassId) (dI : Nat → Nat → Nat) (v0 sz h0 t0 b0 e0 r0 d0 g0 u0 i0 fa fw : Nat) (fs he sta lf hru : Int32) (se : Int32) (h1 : Nat) (cB : ClassId) (sec pw : Int32) (n : Nat) (f : Nat → Int32) (h4 : 4 ≤ n) (hn : n < 2 ^ 31) (p1 : Int32) (hkA : p1 < 0) : MetX l y_Vt_entryHere (.code y_Vt_entryHere b_Vt_entryHere 2 (some .int) :: V_Vt) ({ frames := 6, cells := 1, slots := 6, locals := 108 }) (va_Pc [.ref v0, .int p1] (fun U => U.heap.size = sz ∧ at_ (dC, dI) (fun _ => True) [(v0, .inr (11, [.ref h0, .ref t0, .ref b0, .ref e0, .ref r0, .ref d0, .ref g0, .ref u0, .ref i0, .ref fa, .ref fw, .int fs, .int he, .int sta, .int lf, .int hru])), (i0, .inr (6, [.ref h0, .int se])), (h0, .inr (0, [.int sec, .ref h1, .int pw])), (h1, .inl (cB, n, .inl f))] [(cB, .byte)] U ∧ x_T R_Vt 341 "java/lang/IndexOutOfBoundsException" 339 "no such item" U)) (fun _ _ _ _ => False) (x_Q "java/lang/IndexOutOfBoundsException" (va_A [(v0, .inr (11, [.ref h0, .ref t0, .ref b0, .ref e0, .ref r0, .ref d0, .ref g0, .ref u0, .ref i0, .ref fa, .ref fw, .int fs, .int he, .int sta, .int lf, .int hru])), (i0, .inr (6, [.ref h0, .int se])), (h0, .inr (0, [.int sec, .ref h1, .int pw])), (h1, .inl (cB, n, .inl f))] sz) (at_ (dC, dI) (va_A [(v0, .inr (11, [.ref h0, .ref t0, .ref b0, .ref e0, .ref r0, .ref d0, .ref g0, .ref u0, .ref i0, .ref fa, .ref fw, .int fs, .int he, .int sta, .int lf, .int hru])), (i0, .inr (6, [.ref h0, .int se])), (h0, .inr (0, [.int sec, .ref h1, .int pw])), (h1, .inl (cB, n, .inl f))] sz) [(v0, .inr (11, [.ref h0, .ref t0, .ref b0, .ref e0, .ref r0, .ref d0, .ref g0, .ref u0, .ref i0, .ref fa, .ref fw, .int fs, .int he, .int sta, .int lf, .int hru])), (i0, .inr (6, [.ref h0, .int se])), (h0, .inr (0, [.int sec, .ref h1, .int pw])), (h1, .inl (cB, n, .inl f))] [(cB, .byte)])) 1 6 (va_A [(v0, .inr (11, [.ref h0, .ref t0, .ref b0, .ref e0, .ref r0, .ref d0, .ref g0, .ref u0, .ref i0, .ref fa, .ref fw, .int fs, .int he, .int sta, .int lf, .int hru])), (i0, .inr (6, [.ref h0, .int se])), (h0, .inr (0, [.int sec, .ref h1, .int pw])), (h1, .inl (cB, n, .inl f))] sz) := by
  refine MetX.ofW (cc := b_Vt_entryHere) (maxL := 2) (ret := (some .int)) (by decide) rfl ?_
  intro p e s m args below meth c s₁ B hml hv
  obtain ⟨rfl, hsz, ⟨hP, hK, hD0⟩, hE⟩ := hv
  have hx := B.exec
  have hb := B.bytes
  have hr := B.returns
  have hts0 := atoms_spec (ws := .code y_Vt_entryHere b_Vt_entryHere 2 (some .int) :: V_Vt) B.pre
  have hts : ∀ w ∈ V_Vt, w.before ([.ref v0, .int p1] : List Value).toArray s = true := fun w h => hts0 w (List.mem_cons_of_mem _ h)
  have hown : s.vm.findClass R_Vt = some m.cls := findClass_of_methodNamed B.named
  have hlocks := B.notSynchronized
  subst hsz
  have hD := hD0.self (sz := s.heap.size)
  generalize hAe : va_A [(v0, .inr (11, [.ref h0, .ref t0, .ref b0, .ref e0, .ref r0, .ref d0, .ref g0, .ref u0, .ref i0, .ref fa, .ref fw, .int fs, .int he, .int sta, .int lf, .int hru])), (i0, .inr (6, [.ref h0, .int se])), (h0, .inr (0, [.int sec, .ref h1, .int pw])), (h1, .inl (cB, n, .inl f))] s.heap.size = A at hD ⊢
  have hA : ∀ q : Nat, s.heap.size ≤ q → A q := fun q h => by rw [← hAe]; exact Or.inr h
  have hS : va_S A s.heap s.heap [] := va_S.rf
  have hP : va_P (dC, dI) classes [(v0, .inr (11, [.ref h0, .ref t0, .ref b0, .ref e0, .ref r0, .ref d0, .ref g0, .ref u0, .ref i0, .ref fa, .ref fw, .int fs, .int he, .int sta, .int lf, .int hru])), (i0, .inr (6, [.ref h0, .int se])), (h0, .inr (0, [.int sec, .ref h1, .int pw])), (h1, .inl (cB, n, .inl f))] s.heap := hP
  have hK : va_K (dC, dI) classes [(cB, .byte)] s := hK
  have hP0 := hP
  have hout := x_table B (hts0 _ List.mem_cons_self)
  have hl := lv_entry ([.ref v0, .int p1]) (n := 2) (Nat.le_of_ble_eq_true rfl)
  rw [lg_entry_eq]
  generalize (lg_sl ([.ref v0, .int p1]) ++ List.replicate (2 - (lg_sl ([.ref v0, .int p1])).length) Slot.unset).toArray = ls at hl ⊢
  have hl : lv_has ls 2 [(0, .ref v0), (1, .int p1)] := hl
  refine lv_iload_n hx hb d_Vt_entryHere_0 rfl (lv_at hl 1 rfl) ?_
  refine lv_if_lt (tgt := 19) hx hb d_Vt_entryHere_1 (by decide) (fun c_1 => ?_) (fun c_1 => ?_)
  · exact x_thrG (own := R_Vt) (cls := "java/lang/IndexOutOfBoundsException") (ik := 337) (is := 339) (ic := 341) (k := 3) hx hb (Launch.traces_off hfl (Stand.of_body B).admits) hlocks hown (by decide) (fun T hT => hE.1.move x_allI (State.WarmedH.refl s) (by show x_kept s.heap T.heap; rw [hT]; exact x_kept.ofS hP0 hAe hS)) (hts _ (k_Vt_125)) (hts _ (k_Vt_126)) (hts _ (k_Vt_2)) hE.2 (hl.1.trans hml.symm) d_Vt_entryHere_19 d_Vt_entryHere_22 (Or.inr ⟨d_Vt_entryHere_23, rfl⟩) d_Vt_entryHere_26 d_Vt_entryHere_29 hout (by decide) (by decide) (by decide) (by decide) (by decide) (by decide) hP hK hD hS
  · exact absurd hkA c_1
set_option maxHeartbeats 4000000 in
set_option maxRecDepth 100000 in
/-- no such item: too many -/
theorem cx_Vt_entryHereB (l : Launch) (hfl : l.flags = pinnedFlags ++ [noTraceFlag]) (dC : Nat → ClassId) (dI : Nat → Nat → Nat) (v0 sz h0 t0 b0 e0 r0 d0 g0 u0 i0 fa fw : Nat) (fs he sta lf hru : Int32) (se : Int32) (h1 : Nat) (cB : ClassId) (sec pw : Int32) (n : Nat) (f : Nat → Int32) (h4 : 4 ≤ n) (hn : n < 2 ^ 31) (p1 : Int32) (hkA : ¬ p1 < 0) (hkB : ¬ p1 < (in_find n f he (-1)).2 - 2) : MetX l y_Vt_entryHere (.code y_Vt_entryHere b_Vt_entryHere 2 (some .int) :: V_Vt) ({ frames := 6, cells := 1, slots := 6, locals := 108 }) (va_Pc [.ref v0, .int p1] (fun U => U.heap.size = sz ∧ at_ (dC, dI) (fun _ => True) [(v0, .inr (11, [.ref h0, .ref t0, .ref b0, .ref e0, .ref r0, .ref d0, .ref g0, .ref u0, .ref i0, .ref fa, .ref fw, .int fs, .int he, .int sta, .int lf, .int hru])), (i0, .inr (6, [.ref h0, .int se])), (h0, .inr (0, [.int sec, .ref h1, .int pw])), (h1, .inl (cB, n, .inl f))] [(cB, .byte)] U ∧ x_T R_Vt 341 "java/lang/IndexOutOfBoundsException" 339 "no such item" U)) (fun _ _ _ _ => False) (x_Q "java/lang/IndexOutOfBoundsException" (va_A [(v0, .inr (11, [.ref h0, .ref t0, .ref b0, .ref e0, .ref r0, .ref d0, .ref g0, .ref u0, .ref i0, .ref fa, .ref fw, .int fs, .int he, .int sta, .int lf, .int hru])), (i0, .inr (6, [.ref h0, .int se])), (h0, .inr (0, [.int sec, .ref h1, .int pw])), (h1, .inl (cB, n, .inl f))] sz) (at_ (dC, dI) (va_A [(v0, .inr (11, [.ref h0, .ref t0, .ref b0, .ref e0, .ref r0, .ref d0, .ref g0, .ref u0, .ref i0, .ref fa, .ref fw, .int fs, .int he, .int sta, .int lf, .int hru])), (i0, .inr (6, [.ref h0, .int se])), (h0, .inr (0, [.int sec, .ref h1, .int pw])), (h1, .inl (cB, n, .inl f))] sz) [(v0, .inr (11, [.ref h0, .ref t0, .ref b0, .ref e0, .ref r0, .ref d0, .ref g0, .ref u0, .ref i0, .ref fa, .ref fw, .int fs, .int he, .int sta, .int lf, .int hru])), (i0, .inr (6, [.ref h0, .int ((in_find n f he (-1)).2)])), (h0, .inr (0, [.int sec, .ref h1, .int pw])), (h1, .inl (cB, n, .inl f))] [(cB, .byte)])) 1 6 (va_A [(v0, .inr (11, [.ref h0, .ref t0, .ref b0, .ref e0, .ref r0, .ref d0, .ref g0, .ref u0, .ref i0, .ref fa, .ref fw, .int fs, .int he, .int sta, .int lf, .int hru])), (i0, .inr (6, [.ref h0, .int se])), (h0, .inr (0, [.int sec, .ref h1, .int pw])), (h1, .inl (cB, n, .inl f))] sz) := by
  refine MetX.ofW (cc := b_Vt_entryHere) (maxL := 2) (ret := (some .int)) (by decide) rfl ?_
  intro p e s m args below meth c s₁ B hml hv
  obtain ⟨rfl, hsz, ⟨hP, hK, hD0⟩, hE⟩ := hv
  have hx := B.exec
  have hb := B.bytes
  have hr := B.returns
  have hts0 := atoms_spec (ws := .code y_Vt_entryHere b_Vt_entryHere 2 (some .int) :: V_Vt) B.pre
  have hts : ∀ w ∈ V_Vt, w.before ([.ref v0, .int p1] : List Value).toArray s = true := fun w h => hts0 w (List.mem_cons_of_mem _ h)
  have hown : s.vm.findClass R_Vt = some m.cls := findClass_of_methodNamed B.named
  have hlocks := B.notSynchronized
  subst hsz
  have hD := hD0.self (sz := s.heap.size)
  generalize hAe : va_A [(v0, .inr (11, [.ref h0, .ref t0, .ref b0, .ref e0, .ref r0, .ref d0, .ref g0, .ref u0, .ref i0, .ref fa, .ref fw, .int fs, .int he, .int sta, .int lf, .int hru])), (i0, .inr (6, [.ref h0, .int se])), (h0, .inr (0, [.int sec, .ref h1, .int pw])), (h1, .inl (cB, n, .inl f))] s.heap.size = A at hD ⊢
  have hA : ∀ q : Nat, s.heap.size ≤ q → A q := fun q h => by rw [← hAe]; exact Or.inr h
  have hS : va_S A s.heap s.heap [] := va_S.rf
  have hP : va_P (dC, dI) classes [(v0, .inr (11, [.ref h0, .ref t0, .ref b0, .ref e0, .ref r0, .ref d0, .ref g0, .ref u0, .ref i0, .ref fa, .ref fw, .int fs, .int he, .int sta, .int lf, .int hru])), (i0, .inr (6, [.ref h0, .int se])), (h0, .inr (0, [.int sec, .ref h1, .int pw])), (h1, .inl (cB, n, .inl f))] s.heap := hP
  have hK : va_K (dC, dI) classes [(cB, .byte)] s := hK
  have hP0 := hP
  have hout := x_table B (hts0 _ List.mem_cons_self)
  have hl := lv_entry ([.ref v0, .int p1]) (n := 2) (Nat.le_of_ble_eq_true rfl)
  rw [lg_entry_eq]
  generalize (lg_sl ([.ref v0, .int p1]) ++ List.replicate (2 - (lg_sl ([.ref v0, .int p1])).length) Slot.unset).toArray = ls at hl ⊢
  have hl : lv_has ls 2 [(0, .ref v0), (1, .int p1)] := hl
  refine lv_iload_n hx hb d_Vt_entryHere_0 rfl (lv_at hl 1 rfl) ?_
  refine lv_if_lt (tgt := 19) hx hb d_Vt_entryHere_1 (by decide) (fun c_1 => ?_) (fun c_1 => ?_)
  · exact absurd c_1 hkA
  · refine lv_iload_n hx hb d_Vt_entryHere_4 rfl (lv_at hl 1 rfl) ?_
    refine lv_aload_n hx hb d_Vt_entryHere_5 rfl (lv_at hl 0 rfl) ?_
    refine va_get (D := (dC, dI)) (ci := 11) (v := .ref i0) (C := R_Vt) (T := F_Vt) (N := 16) hx hb hts i_Vt hown hK hP 0 rfl rfl 8 (by decide) (hts _ (k_Vt_37)) (fun _ h9 => h9) rfl d_Vt_entryHere_6 ?_
    refine lv_aload_n hx hb d_Vt_entryHere_9 rfl (lv_at hl 0 rfl) ?_
    refine va_get (D := (dC, dI)) (ci := 11) (v := .int he) (C := R_Vt) (T := F_Vt) (N := 16) hx hb hts i_Vt hown hK hP 0 rfl rfl 12 (by decide) (hts _ (k_Vt_41)) (fun _ h9 => h9) rfl d_Vt_entryHere_10 ?_
    have hPc := hP.sub (ws' := [(i0, .inr (6, [.ref h0, .int se])), (h0, .inr (0, [.int sec, .ref h1, .int pw])), (h1, .inl (cB, n, .inl f))]) [1, 2, 3] rfl
    have hDc := hD.sub (ws' := [(i0, .inr (6, [.ref h0, .int se])), (h0, .inr (0, [.int sec, .ref h1, .int pw])), (h1, .inl (cB, n, .inl f))]) [1, 2, 3] (by decide) rfl
    have hKc := hK.sub (tys' := [(cB, .byte)]) [0] rfl
    have hFc := va_free (wc := [(i0, .inr (6, [.ref h0, .int se])), (h0, .inr (0, [.int sec, .ref h1, .int pw])), (h1, .inl (cB, n, .inl f))]) hD hS hA [1, 2, 3] rfl
    refine va_calli (va_runV (As := [.int he]) (rest := [.int p1]) ⟨hx, hb, hml, hown, hts⟩ (c_In_countIn l dC dI i0 h0 s.heap.size se h1 cB sec pw n f h4 hn he) (cwV 1 hts (gwV good_Vt (k_Vt_117) (u_Vt_In _ k_In_26) (u_Vt_In _ k_In_27) (u_Vt_In _ k_In_0) (wcs (u_Vt_In _ k_In_28) u_Vt_In)) rfl rfl rfl (by decide +kernel) ⟨Nat.le_of_ble_eq_true rfl, Nat.le_of_ble_eq_true rfl⟩) (pv_of hPc hKc hDc (va_recv hKc hPc (ci := 6) (q0 := 0) rfl rfl)) rfl rfl hl.1 rfl (lv_room (Nat.le_of_ble_eq_true rfl)) d_Vt_entryHere_13 ⟨by decide, by decide⟩) hS (fun q _ h => hFc q h) hFc (fun r_2 u t H1 locs ht hvm hw hB hz1 hk1 hS => ?_)
    subst hw
    obtain ⟨hP1, hK1, hD1⟩ := hB
    rw [ht] at hP1
    have hP1 : va_P (dC, dI) classes [(i0, .inr (6, [.ref h0, .int ((in_find n f he (-1)).2)])), (h0, .inr (0, [.int sec, .ref h1, .int pw])), (h1, .inl (cB, n, .inl f))] H1 := hP1
    have hD1 : va_D _ [(i0, .inr (6, [.ref h0, .int ((in_find n f he (-1)).2)])), (h0, .inr (0, [.int sec, .ref h1, .int pw])), (h1, .inl (cB, n, .inl f))] := hD1
    obtain ⟨hP, hD⟩ := va_join (wr := [(v0, .inr (11, [.ref h0, .ref t0, .ref b0, .ref e0, .ref r0, .ref d0, .ref g0, .ref u0, .ref i0, .ref fa, .ref fw, .int fs, .int he, .int sta, .int lf, .int hru]))]) (w1 := [(i0, .inr (6, [.ref h0, .int ((in_find n f he (-1)).2)])), (h0, .inr (0, [.int sec, .ref h1, .int pw])), (h1, .inl (cB, n, .inl f))]) hP hD [1, 2, 3] [0] rfl rfl (by decide) (by decide) hk1 hFc hP1 hD1
    generalize H1 = H at hP hS ⊢
    have hP : va_P (dC, dI) classes [(v0, .inr (11, [.ref h0, .ref t0, .ref b0, .ref e0, .ref r0, .ref d0, .ref g0, .ref u0, .ref i0, .ref fa, .ref fw, .int fs, .int he, .int sta, .int lf, .int hru])), (i0, .inr (6, [.ref h0, .int ((in_find n f he (-1)).2)])), (h0, .inr (0, [.int sec, .ref h1, .int pw])), (h1, .inl (cB, n, .inl f))] H := hP
    have hD : va_D A [(v0, .inr (11, [.ref h0, .ref t0, .ref b0, .ref e0, .ref r0, .ref d0, .ref g0, .ref u0, .ref i0, .ref fa, .ref fw, .int fs, .int he, .int sta, .int lf, .int hru])), (i0, .inr (6, [.ref h0, .int ((in_find n f he (-1)).2)])), (h0, .inr (0, [.int sec, .ref h1, .int pw])), (h1, .inl (cB, n, .inl f))] := hD
    refine lv_icmp_lt (tgt := 30) hx hb d_Vt_entryHere_16 (by decide) (fun c_3 => ?_) (fun c_3 => ?_)
    · exact absurd c_3 hkB
    · exact x_thrG (own := R_Vt) (cls := "java/lang/IndexOutOfBoundsException") (ik := 337) (is := 339) (ic := 341) (k := 3) hx hb (Launch.traces_off hfl (Stand.of_body B).admits) hlocks hown (by decide) (fun T hT => hE.1.move x_allI (State.WarmedH.refl s) (by show x_kept s.heap T.heap; rw [hT]; exact x_kept.ofS hP0 hAe hS)) (hts _ (k_Vt_125)) (hts _ (k_Vt_126)) (hts _ (k_Vt_2)) hE.2 (hl.1.trans hml.symm) d_Vt_entryHere_19 d_Vt_entryHere_22 (Or.inr ⟨d_Vt_entryHere_23, rfl⟩) d_Vt_entryHere_26 d_Vt_entryHere_29 hout (by decide) (by decide) (by decide) (by decide) (by decide) (by decide) hP hK hD hS
set_option maxHeartbeats 4000000 in
set_option maxRecDepth 100000 in
/-- letter of no such item in an inode volume -/
theorem cx_Vt_letter2A (l : Launch) (hfl : l.flags = pinnedFlags ++ [noTraceFlag]) (dC : Nat → ClassId) (dI : Nat → Nat → Nat) (v0 sz h0 t0 b0 e0 r0 d0 g0 u0 i0 fa fw : Nat) (fs he sta lf hru : Int32) (se : Int32) (h1 : Nat) (cB : ClassId) (sec pw : Int32) (n : Nat) (f : Nat → Int32) (h4 : 4 ≤ n) (hn : n < 2 ^ 31) (hit : in_there n f = 1) (p1 : Int32) (hkA : p1 < 0) (p2 : Int32) : MetX l y_Vt_letter (.code y_Vt_letter b_Vt_letter 3 (some .int) :: V_Vt) ({ frames := 7, cells := 1, slots := 6, locals := 129 }) (va_Pc [.ref v0, .int p1, .int p2] (fun U => U.heap.size = sz ∧ at_ (dC, dI) (fun _ => True) [(v0, .inr (11, [.ref h0, .ref t0, .ref b0, .ref e0, .ref r0, .ref d0, .ref g0, .ref u0, .ref i0, .ref fa, .ref fw, .int fs, .int he, .int sta, .int lf, .int hru])), (i0, .inr (6, [.ref h0, .int se])), (h0, .inr (0, [.int sec, .ref h1, .int pw])), (h1, .inl (cB, n, .inl f))] [(cB, .byte)] U ∧ x_T R_Vt 341 "java/lang/IndexOutOfBoundsException" 339 "no such item" U)) (fun _ _ _ _ => False) (x_Q "java/lang/IndexOutOfBoundsException" (va_A [(v0, .inr (11, [.ref h0, .ref t0, .ref b0, .ref e0, .ref r0, .ref d0, .ref g0, .ref u0, .ref i0, .ref fa, .ref fw, .int fs, .int he, .int sta, .int lf, .int hru])), (i0, .inr (6, [.ref h0, .int se])), (h0, .inr (0, [.int sec, .ref h1, .int pw])), (h1, .inl (cB, n, .inl f))] sz) (at_ (dC, dI) (va_A [(v0, .inr (11, [.ref h0, .ref t0, .ref b0, .ref e0, .ref r0, .ref d0, .ref g0, .ref u0, .ref i0, .ref fa, .ref fw, .int fs, .int he, .int sta, .int lf, .int hru])), (i0, .inr (6, [.ref h0, .int se])), (h0, .inr (0, [.int sec, .ref h1, .int pw])), (h1, .inl (cB, n, .inl f))] sz) [(v0, .inr (11, [.ref h0, .ref t0, .ref b0, .ref e0, .ref r0, .ref d0, .ref g0, .ref u0, .ref i0, .ref fa, .ref fw, .int fs, .int he, .int sta, .int lf, .int hru])), (i0, .inr (6, [.ref h0, .int se])), (h0, .inr (0, [.int sec, .ref h1, .int pw])), (h1, .inl (cB, n, .inl f))] [(cB, .byte)])) 1 6 (va_A [(v0, .inr (11, [.ref h0, .ref t0, .ref b0, .ref e0, .ref r0, .ref d0, .ref g0, .ref u0, .ref i0, .ref fa, .ref fw, .int fs, .int he, .int sta, .int lf, .int hru])), (i0, .inr (6, [.ref h0, .int se])), (h0, .inr (0, [.int sec, .ref h1, .int pw])), (h1, .inl (cB, n, .inl f))] sz) := by
  refine MetX.ofW (cc := b_Vt_letter) (maxL := 3) (ret := (some .int)) (by decide) rfl ?_
  intro p e s m args below meth c s₁ B hml hv
  obtain ⟨rfl, hsz, ⟨hP, hK, hD0⟩, hE⟩ := hv
  have hx := B.exec
  have hb := B.bytes
  have hr := B.returns
  have hts0 := atoms_spec (ws := .code y_Vt_letter b_Vt_letter 3 (some .int) :: V_Vt) B.pre
  have hts : ∀ w ∈ V_Vt, w.before ([.ref v0, .int p1, .int p2] : List Value).toArray s = true := fun w h => hts0 w (List.mem_cons_of_mem _ h)
  have hown : s.vm.findClass R_Vt = some m.cls := findClass_of_methodNamed B.named
  have hlocks := B.notSynchronized
  subst hsz
  have hD := hD0.self (sz := s.heap.size)
  generalize hAe : va_A [(v0, .inr (11, [.ref h0, .ref t0, .ref b0, .ref e0, .ref r0, .ref d0, .ref g0, .ref u0, .ref i0, .ref fa, .ref fw, .int fs, .int he, .int sta, .int lf, .int hru])), (i0, .inr (6, [.ref h0, .int se])), (h0, .inr (0, [.int sec, .ref h1, .int pw])), (h1, .inl (cB, n, .inl f))] s.heap.size = A at hD ⊢
  have hA : ∀ q : Nat, s.heap.size ≤ q → A q := fun q h => by rw [← hAe]; exact Or.inr h
  have hS : va_S A s.heap s.heap [] := va_S.rf
  have hP : va_P (dC, dI) classes [(v0, .inr (11, [.ref h0, .ref t0, .ref b0, .ref e0, .ref r0, .ref d0, .ref g0, .ref u0, .ref i0, .ref fa, .ref fw, .int fs, .int he, .int sta, .int lf, .int hru])), (i0, .inr (6, [.ref h0, .int se])), (h0, .inr (0, [.int sec, .ref h1, .int pw])), (h1, .inl (cB, n, .inl f))] s.heap := hP
  have hK : va_K (dC, dI) classes [(cB, .byte)] s := hK
  have hP0 := hP
  have hout := x_table B (hts0 _ List.mem_cons_self)
  have hl := lv_entry ([.ref v0, .int p1, .int p2]) (n := 3) (Nat.le_of_ble_eq_true rfl)
  rw [lg_entry_eq]
  generalize (lg_sl ([.ref v0, .int p1, .int p2]) ++ List.replicate (3 - (lg_sl ([.ref v0, .int p1, .int p2])).length) Slot.unset).toArray = ls at hl ⊢
  have hl : lv_has ls 3 [(0, .ref v0), (1, .int p1), (2, .int p2)] := hl
  refine lv_aload_n hx hb d_Vt_letter_0 rfl (lv_at hl 0 rfl) ?_
  refine lv_aload_n hx hb d_Vt_letter_1 rfl (lv_at hl 0 rfl) ?_
  have hPc := hP.sub (ws' := [(v0, .inr (11, [.ref h0, .ref t0, .ref b0, .ref e0, .ref r0, .ref d0, .ref g0, .ref u0, .ref i0, .ref fa, .ref fw, .int fs, .int he, .int sta, .int lf, .int hru])), (i0, .inr (6, [.ref h0, .int se])), (h0, .inr (0, [.int sec, .ref h1, .int pw])), (h1, .inl (cB, n, .inl f))]) [0, 1, 2, 3] rfl
  have hDc := hD.sub (ws' := [(v0, .inr (11, [.ref h0, .ref t0, .ref b0, .ref e0, .ref r0, .ref d0, .ref g0, .ref u0, .ref i0, .ref fa, .ref fw, .int fs, .int he, .int sta, .int lf, .int hru])), (i0, .inr (6, [.ref h0, .int se])), (h0, .inr (0, [.int sec, .ref h1, .int pw])), (h1, .inl (cB, n, .inl f))]) [0, 1, 2, 3] (by decide) rfl
  have hKc := hK.sub (tys' := [(cB, .byte)]) [0] rfl
  have hFc := va_free (wc := [(v0, .inr (11, [.ref h0, .ref t0, .ref b0, .ref e0, .ref r0, .ref d0, .ref g0, .ref u0, .ref i0, .ref fa, .ref fw, .int fs, .int he, .int sta, .int lf, .int hru])), (i0, .inr (6, [.ref h0, .int se])), (h0, .inr (0, [.int sec, .ref h1, .int pw])), (h1, .inl (cB, n, .inl f))]) hD hS hA [0, 1, 2, 3] rfl
  refine va_calli (va_runV (As := []) (rest := [.ref v0]) ⟨hx, hb, hml, hown, hts⟩ (c_Vt_look2 l dC dI v0 s.heap.size h0 t0 b0 e0 r0 d0 g0 u0 i0 fa fw fs he sta lf hru se h1 cB sec pw n f h4 hn hit) (cwV 0 hts (gwV good_Vt (k_Vt_68) (k_Vt_69) (k_Vt_214) (k_Vt_0) (wcs (k_Vt_70) (fun _ h => h))) rfl rfl rfl (by decide +kernel) ⟨Nat.le_of_ble_eq_true rfl, Nat.le_of_ble_eq_true rfl⟩) (pv_of hPc hKc hDc (va_recv hKc hPc (ci := 11) (q0 := 0) rfl rfl)) rfl rfl hl.1 rfl (lv_room (Nat.le_of_ble_eq_true rfl)) d_Vt_letter_2 ⟨by decide, by decide⟩) hS (fun q _ h => hFc q h) hFc (fun r_1 u t H1 locs ht hvm hw hB hz1 hk1 hS => ?_)
  subst hw
  obtain ⟨hP1, hK1, hD1⟩ := hB
  rw [ht] at hP1
  have hP1 : va_P (dC, dI) classes [(v0, .inr (11, [.ref h0, .ref t0, .ref b0, .ref e0, .ref r0, .ref d0, .ref g0, .ref u0, .ref i0, .ref fa, .ref fw, .int fs, .int he, .int sta, .int lf, .int hru])), (i0, .inr (6, [.ref h0, .int se])), (h0, .inr (0, [.int sec, .ref h1, .int pw])), (h1, .inl (cB, n, .inl f))] H1 := hP1
  have hD1 : va_D _ [(v0, .inr (11, [.ref h0, .ref t0, .ref b0, .ref e0, .ref r0, .ref d0, .ref g0, .ref u0, .ref i0, .ref fa, .ref fw, .int fs, .int he, .int sta, .int lf, .int hru])), (i0, .inr (6, [.ref h0, .int se])), (h0, .inr (0, [.int sec, .ref h1, .int pw])), (h1, .inl (cB, n, .inl f))] := hD1
  obtain ⟨hP, hD⟩ := va_join (wr := []) (w1 := [(v0, .inr (11, [.ref h0, .ref t0, .ref b0, .ref e0, .ref r0, .ref d0, .ref g0, .ref u0, .ref i0, .ref fa, .ref fw, .int fs, .int he, .int sta, .int lf, .int hru])), (i0, .inr (6, [.ref h0, .int se])), (h0, .inr (0, [.int sec, .ref h1, .int pw])), (h1, .inl (cB, n, .inl f))]) hP hD [0, 1, 2, 3] [] rfl rfl (by decide) (by decide) hk1 hFc hP1 hD1
  generalize H1 = H at hP hS ⊢
  have hP : va_P (dC, dI) classes [(v0, .inr (11, [.ref h0, .ref t0, .ref b0, .ref e0, .ref r0, .ref d0, .ref g0, .ref u0, .ref i0, .ref fa, .ref fw, .int fs, .int he, .int sta, .int lf, .int hru])), (i0, .inr (6, [.ref h0, .int se])), (h0, .inr (0, [.int sec, .ref h1, .int pw])), (h1, .inl (cB, n, .inl f))] H := hP
  have hD : va_D A [(v0, .inr (11, [.ref h0, .ref t0, .ref b0, .ref e0, .ref r0, .ref d0, .ref g0, .ref u0, .ref i0, .ref fa, .ref fw, .int fs, .int he, .int sta, .int lf, .int hru])), (i0, .inr (6, [.ref h0, .int se])), (h0, .inr (0, [.int sec, .ref h1, .int pw])), (h1, .inl (cB, n, .inl f))] := hD
  have hPc := hP.sub (ws' := [(v0, .inr (11, [.ref h0, .ref t0, .ref b0, .ref e0, .ref r0, .ref d0, .ref g0, .ref u0, .ref i0, .ref fa, .ref fw, .int fs, .int he, .int sta, .int lf, .int hru]))]) [0] rfl
  have hDc := hD.sub (ws' := [(v0, .inr (11, [.ref h0, .ref t0, .ref b0, .ref e0, .ref r0, .ref d0, .ref g0, .ref u0, .ref i0, .ref fa, .ref fw, .int fs, .int he, .int sta, .int lf, .int hru]))]) [0] (by decide) rfl
  have hKc := hK.sub (tys' := []) [] rfl
  have hFc := va_free (wc := [(v0, .inr (11, [.ref h0, .ref t0, .ref b0, .ref e0, .ref r0, .ref d0, .ref g0, .ref u0, .ref i0, .ref fa, .ref fw, .int fs, .int he, .int sta, .int lf, .int hru]))]) hD hS hA [0] rfl
  refine va_calli (va_runV (As := [.int 2]) (rest := []) ⟨hx, hb, hml, hown, hts⟩ (c_Vt_readsInodes2 l dC dI v0 H.size h0 t0 b0 e0 r0 d0 g0 u0 i0 fa fw fs he sta lf hru) (cwV 1 hts (gwV good_Vt (k_Vt_111) (k_Vt_112) (k_Vt_215) (k_Vt_0) (wcs (k_Vt_113) (fun _ h => h))) rfl rfl rfl (by decide +kernel) ⟨Nat.le_of_ble_eq_true rfl, Nat.le_of_ble_eq_true rfl⟩) (pv_of hPc hKc hDc (va_recv hKc hPc (ci := 11) (q0 := 0) rfl rfl)) rfl rfl hl.1 rfl (lv_room (Nat.le_of_ble_eq_true rfl)) d_Vt_letter_5 ⟨by decide, by decide⟩) hS (fun q _ h => hFc q h) hFc (fun r_2 u t H1 locs ht hvm hw hB hz1 hk1 hS => ?_)
  subst hw
  obtain ⟨hP1, hK1, hD1⟩ := hB
  rw [ht] at hP1
  have hP1 : va_P (dC, dI) classes [(v0, .inr (11, [.ref h0, .ref t0, .ref b0, .ref e0, .ref r0, .ref d0, .ref g0, .ref u0, .ref i0, .ref fa, .ref fw, .int fs, .int he, .int sta, .int lf, .int hru]))] H1 := hP1
  have hD1 : va_D _ [(v0, .inr (11, [.ref h0, .ref t0, .ref b0, .ref e0, .ref r0, .ref d0, .ref g0, .ref u0, .ref i0, .ref fa, .ref fw, .int fs, .int he, .int sta, .int lf, .int hru]))] := hD1
  obtain ⟨hP, hD⟩ := va_join (wr := [(i0, .inr (6, [.ref h0, .int se])), (h0, .inr (0, [.int sec, .ref h1, .int pw])), (h1, .inl (cB, n, .inl f))]) (w1 := [(v0, .inr (11, [.ref h0, .ref t0, .ref b0, .ref e0, .ref r0, .ref d0, .ref g0, .ref u0, .ref i0, .ref fa, .ref fw, .int fs, .int he, .int sta, .int lf, .int hru]))]) hP hD [0] [1, 2, 3] rfl rfl (by decide) (by decide) hk1 hFc hP1 hD1
  generalize H1 = H at hP hS ⊢
  have hP : va_P (dC, dI) classes [(i0, .inr (6, [.ref h0, .int se])), (h0, .inr (0, [.int sec, .ref h1, .int pw])), (h1, .inl (cB, n, .inl f)), (v0, .inr (11, [.ref h0, .ref t0, .ref b0, .ref e0, .ref r0, .ref d0, .ref g0, .ref u0, .ref i0, .ref fa, .ref fw, .int fs, .int he, .int sta, .int lf, .int hru]))] H := hP
  have hD : va_D A [(i0, .inr (6, [.ref h0, .int se])), (h0, .inr (0, [.int sec, .ref h1, .int pw])), (h1, .inl (cB, n, .inl f)), (v0, .inr (11, [.ref h0, .ref t0, .ref b0, .ref e0, .ref r0, .ref d0, .ref g0, .ref u0, .ref i0, .ref fa, .ref fw, .int fs, .int he, .int sta, .int lf, .int hru]))] := hD
  refine lv_if_eq (tgt := 25) hx hb d_Vt_letter_8 (by decide) (fun c_3 => ?_) (fun c_3 => ?_)
  · exact absurd c_3 (by decide)
  · refine lv_aload_n hx hb d_Vt_letter_11 rfl (lv_at hl 0 rfl) ?_
    refine va_get (D := (dC, dI)) (ci := 11) (v := .ref i0) (C := R_Vt) (T := F_Vt) (N := 16) hx hb hts i_Vt hown hK hP 3 rfl rfl 8 (by decide) (hts _ (k_Vt_37)) (fun _ h9 => h9) rfl d_Vt_letter_12 ?_
    refine lv_aload_n hx hb d_Vt_letter_15 rfl (lv_at hl 0 rfl) ?_
    refine lv_iload_n hx hb d_Vt_letter_16 rfl (lv_at hl 1 rfl) ?_
    have hPc := hP.sub (ws' := [(v0, .inr (11, [.ref h0, .ref t0, .ref b0, .ref e0, .ref r0, .ref d0, .ref g0, .ref u0, .ref i0, .ref fa, .ref fw, .int fs, .int he, .int sta, .int lf, .int hru])), (i0, .inr (6, [.ref h0, .int se])), (h0, .inr (0, [.int sec, .ref h1, .int pw])), (h1, .inl (cB, n, .inl f))]) [3, 0, 1, 2] rfl
    have hDc := hD.sub (ws' := [(v0, .inr (11, [.ref h0, .ref t0, .ref b0, .ref e0, .ref r0, .ref d0, .ref g0, .ref u0, .ref i0, .ref fa, .ref fw, .int fs, .int he, .int sta, .int lf, .int hru])), (i0, .inr (6, [.ref h0, .int se])), (h0, .inr (0, [.int sec, .ref h1, .int pw])), (h1, .inl (cB, n, .inl f))]) [3, 0, 1, 2] (by decide) rfl
    have hKc := hK.sub (tys' := [(cB, .byte)]) [0] rfl
    have hFc := va_free (wc := [(v0, .inr (11, [.ref h0, .ref t0, .ref b0, .ref e0, .ref r0, .ref d0, .ref g0, .ref u0, .ref i0, .ref fa, .ref fw, .int fs, .int he, .int sta, .int lf, .int hru])), (i0, .inr (6, [.ref h0, .int se])), (h0, .inr (0, [.int sec, .ref h1, .int pw])), (h1, .inl (cB, n, .inl f))]) hD hS hA [3, 0, 1, 2] rfl
    exact x_outV (n := 1) (As := [.int p1]) (rest := [.ref i0]) (b := v0) (st0 := [.int p1, .ref v0, .ref i0]) ⟨hx, hb, hml, hown, hts⟩ (cx_Vt_entryHereA l hfl dC dI v0 H.size h0 t0 b0 e0 r0 d0 g0 u0 i0 fa fw fs he sta lf hru se h1 cB sec pw n f h4 hn p1 hkA) (cwV 1 hts (gwV good_Vt (k_Vt_122) (k_Vt_123) (k_Vt_218) (k_Vt_0) (wcs (k_Vt_124) (fun _ h => h))) rfl rfl rfl (by decide +kernel) ⟨Nat.le_of_ble_eq_true rfl, Nat.le_of_ble_eq_true rfl⟩) (pv_ofE (fun U V z1 z2 z => x_T.same x_allI z1 z2 z) (fun U z1 z2 => x_T.at x_allI hE z2 (by rw [z1]; exact x_kept.ofS hP0 hAe hS)) hPc hKc hDc (va_recv hKc hPc (ci := 11) (q0 := 0) rfl rfl)) rfl hl.1 rfl (Nat.le_of_ble_eq_true rfl) d_Vt_letter_17 ⟨by decide, by decide⟩ hlocks hout ⟨by decide, by decide⟩ (fun E st t U z1 z2 z3 z4 z5 => x_outQ (wr := []) (w1 := [(v0, .inr (11, [.ref h0, .ref t0, .ref b0, .ref e0, .ref r0, .ref d0, .ref g0, .ref u0, .ref i0, .ref fa, .ref fw, .int fs, .int he, .int sta, .int lf, .int hru])), (i0, .inr (6, [.ref h0, .int se])), (h0, .inr (0, [.int sec, .ref h1, .int pw])), (h1, .inl (cB, n, .inl f))]) hS hP hD hK [3, 0, 1, 2] [] rfl rfl (by decide) (by decide) hFc z1 z3 z4 z5) ⟨hS.2.2, fun z h => hFc z h⟩
set_option maxHeartbeats 4000000 in
set_option maxRecDepth 100000 in
/-- content of no such item in an inode volume -/
theorem cx_Vt_content2A (l : Launch) (hfl : l.flags = pinnedFlags ++ [noTraceFlag]) (dC : Nat → ClassId) (dI : Nat → Nat → Nat) (v0 sz h0 t0 b0 e0 r0 d0 g0 u0 i0 fa fw : Nat) (fs he sta lf hru : Int32) (se : Int32) (h1 : Nat) (cB : ClassId) (sec pw : Int32) (n : Nat) (f : Nat → Int32) (h4 : 4 ≤ n) (hn : n < 2 ^ 31) (hit : in_there n f = 1) (p1 : Int32) (hkA : p1 < 0) (p2 : Int32) : MetX l y_Vt_content (.code y_Vt_content b_Vt_content 4 (some .int) :: V_Vt) ({ frames := 7, cells := 1, slots := 6, locals := 129 }) (va_Pc [.ref v0, .int p1, .int p2] (fun U => U.heap.size = sz ∧ at_ (dC, dI) (fun _ => True) [(v0, .inr (11, [.ref h0, .ref t0, .ref b0, .ref e0, .ref r0, .ref d0, .ref g0, .ref u0, .ref i0, .ref fa, .ref fw, .int fs, .int he, .int sta, .int lf, .int hru])), (i0, .inr (6, [.ref h0, .int se])), (h0, .inr (0, [.int sec, .ref h1, .int pw])), (h1, .inl (cB, n, .inl f))] [(cB, .byte)] U ∧ x_T R_Vt 341 "java/lang/IndexOutOfBoundsException" 339 "no such item" U)) (fun _ _ _ _ => False) (x_Q "java/lang/IndexOutOfBoundsException" (va_A [(v0, .inr (11, [.ref h0, .ref t0, .ref b0, .ref e0, .ref r0, .ref d0, .ref g0, .ref u0, .ref i0, .ref fa, .ref fw, .int fs, .int he, .int sta, .int lf, .int hru])), (i0, .inr (6, [.ref h0, .int se])), (h0, .inr (0, [.int sec, .ref h1, .int pw])), (h1, .inl (cB, n, .inl f))] sz) (at_ (dC, dI) (va_A [(v0, .inr (11, [.ref h0, .ref t0, .ref b0, .ref e0, .ref r0, .ref d0, .ref g0, .ref u0, .ref i0, .ref fa, .ref fw, .int fs, .int he, .int sta, .int lf, .int hru])), (i0, .inr (6, [.ref h0, .int se])), (h0, .inr (0, [.int sec, .ref h1, .int pw])), (h1, .inl (cB, n, .inl f))] sz) [(v0, .inr (11, [.ref h0, .ref t0, .ref b0, .ref e0, .ref r0, .ref d0, .ref g0, .ref u0, .ref i0, .ref fa, .ref fw, .int fs, .int he, .int sta, .int lf, .int hru])), (i0, .inr (6, [.ref h0, .int se])), (h0, .inr (0, [.int sec, .ref h1, .int pw])), (h1, .inl (cB, n, .inl f))] [(cB, .byte)])) 1 6 (va_A [(v0, .inr (11, [.ref h0, .ref t0, .ref b0, .ref e0, .ref r0, .ref d0, .ref g0, .ref u0, .ref i0, .ref fa, .ref fw, .int fs, .int he, .int sta, .int lf, .int hru])), (i0, .inr (6, [.ref h0, .int se])), (h0, .inr (0, [.int sec, .ref h1, .int pw])), (h1, .inl (cB, n, .inl f))] sz) := by
  refine MetX.ofW (cc := b_Vt_content) (maxL := 4) (ret := (some .int)) (by decide) rfl ?_
  intro p e s m args below meth c s₁ B hml hv
  obtain ⟨rfl, hsz, ⟨hP, hK, hD0⟩, hE⟩ := hv
  have hx := B.exec
  have hb := B.bytes
  have hr := B.returns
  have hts0 := atoms_spec (ws := .code y_Vt_content b_Vt_content 4 (some .int) :: V_Vt) B.pre
  have hts : ∀ w ∈ V_Vt, w.before ([.ref v0, .int p1, .int p2] : List Value).toArray s = true := fun w h => hts0 w (List.mem_cons_of_mem _ h)
  have hown : s.vm.findClass R_Vt = some m.cls := findClass_of_methodNamed B.named
  have hlocks := B.notSynchronized
  subst hsz
  have hD := hD0.self (sz := s.heap.size)
  generalize hAe : va_A [(v0, .inr (11, [.ref h0, .ref t0, .ref b0, .ref e0, .ref r0, .ref d0, .ref g0, .ref u0, .ref i0, .ref fa, .ref fw, .int fs, .int he, .int sta, .int lf, .int hru])), (i0, .inr (6, [.ref h0, .int se])), (h0, .inr (0, [.int sec, .ref h1, .int pw])), (h1, .inl (cB, n, .inl f))] s.heap.size = A at hD ⊢
  have hA : ∀ q : Nat, s.heap.size ≤ q → A q := fun q h => by rw [← hAe]; exact Or.inr h
  have hS : va_S A s.heap s.heap [] := va_S.rf
  have hP : va_P (dC, dI) classes [(v0, .inr (11, [.ref h0, .ref t0, .ref b0, .ref e0, .ref r0, .ref d0, .ref g0, .ref u0, .ref i0, .ref fa, .ref fw, .int fs, .int he, .int sta, .int lf, .int hru])), (i0, .inr (6, [.ref h0, .int se])), (h0, .inr (0, [.int sec, .ref h1, .int pw])), (h1, .inl (cB, n, .inl f))] s.heap := hP
  have hK : va_K (dC, dI) classes [(cB, .byte)] s := hK
  have hP0 := hP
  have hout := x_table B (hts0 _ List.mem_cons_self)
  have hl := lv_entry ([.ref v0, .int p1, .int p2]) (n := 4) (Nat.le_of_ble_eq_true rfl)
  rw [lg_entry_eq]
  generalize (lg_sl ([.ref v0, .int p1, .int p2]) ++ List.replicate (4 - (lg_sl ([.ref v0, .int p1, .int p2])).length) Slot.unset).toArray = ls at hl ⊢
  have hl : lv_has ls 4 [(0, .ref v0), (1, .int p1), (2, .int p2)] := hl
  refine lv_aload_n hx hb d_Vt_content_0 rfl (lv_at hl 0 rfl) ?_
  refine lv_aload_n hx hb d_Vt_content_1 rfl (lv_at hl 0 rfl) ?_
  have hPc := hP.sub (ws' := [(v0, .inr (11, [.ref h0, .ref t0, .ref b0, .ref e0, .ref r0, .ref d0, .ref g0, .ref u0, .ref i0, .ref fa, .ref fw, .int fs, .int he, .int sta, .int lf, .int hru])), (i0, .inr (6, [.ref h0, .int se])), (h0, .inr (0, [.int sec, .ref h1, .int pw])), (h1, .inl (cB, n, .inl f))]) [0, 1, 2, 3] rfl
  have hDc := hD.sub (ws' := [(v0, .inr (11, [.ref h0, .ref t0, .ref b0, .ref e0, .ref r0, .ref d0, .ref g0, .ref u0, .ref i0, .ref fa, .ref fw, .int fs, .int he, .int sta, .int lf, .int hru])), (i0, .inr (6, [.ref h0, .int se])), (h0, .inr (0, [.int sec, .ref h1, .int pw])), (h1, .inl (cB, n, .inl f))]) [0, 1, 2, 3] (by decide) rfl
  have hKc := hK.sub (tys' := [(cB, .byte)]) [0] rfl
  have hFc := va_free (wc := [(v0, .inr (11, [.ref h0, .ref t0, .ref b0, .ref e0, .ref r0, .ref d0, .ref g0, .ref u0, .ref i0, .ref fa, .ref fw, .int fs, .int he, .int sta, .int lf, .int hru])), (i0, .inr (6, [.ref h0, .int se])), (h0, .inr (0, [.int sec, .ref h1, .int pw])), (h1, .inl (cB, n, .inl f))]) hD hS hA [0, 1, 2, 3] rfl
  refine va_calli (va_runV (As := []) (rest := [.ref v0]) ⟨hx, hb, hml, hown, hts⟩ (c_Vt_look2 l dC dI v0 s.heap.size h0 t0 b0 e0 r0 d0 g0 u0 i0 fa fw fs he sta lf hru se h1 cB sec pw n f h4 hn hit) (cwV 0 hts (gwV good_Vt (k_Vt_68) (k_Vt_69) (k_Vt_214) (k_Vt_0) (wcs (k_Vt_70) (fun _ h => h))) rfl rfl rfl (by decide +kernel) ⟨Nat.le_of_ble_eq_true rfl, Nat.le_of_ble_eq_true rfl⟩) (pv_of hPc hKc hDc (va_recv hKc hPc (ci := 11) (q0 := 0) rfl rfl)) rfl rfl hl.1 rfl (lv_room (Nat.le_of_ble_eq_true rfl)) d_Vt_content_2 ⟨by decide, by decide⟩) hS (fun q _ h => hFc q h) hFc (fun r_1 u t H1 locs ht hvm hw hB hz1 hk1 hS => ?_)
  subst hw
  obtain ⟨hP1, hK1, hD1⟩ := hB
  rw [ht] at hP1
  have hP1 : va_P (dC, dI) classes [(v0, .inr (11, [.ref h0, .ref t0, .ref b0, .ref e0, .ref r0, .ref d0, .ref g0, .ref u0, .ref i0, .ref fa, .ref fw, .int fs, .int he, .int sta, .int lf, .int hru])), (i0, .inr (6, [.ref h0, .int se])), (h0, .inr (0, [.int sec, .ref h1, .int pw])), (h1, .inl (cB, n, .inl f))] H1 := hP1
  have hD1 : va_D _ [(v0, .inr (11, [.ref h0, .ref t0, .ref b0, .ref e0, .ref r0, .ref d0, .ref g0, .ref u0, .ref i0, .ref fa, .ref fw, .int fs, .int he, .int sta, .int lf, .int hru])), (i0, .inr (6, [.ref h0, .int se])), (h0, .inr (0, [.int sec, .ref h1, .int pw])), (h1, .inl (cB, n, .inl f))] := hD1
  obtain ⟨hP, hD⟩ := va_join (wr := []) (w1 := [(v0, .inr (11, [.ref h0, .ref t0, .ref b0, .ref e0, .ref r0, .ref d0, .ref g0, .ref u0, .ref i0, .ref fa, .ref fw, .int fs, .int he, .int sta, .int lf, .int hru])), (i0, .inr (6, [.ref h0, .int se])), (h0, .inr (0, [.int sec, .ref h1, .int pw])), (h1, .inl (cB, n, .inl f))]) hP hD [0, 1, 2, 3] [] rfl rfl (by decide) (by decide) hk1 hFc hP1 hD1
  generalize H1 = H at hP hS ⊢
  have hP : va_P (dC, dI) classes [(v0, .inr (11, [.ref h0, .ref t0, .ref b0, .ref e0, .ref r0, .ref d0, .ref g0, .ref u0, .ref i0, .ref fa, .ref fw, .int fs, .int he, .int sta, .int lf, .int hru])), (i0, .inr (6, [.ref h0, .int se])), (h0, .inr (0, [.int sec, .ref h1, .int pw])), (h1, .inl (cB, n, .inl f))] H := hP
  have hD : va_D A [(v0, .inr (11, [.ref h0, .ref t0, .ref b0, .ref e0, .ref r0, .ref d0, .ref g0, .ref u0, .ref i0, .ref fa, .ref fw, .int fs, .int he, .int sta, .int lf, .int hru])), (i0, .inr (6, [.ref h0, .int se])), (h0, .inr (0, [.int sec, .ref h1, .int pw])), (h1, .inl (cB, n, .inl f))] := hD
  have hPc := hP.sub (ws' := [(v0, .inr (11, [.ref h0, .ref t0, .ref b0, .ref e0, .ref r0, .ref d0, .ref g0, .ref u0, .ref i0, .ref fa, .ref fw, .int fs, .int he, .int sta, .int lf, .int hru]))]) [0] rfl
  have hDc := hD.sub (ws' := [(v0, .inr (11, [.ref h0, .ref t0, .ref b0, .ref e0, .ref r0, .ref d0, .ref g0, .ref u0, .ref i0, .ref fa, .ref fw, .int fs, .int he, .int sta, .int lf, .int hru]))]) [0] (by decide) rfl
  have hKc := hK.sub (tys' := []) [] rfl
  have hFc := va_free (wc := [(v0, .inr (11, [.ref h0, .ref t0, .ref b0, .ref e0, .ref r0, .ref d0, .ref g0, .ref u0, .ref i0, .ref fa, .ref fw, .int fs, .int he, .int sta, .int lf, .int hru]))]) hD hS hA [0] rfl
  refine va_calli (va_runV (As := [.int 2]) (rest := []) ⟨hx, hb, hml, hown, hts⟩ (c_Vt_readsInodes2 l dC dI v0 H.size h0 t0 b0 e0 r0 d0 g0 u0 i0 fa fw fs he sta lf hru) (cwV 1 hts (gwV good_Vt (k_Vt_111) (k_Vt_112) (k_Vt_215) (k_Vt_0) (wcs (k_Vt_113) (fun _ h => h))) rfl rfl rfl (by decide +kernel) ⟨Nat.le_of_ble_eq_true rfl, Nat.le_of_ble_eq_true rfl⟩) (pv_of hPc hKc hDc (va_recv hKc hPc (ci := 11) (q0 := 0) rfl rfl)) rfl rfl hl.1 rfl (lv_room (Nat.le_of_ble_eq_true rfl)) d_Vt_content_5 ⟨by decide, by decide⟩) hS (fun q _ h => hFc q h) hFc (fun r_2 u t H1 locs ht hvm hw hB hz1 hk1 hS => ?_)
  subst hw
  obtain ⟨hP1, hK1, hD1⟩ := hB
  rw [ht] at hP1
  have hP1 : va_P (dC, dI) classes [(v0, .inr (11, [.ref h0, .ref t0, .ref b0, .ref e0, .ref r0, .ref d0, .ref g0, .ref u0, .ref i0, .ref fa, .ref fw, .int fs, .int he, .int sta, .int lf, .int hru]))] H1 := hP1
  have hD1 : va_D _ [(v0, .inr (11, [.ref h0, .ref t0, .ref b0, .ref e0, .ref r0, .ref d0, .ref g0, .ref u0, .ref i0, .ref fa, .ref fw, .int fs, .int he, .int sta, .int lf, .int hru]))] := hD1
  obtain ⟨hP, hD⟩ := va_join (wr := [(i0, .inr (6, [.ref h0, .int se])), (h0, .inr (0, [.int sec, .ref h1, .int pw])), (h1, .inl (cB, n, .inl f))]) (w1 := [(v0, .inr (11, [.ref h0, .ref t0, .ref b0, .ref e0, .ref r0, .ref d0, .ref g0, .ref u0, .ref i0, .ref fa, .ref fw, .int fs, .int he, .int sta, .int lf, .int hru]))]) hP hD [0] [1, 2, 3] rfl rfl (by decide) (by decide) hk1 hFc hP1 hD1
  generalize H1 = H at hP hS ⊢
  have hP : va_P (dC, dI) classes [(i0, .inr (6, [.ref h0, .int se])), (h0, .inr (0, [.int sec, .ref h1, .int pw])), (h1, .inl (cB, n, .inl f)), (v0, .inr (11, [.ref h0, .ref t0, .ref b0, .ref e0, .ref r0, .ref d0, .ref g0, .ref u0, .ref i0, .ref fa, .ref fw, .int fs, .int he, .int sta, .int lf, .int hru]))] H := hP
  have hD : va_D A [(i0, .inr (6, [.ref h0, .int se])), (h0, .inr (0, [.int sec, .ref h1, .int pw])), (h1, .inl (cB, n, .inl f)), (v0, .inr (11, [.ref h0, .ref t0, .ref b0, .ref e0, .ref r0, .ref d0, .ref g0, .ref u0, .ref i0, .ref fa, .ref fw, .int fs, .int he, .int sta, .int lf, .int hru]))] := hD
  refine lv_if_eq (tgt := 25) hx hb d_Vt_content_8 (by decide) (fun c_3 => ?_) (fun c_3 => ?_)
  · exact absurd c_3 (by decide)
  · refine lv_aload_n hx hb d_Vt_content_11 rfl (lv_at hl 0 rfl) ?_
    refine va_get (D := (dC, dI)) (ci := 11) (v := .ref i0) (C := R_Vt) (T := F_Vt) (N := 16) hx hb hts i_Vt hown hK hP 3 rfl rfl 8 (by decide) (hts _ (k_Vt_37)) (fun _ h9 => h9) rfl d_Vt_content_12 ?_
    refine lv_aload_n hx hb d_Vt_content_15 rfl (lv_at hl 0 rfl) ?_
    refine lv_iload_n hx hb d_Vt_content_16 rfl (lv_at hl 1 rfl) ?_
    have hPc := hP.sub (ws' := [(v0, .inr (11, [.ref h0, .ref t0, .ref b0, .ref e0, .ref r0, .ref d0, .ref g0, .ref u0, .ref i0, .ref fa, .ref fw, .int fs, .int he, .int sta, .int lf, .int hru])), (i0, .inr (6, [.ref h0, .int se])), (h0, .inr (0, [.int sec, .ref h1, .int pw])), (h1, .inl (cB, n, .inl f))]) [3, 0, 1, 2] rfl
    have hDc := hD.sub (ws' := [(v0, .inr (11, [.ref h0, .ref t0, .ref b0, .ref e0, .ref r0, .ref d0, .ref g0, .ref u0, .ref i0, .ref fa, .ref fw, .int fs, .int he, .int sta, .int lf, .int hru])), (i0, .inr (6, [.ref h0, .int se])), (h0, .inr (0, [.int sec, .ref h1, .int pw])), (h1, .inl (cB, n, .inl f))]) [3, 0, 1, 2] (by decide) rfl
    have hKc := hK.sub (tys' := [(cB, .byte)]) [0] rfl
    have hFc := va_free (wc := [(v0, .inr (11, [.ref h0, .ref t0, .ref b0, .ref e0, .ref r0, .ref d0, .ref g0, .ref u0, .ref i0, .ref fa, .ref fw, .int fs, .int he, .int sta, .int lf, .int hru])), (i0, .inr (6, [.ref h0, .int se])), (h0, .inr (0, [.int sec, .ref h1, .int pw])), (h1, .inl (cB, n, .inl f))]) hD hS hA [3, 0, 1, 2] rfl
    exact x_outV (n := 1) (As := [.int p1]) (rest := [.ref i0]) (b := v0) (st0 := [.int p1, .ref v0, .ref i0]) ⟨hx, hb, hml, hown, hts⟩ (cx_Vt_entryHereA l hfl dC dI v0 H.size h0 t0 b0 e0 r0 d0 g0 u0 i0 fa fw fs he sta lf hru se h1 cB sec pw n f h4 hn p1 hkA) (cwV 1 hts (gwV good_Vt (k_Vt_122) (k_Vt_123) (k_Vt_218) (k_Vt_0) (wcs (k_Vt_124) (fun _ h => h))) rfl rfl rfl (by decide +kernel) ⟨Nat.le_of_ble_eq_true rfl, Nat.le_of_ble_eq_true rfl⟩) (pv_ofE (fun U V z1 z2 z => x_T.same x_allI z1 z2 z) (fun U z1 z2 => x_T.at x_allI hE z2 (by rw [z1]; exact x_kept.ofS hP0 hAe hS)) hPc hKc hDc (va_recv hKc hPc (ci := 11) (q0 := 0) rfl rfl)) rfl hl.1 rfl (Nat.le_of_ble_eq_true rfl) d_Vt_content_17 ⟨by decide, by decide⟩ hlocks hout ⟨by decide, by decide⟩ (fun E st t U z1 z2 z3 z4 z5 => x_outQ (wr := []) (w1 := [(v0, .inr (11, [.ref h0, .ref t0, .ref b0, .ref e0, .ref r0, .ref d0, .ref g0, .ref u0, .ref i0, .ref fa, .ref fw, .int fs, .int he, .int sta, .int lf, .int hru])), (i0, .inr (6, [.ref h0, .int se])), (h0, .inr (0, [.int sec, .ref h1, .int pw])), (h1, .inl (cB, n, .inl f))]) hS hP hD hK [3, 0, 1, 2] [] rfl rfl (by decide) (by decide) hFc z1 z3 z4 z5) ⟨hS.2.2, fun z h => hFc z h⟩
set_option maxHeartbeats 4000000 in
set_option maxRecDepth 100000 in
/-- about of no such item in an inode volume -/
theorem cx_Vt_about2A (l : Launch) (hfl : l.flags = pinnedFlags ++ [noTraceFlag]) (dC : Nat → ClassId) (dI : Nat → Nat → Nat) (v0 sz h0 t0 b0 e0 r0 d0 g0 u0 i0 fa fw : Nat) (fs he sta lf hru : Int32) (se : Int32) (h1 : Nat) (cB : ClassId) (sec pw : Int32) (n : Nat) (f : Nat → Int32) (h4 : 4 ≤ n) (hn : n < 2 ^ 31) (hit : in_there n f = 1) (p1 : Int32) (hkA : p1 < 0) (p2 : Int32) : MetX l y_Vt_about (.code y_Vt_about b_Vt_about 5 (some .long) :: V_Vt) ({ frames := 7, cells := 1, slots := 6, locals := 129 }) (va_Pc [.ref v0, .int p1, .int p2] (fun U => U.heap.size = sz ∧ at_ (dC, dI) (fun _ => True) [(v0, .inr (11, [.ref h0, .ref t0, .ref b0, .ref e0, .ref r0, .ref d0, .ref g0, .ref u0, .ref i0, .ref fa, .ref fw, .int fs, .int he, .int sta, .int lf, .int hru])), (i0, .inr (6, [.ref h0, .int se])), (h0, .inr (0, [.int sec, .ref h1, .int pw])), (h1, .inl (cB, n, .inl f))] [(cB, .byte)] U ∧ x_T R_Vt 341 "java/lang/IndexOutOfBoundsException" 339 "no such item" U)) (fun _ _ _ _ => False) (x_Q "java/lang/IndexOutOfBoundsException" (va_A [(v0, .inr (11, [.ref h0, .ref t0, .ref b0, .ref e0, .ref r0, .ref d0, .ref g0, .ref u0, .ref i0, .ref fa, .ref fw, .int fs, .int he, .int sta, .int lf, .int hru])), (i0, .inr (6, [.ref h0, .int se])), (h0, .inr (0, [.int sec, .ref h1, .int pw])), (h1, .inl (cB, n, .inl f))] sz) (at_ (dC, dI) (va_A [(v0, .inr (11, [.ref h0, .ref t0, .ref b0, .ref e0, .ref r0, .ref d0, .ref g0, .ref u0, .ref i0, .ref fa, .ref fw, .int fs, .int he, .int sta, .int lf, .int hru])), (i0, .inr (6, [.ref h0, .int se])), (h0, .inr (0, [.int sec, .ref h1, .int pw])), (h1, .inl (cB, n, .inl f))] sz) [(v0, .inr (11, [.ref h0, .ref t0, .ref b0, .ref e0, .ref r0, .ref d0, .ref g0, .ref u0, .ref i0, .ref fa, .ref fw, .int fs, .int he, .int sta, .int lf, .int hru])), (i0, .inr (6, [.ref h0, .int se])), (h0, .inr (0, [.int sec, .ref h1, .int pw])), (h1, .inl (cB, n, .inl f))] [(cB, .byte)])) 1 6 (va_A [(v0, .inr (11, [.ref h0, .ref t0, .ref b0, .ref e0, .ref r0, .ref d0, .ref g0, .ref u0, .ref i0, .ref fa, .ref fw, .int fs, .int he, .int sta, .int lf, .int hru])), (i0, .inr (6, [.ref h0, .int se])), (h0, .inr (0, [.int sec, .ref h1, .int pw])), (h1, .inl (cB, n, .inl f))] sz) := by
  refine MetX.ofW (cc := b_Vt_about) (maxL := 5) (ret := (some .long)) (by decide) rfl ?_
  intro p e s m args below meth c s₁ B hml hv
  obtain ⟨rfl, hsz, ⟨hP, hK, hD0⟩, hE⟩ := hv
  have hx := B.exec
  have hb := B.bytes
  have hr := B.returns
  have hts0 := atoms_spec (ws := .code y_Vt_about b_Vt_about 5 (some .long) :: V_Vt) B.pre
  have hts : ∀ w ∈ V_Vt, w.before ([.ref v0, .int p1, .int p2] : List Value).toArray s = true := fun w h => hts0 w (List.mem_cons_of_mem _ h)
  have hown : s.vm.findClass R_Vt = some m.cls := findClass_of_methodNamed B.named
  have hlocks := B.notSynchronized
  subst hsz
  have hD := hD0.self (sz := s.heap.size)
  generalize hAe : va_A [(v0, .inr (11, [.ref h0, .ref t0, .ref b0, .ref e0, .ref r0, .ref d0, .ref g0, .ref u0, .ref i0, .ref fa, .ref fw, .int fs, .int he, .int sta, .int lf, .int hru])), (i0, .inr (6, [.ref h0, .int se])), (h0, .inr (0, [.int sec, .ref h1, .int pw])), (h1, .inl (cB, n, .inl f))] s.heap.size = A at hD ⊢
  have hA : ∀ q : Nat, s.heap.size ≤ q → A q := fun q h => by rw [← hAe]; exact Or.inr h
  have hS : va_S A s.heap s.heap [] := va_S.rf
  have hP : va_P (dC, dI) classes [(v0, .inr (11, [.ref h0, .ref t0, .ref b0, .ref e0, .ref r0, .ref d0, .ref g0, .ref u0, .ref i0, .ref fa, .ref fw, .int fs, .int he, .int sta, .int lf, .int hru])), (i0, .inr (6, [.ref h0, .int se])), (h0, .inr (0, [.int sec, .ref h1, .int pw])), (h1, .inl (cB, n, .inl f))] s.heap := hP
  have hK : va_K (dC, dI) classes [(cB, .byte)] s := hK
  have hP0 := hP
  have hout := x_table B (hts0 _ List.mem_cons_self)
  have hl := lv_entry ([.ref v0, .int p1, .int p2]) (n := 5) (Nat.le_of_ble_eq_true rfl)
  rw [lg_entry_eq]
  generalize (lg_sl ([.ref v0, .int p1, .int p2]) ++ List.replicate (5 - (lg_sl ([.ref v0, .int p1, .int p2])).length) Slot.unset).toArray = ls at hl ⊢
  have hl : lv_has ls 5 [(0, .ref v0), (1, .int p1), (2, .int p2)] := hl
  refine lv_aload_n hx hb d_Vt_about_0 rfl (lv_at hl 0 rfl) ?_
  refine lv_aload_n hx hb d_Vt_about_1 rfl (lv_at hl 0 rfl) ?_
  have hPc := hP.sub (ws' := [(v0, .inr (11, [.ref h0, .ref t0, .ref b0, .ref e0, .ref r0, .ref d0, .ref g0, .ref u0, .ref i0, .ref fa, .ref fw, .int fs, .int he, .int sta, .int lf, .int hru])), (i0, .inr (6, [.ref h0, .int se])), (h0, .inr (0, [.int sec, .ref h1, .int pw])), (h1, .inl (cB, n, .inl f))]) [0, 1, 2, 3] rfl
  have hDc := hD.sub (ws' := [(v0, .inr (11, [.ref h0, .ref t0, .ref b0, .ref e0, .ref r0, .ref d0, .ref g0, .ref u0, .ref i0, .ref fa, .ref fw, .int fs, .int he, .int sta, .int lf, .int hru])), (i0, .inr (6, [.ref h0, .int se])), (h0, .inr (0, [.int sec, .ref h1, .int pw])), (h1, .inl (cB, n, .inl f))]) [0, 1, 2, 3] (by decide) rfl
  have hKc := hK.sub (tys' := [(cB, .byte)]) [0] rfl
  have hFc := va_free (wc := [(v0, .inr (11, [.ref h0, .ref t0, .ref b0, .ref e0, .ref r0, .ref d0, .ref g0, .ref u0, .ref i0, .ref fa, .ref fw, .int fs, .int he, .int sta, .int lf, .int hru])), (i0, .inr (6, [.ref h0, .int se])), (h0, .inr (0, [.int sec, .ref h1, .int pw])), (h1, .inl (cB, n, .inl f))]) hD hS hA [0, 1, 2, 3] rfl
  refine va_calli (va_runV (As := []) (rest := [.ref v0]) ⟨hx, hb, hml, hown, hts⟩ (c_Vt_look2 l dC dI v0 s.heap.size h0 t0 b0 e0 r0 d0 g0 u0 i0 fa fw fs he sta lf hru se h1 cB sec pw n f h4 hn hit) (cwV 0 hts (gwV good_Vt (k_Vt_68) (k_Vt_69) (k_Vt_214) (k_Vt_0) (wcs (k_Vt_70) (fun _ h => h))) rfl rfl rfl (by decide +kernel) ⟨Nat.le_of_ble_eq_true rfl, Nat.le_of_ble_eq_true rfl⟩) (pv_of hPc hKc hDc (va_recv hKc hPc (ci := 11) (q0 := 0) rfl rfl)) rfl rfl hl.1 rfl (lv_room (Nat.le_of_ble_eq_true rfl)) d_Vt_about_2 ⟨by decide, by decide⟩) hS (fun q _ h => hFc q h) hFc (fun r_1 u t H1 locs ht hvm hw hB hz1 hk1 hS => ?_)
  subst hw
  obtain ⟨hP1, hK1, hD1⟩ := hB
  rw [ht] at hP1
  have hP1 : va_P (dC, dI) classes [(v0, .inr (11, [.ref h0, .ref t0, .ref b0, .ref e0, .ref r0, .ref d0, .ref g0, .ref u0, .ref i0, .ref fa, .ref fw, .int fs, .int he, .int sta, .int lf, .int hru])), (i0, .inr (6, [.ref h0, .int se])), (h0, .inr (0, [.int sec, .ref h1, .int pw])), (h1, .inl (cB, n, .inl f))] H1 := hP1
  have hD1 : va_D _ [(v0, .inr (11, [.ref h0, .ref t0, .ref b0, .ref e0, .ref r0, .ref d0, .ref g0, .ref u0, .ref i0, .ref fa, .ref fw, .int fs, .int he, .int sta, .int lf, .int hru])), (i0, .inr (6, [.ref h0, .int se])), (h0, .inr (0, [.int sec, .ref h1, .int pw])), (h1, .inl (cB, n, .inl f))] := hD1
  obtain ⟨hP, hD⟩ := va_join (wr := []) (w1 := [(v0, .inr (11, [.ref h0, .ref t0, .ref b0, .ref e0, .ref r0, .ref d0, .ref g0, .ref u0, .ref i0, .ref fa, .ref fw, .int fs, .int he, .int sta, .int lf, .int hru])), (i0, .inr (6, [.ref h0, .int se])), (h0, .inr (0, [.int sec, .ref h1, .int pw])), (h1, .inl (cB, n, .inl f))]) hP hD [0, 1, 2, 3] [] rfl rfl (by decide) (by decide) hk1 hFc hP1 hD1
  generalize H1 = H at hP hS ⊢
  have hP : va_P (dC, dI) classes [(v0, .inr (11, [.ref h0, .ref t0, .ref b0, .ref e0, .ref r0, .ref d0, .ref g0, .ref u0, .ref i0, .ref fa, .ref fw, .int fs, .int he, .int sta, .int lf, .int hru])), (i0, .inr (6, [.ref h0, .int se])), (h0, .inr (0, [.int sec, .ref h1, .int pw])), (h1, .inl (cB, n, .inl f))] H := hP
  have hD : va_D A [(v0, .inr (11, [.ref h0, .ref t0, .ref b0, .ref e0, .ref r0, .ref d0, .ref g0, .ref u0, .ref i0, .ref fa, .ref fw, .int fs, .int he, .int sta, .int lf, .int hru])), (i0, .inr (6, [.ref h0, .int se])), (h0, .inr (0, [.int sec, .ref h1, .int pw])), (h1, .inl (cB, n, .inl f))] := hD
  have hPc := hP.sub (ws' := [(v0, .inr (11, [.ref h0, .ref t0, .ref b0, .ref e0, .ref r0, .ref d0, .ref g0, .ref u0, .ref i0, .ref fa, .ref fw, .int fs, .int he, .int sta, .int lf, .int hru]))]) [0] rfl
  have hDc := hD.sub (ws' := [(v0, .inr (11, [.ref h0, .ref t0, .ref b0, .ref e0, .ref r0, .ref d0, .ref g0, .ref u0, .ref i0, .ref fa, .ref fw, .int fs, .int he, .int sta, .int lf, .int hru]))]) [0] (by decide) rfl
  have hKc := hK.sub (tys' := []) [] rfl
  have hFc := va_free (wc := [(v0, .inr (11, [.ref h0, .ref t0, .ref b0, .ref e0, .ref r0, .ref d0, .ref g0, .ref u0, .ref i0, .ref fa, .ref fw, .int fs, .int he, .int sta, .int lf, .int hru]))]) hD hS hA [0] rfl
  refine va_calli (va_runV (As := [.int 2]) (rest := []) ⟨hx, hb, hml, hown, hts⟩ (c_Vt_readsInodes2 l dC dI v0 H.size h0 t0 b0 e0 r0 d0 g0 u0 i0 fa fw fs he sta lf hru) (cwV 1 hts (gwV good_Vt (k_Vt_111) (k_Vt_112) (k_Vt_215) (k_Vt_0) (wcs (k_Vt_113) (fun _ h => h))) rfl rfl rfl (by decide +kernel) ⟨Nat.le_of_ble_eq_true rfl, Nat.le_of_ble_eq_true rfl⟩) (pv_of hPc hKc hDc (va_recv hKc hPc (ci := 11) (q0 := 0) rfl rfl)) rfl rfl hl.1 rfl (lv_room (Nat.le_of_ble_eq_true rfl)) d_Vt_about_5 ⟨by decide, by decide⟩) hS (fun q _ h => hFc q h) hFc (fun r_2 u t H1 locs ht hvm hw hB hz1 hk1 hS => ?_)
  subst hw
  obtain ⟨hP1, hK1, hD1⟩ := hB
  rw [ht] at hP1
  have hP1 : va_P (dC, dI) classes [(v0, .inr (11, [.ref h0, .ref t0, .ref b0, .ref e0, .ref r0, .ref d0, .ref g0, .ref u0, .ref i0, .ref fa, .ref fw, .int fs, .int he, .int sta, .int lf, .int hru]))] H1 := hP1
  have hD1 : va_D _ [(v0, .inr (11, [.ref h0, .ref t0, .ref b0, .ref e0, .ref r0, .ref d0, .ref g0, .ref u0, .ref i0, .ref fa, .ref fw, .int fs, .int he, .int sta, .int lf, .int hru]))] := hD1
  obtain ⟨hP, hD⟩ := va_join (wr := [(i0, .inr (6, [.ref h0, .int se])), (h0, .inr (0, [.int sec, .ref h1, .int pw])), (h1, .inl (cB, n, .inl f))]) (w1 := [(v0, .inr (11, [.ref h0, .ref t0, .ref b0, .ref e0, .ref r0, .ref d0, .ref g0, .ref u0, .ref i0, .ref fa, .ref fw, .int fs, .int he, .int sta, .int lf, .int hru]))]) hP hD [0] [1, 2, 3] rfl rfl (by decide) (by decide) hk1 hFc hP1 hD1
  generalize H1 = H at hP hS ⊢
  have hP : va_P (dC, dI) classes [(i0, .inr (6, [.ref h0, .int se])), (h0, .inr (0, [.int sec, .ref h1, .int pw])), (h1, .inl (cB, n, .inl f)), (v0, .inr (11, [.ref h0, .ref t0, .ref b0, .ref e0, .ref r0, .ref d0, .ref g0, .ref u0, .ref i0, .ref fa, .ref fw, .int fs, .int he, .int sta, .int lf, .int hru]))] H := hP
  have hD : va_D A [(i0, .inr (6, [.ref h0, .int se])), (h0, .inr (0, [.int sec, .ref h1, .int pw])), (h1, .inl (cB, n, .inl f)), (v0, .inr (11, [.ref h0, .ref t0, .ref b0, .ref e0, .ref r0, .ref d0, .ref g0, .ref u0, .ref i0, .ref fa, .ref fw, .int fs, .int he, .int sta, .int lf, .int hru]))] := hD
  refine lv_istore_n (lv' := [(3, .int 1), (0, .ref v0), (1, .int p1), (2, .int p2)]) hx hb d_Vt_about_8 rfl hl (by decide) rfl (fun ls hl => ?_)
  refine lv_iload_n hx hb d_Vt_about_9 rfl (lv_at hl 0 rfl) ?_
  refine lv_if_eq (tgt := 21) hx hb d_Vt_about_10 (by decide) (fun c_3 => ?_) (fun c_3 => ?_)
  · exact absurd c_3 (by decide)
  · refine lv_aload_n hx hb d_Vt_about_13 rfl (lv_at hl 1 rfl) ?_
    refine lv_iload_n hx hb d_Vt_about_14 rfl (lv_at hl 2 rfl) ?_
    have hPc := hP.sub (ws' := [(v0, .inr (11, [.ref h0, .ref t0, .ref b0, .ref e0, .ref r0, .ref d0, .ref g0, .ref u0, .ref i0, .ref fa, .ref fw, .int fs, .int he, .int sta, .int lf, .int hru])), (i0, .inr (6, [.ref h0, .int se])), (h0, .inr (0, [.int sec, .ref h1, .int pw])), (h1, .inl (cB, n, .inl f))]) [3, 0, 1, 2] rfl
    have hDc := hD.sub (ws' := [(v0, .inr (11, [.ref h0, .ref t0, .ref b0, .ref e0, .ref r0, .ref d0, .ref g0, .ref u0, .ref i0, .ref fa, .ref fw, .int fs, .int he, .int sta, .int lf, .int hru])), (i0, .inr (6, [.ref h0, .int se])), (h0, .inr (0, [.int sec, .ref h1, .int pw])), (h1, .inl (cB, n, .inl f))]) [3, 0, 1, 2] (by decide) rfl
    have hKc := hK.sub (tys' := [(cB, .byte)]) [0] rfl
    have hFc := va_free (wc := [(v0, .inr (11, [.ref h0, .ref t0, .ref b0, .ref e0, .ref r0, .ref d0, .ref g0, .ref u0, .ref i0, .ref fa, .ref fw, .int fs, .int he, .int sta, .int lf, .int hru])), (i0, .inr (6, [.ref h0, .int se])), (h0, .inr (0, [.int sec, .ref h1, .int pw])), (h1, .inl (cB, n, .inl f))]) hD hS hA [3, 0, 1, 2] rfl
    exact x_outV (n := 1) (As := [.int p1]) (rest := []) (b := v0) (st0 := [.int p1, .ref v0]) ⟨hx, hb, hml, hown, hts⟩ (cx_Vt_entryHereA l hfl dC dI v0 H.size h0 t0 b0 e0 r0 d0 g0 u0 i0 fa fw fs he sta lf hru se h1 cB sec pw n f h4 hn p1 hkA) (cwV 1 hts (gwV good_Vt (k_Vt_122) (k_Vt_123) (k_Vt_218) (k_Vt_0) (wcs (k_Vt_124) (fun _ h => h))) rfl rfl rfl (by decide +kernel) ⟨Nat.le_of_ble_eq_true rfl, Nat.le_of_ble_eq_true rfl⟩) (pv_ofE (fun U V z1 z2 z => x_T.same x_allI z1 z2 z) (fun U z1 z2 => x_T.at x_allI hE z2 (by rw [z1]; exact x_kept.ofS hP0 hAe hS)) hPc hKc hDc (va_recv hKc hPc (ci := 11) (q0 := 0) rfl rfl)) rfl hl.1 rfl (by decide) d_Vt_about_15 ⟨by decide, by decide⟩ hlocks hout ⟨by decide, by decide⟩ (fun E st t U z1 z2 z3 z4 z5 => x_outQ (wr := []) (w1 := [(v0, .inr (11, [.ref h0, .ref t0, .ref b0, .ref e0, .ref r0, .ref d0, .ref g0, .ref u0, .ref i0, .ref fa, .ref fw, .int fs, .int he, .int sta, .int lf, .int hru])), (i0, .inr (6, [.ref h0, .int se])), (h0, .inr (0, [.int sec, .ref h1, .int pw])), (h1, .inl (cB, n, .inl f))]) hS hP hD hK [3, 0, 1, 2] [] rfl rfl (by decide) (by decide) hFc z1 z3 z4 z5) ⟨hS.2.2, fun z h => hFc z h⟩
set_option maxHeartbeats 4000000 in
set_option maxRecDepth 100000 in
/-- enter of no such item in an inode volume -/
theorem cx_Vt_enter2A (l : Launch) (hfl : l.flags = pinnedFlags ++ [noTraceFlag]) (dC : Nat → ClassId) (dI : Nat → Nat → Nat) (v0 sz h0 t0 b0 e0 r0 d0 g0 u0 i0 fa fw : Nat) (fs he sta lf hru : Int32) (se : Int32) (h1 : Nat) (cB : ClassId) (sec pw : Int32) (n : Nat) (f : Nat → Int32) (h4 : 4 ≤ n) (hn : n < 2 ^ 31) (hit : in_there n f = 1) (p1 : Int32) (hkA : p1 < 0) : MetX l y_Vt_enter (.code y_Vt_enter b_Vt_enter 4 (some .int) :: V_Vt) ({ frames := 7, cells := 1, slots := 6, locals := 129 }) (va_Pc [.ref v0, .int p1] (fun U => U.heap.size = sz ∧ at_ (dC, dI) (fun _ => True) [(v0, .inr (11, [.ref h0, .ref t0, .ref b0, .ref e0, .ref r0, .ref d0, .ref g0, .ref u0, .ref i0, .ref fa, .ref fw, .int fs, .int he, .int sta, .int lf, .int hru])), (i0, .inr (6, [.ref h0, .int se])), (h0, .inr (0, [.int sec, .ref h1, .int pw])), (h1, .inl (cB, n, .inl f))] [(cB, .byte)] U ∧ x_T R_Vt 341 "java/lang/IndexOutOfBoundsException" 339 "no such item" U)) (fun _ _ _ _ => False) (x_Q "java/lang/IndexOutOfBoundsException" (va_A [(v0, .inr (11, [.ref h0, .ref t0, .ref b0, .ref e0, .ref r0, .ref d0, .ref g0, .ref u0, .ref i0, .ref fa, .ref fw, .int fs, .int he, .int sta, .int lf, .int hru])), (i0, .inr (6, [.ref h0, .int se])), (h0, .inr (0, [.int sec, .ref h1, .int pw])), (h1, .inl (cB, n, .inl f))] sz) (at_ (dC, dI) (va_A [(v0, .inr (11, [.ref h0, .ref t0, .ref b0, .ref e0, .ref r0, .ref d0, .ref g0, .ref u0, .ref i0, .ref fa, .ref fw, .int fs, .int he, .int sta, .int lf, .int hru])), (i0, .inr (6, [.ref h0, .int se])), (h0, .inr (0, [.int sec, .ref h1, .int pw])), (h1, .inl (cB, n, .inl f))] sz) [(v0, .inr (11, [.ref h0, .ref t0, .ref b0, .ref e0, .ref r0, .ref d0, .ref g0, .ref u0, .ref i0, .ref fa, .ref fw, .int fs, .int he, .int sta, .int lf, .int hru])), (i0, .inr (6, [.ref h0, .int se])), (h0, .inr (0, [.int sec, .ref h1, .int pw])), (h1, .inl (cB, n, .inl f))] [(cB, .byte)])) 1 6 (va_A [(v0, .inr (11, [.ref h0, .ref t0, .ref b0, .ref e0, .ref r0, .ref d0, .ref g0, .ref u0, .ref i0, .ref fa, .ref fw, .int fs, .int he, .int sta, .int lf, .int hru])), (i0, .inr (6, [.ref h0, .int se])), (h0, .inr (0, [.int sec, .ref h1, .int pw])), (h1, .inl (cB, n, .inl f))] sz) := by
  refine MetX.ofW (cc := b_Vt_enter) (maxL := 4) (ret := (some .int)) (by decide) rfl ?_
  intro p e s m args below meth c s₁ B hml hv
  obtain ⟨rfl, hsz, ⟨hP, hK, hD0⟩, hE⟩ := hv
  have hx := B.exec
  have hb := B.bytes
  have hr := B.returns
  have hts0 := atoms_spec (ws := .code y_Vt_enter b_Vt_enter 4 (some .int) :: V_Vt) B.pre
  have hts : ∀ w ∈ V_Vt, w.before ([.ref v0, .int p1] : List Value).toArray s = true := fun w h => hts0 w (List.mem_cons_of_mem _ h)
  have hown : s.vm.findClass R_Vt = some m.cls := findClass_of_methodNamed B.named
  have hlocks := B.notSynchronized
  subst hsz
  have hD := hD0.self (sz := s.heap.size)
  generalize hAe : va_A [(v0, .inr (11, [.ref h0, .ref t0, .ref b0, .ref e0, .ref r0, .ref d0, .ref g0, .ref u0, .ref i0, .ref fa, .ref fw, .int fs, .int he, .int sta, .int lf, .int hru])), (i0, .inr (6, [.ref h0, .int se])), (h0, .inr (0, [.int sec, .ref h1, .int pw])), (h1, .inl (cB, n, .inl f))] s.heap.size = A at hD ⊢
  have hA : ∀ q : Nat, s.heap.size ≤ q → A q := fun q h => by rw [← hAe]; exact Or.inr h
  have hS : va_S A s.heap s.heap [] := va_S.rf
  have hP : va_P (dC, dI) classes [(v0, .inr (11, [.ref h0, .ref t0, .ref b0, .ref e0, .ref r0, .ref d0, .ref g0, .ref u0, .ref i0, .ref fa, .ref fw, .int fs, .int he, .int sta, .int lf, .int hru])), (i0, .inr (6, [.ref h0, .int se])), (h0, .inr (0, [.int sec, .ref h1, .int pw])), (h1, .inl (cB, n, .inl f))] s.heap := hP
  have hK : va_K (dC, dI) classes [(cB, .byte)] s := hK
  have hP0 := hP
  have hout := x_table B (hts0 _ List.mem_cons_self)
  have hl := lv_entry ([.ref v0, .int p1]) (n := 4) (Nat.le_of_ble_eq_true rfl)
  rw [lg_entry_eq]
  generalize (lg_sl ([.ref v0, .int p1]) ++ List.replicate (4 - (lg_sl ([.ref v0, .int p1])).length) Slot.unset).toArray = ls at hl ⊢
  have hl : lv_has ls 4 [(0, .ref v0), (1, .int p1)] := hl
  refine lv_aload_n hx hb d_Vt_enter_0 rfl (lv_at hl 0 rfl) ?_
  refine lv_aload_n hx hb d_Vt_enter_1 rfl (lv_at hl 0 rfl) ?_
  have hPc := hP.sub (ws' := [(v0, .inr (11, [.ref h0, .ref t0, .ref b0, .ref e0, .ref r0, .ref d0, .ref g0, .ref u0, .ref i0, .ref fa, .ref fw, .int fs, .int he, .int sta, .int lf, .int hru])), (i0, .inr (6, [.ref h0, .int se])), (h0, .inr (0, [.int sec, .ref h1, .int pw])), (h1, .inl (cB, n, .inl f))]) [0, 1, 2, 3] rfl
  have hDc := hD.sub (ws' := [(v0, .inr (11, [.ref h0, .ref t0, .ref b0, .ref e0, .ref r0, .ref d0, .ref g0, .ref u0, .ref i0, .ref fa, .ref fw, .int fs, .int he, .int sta, .int lf, .int hru])), (i0, .inr (6, [.ref h0, .int se])), (h0, .inr (0, [.int sec, .ref h1, .int pw])), (h1, .inl (cB, n, .inl f))]) [0, 1, 2, 3] (by decide) rfl
  have hKc := hK.sub (tys' := [(cB, .byte)]) [0] rfl
  have hFc := va_free (wc := [(v0, .inr (11, [.ref h0, .ref t0, .ref b0, .ref e0, .ref r0, .ref d0, .ref g0, .ref u0, .ref i0, .ref fa, .ref fw, .int fs, .int he, .int sta, .int lf, .int hru])), (i0, .inr (6, [.ref h0, .int se])), (h0, .inr (0, [.int sec, .ref h1, .int pw])), (h1, .inl (cB, n, .inl f))]) hD hS hA [0, 1, 2, 3] rfl
  refine va_calli (va_runV (As := []) (rest := [.ref v0]) ⟨hx, hb, hml, hown, hts⟩ (c_Vt_look2 l dC dI v0 s.heap.size h0 t0 b0 e0 r0 d0 g0 u0 i0 fa fw fs he sta lf hru se h1 cB sec pw n f h4 hn hit) (cwV 0 hts (gwV good_Vt (k_Vt_68) (k_Vt_69) (k_Vt_214) (k_Vt_0) (wcs (k_Vt_70) (fun _ h => h))) rfl rfl rfl (by decide +kernel) ⟨Nat.le_of_ble_eq_true rfl, Nat.le_of_ble_eq_true rfl⟩) (pv_of hPc hKc hDc (va_recv hKc hPc (ci := 11) (q0 := 0) rfl rfl)) rfl rfl hl.1 rfl (lv_room (Nat.le_of_ble_eq_true rfl)) d_Vt_enter_2 ⟨by decide, by decide⟩) hS (fun q _ h => hFc q h) hFc (fun r_1 u t H1 locs ht hvm hw hB hz1 hk1 hS => ?_)
  subst hw
  obtain ⟨hP1, hK1, hD1⟩ := hB
  rw [ht] at hP1
  have hP1 : va_P (dC, dI) classes [(v0, .inr (11, [.ref h0, .ref t0, .ref b0, .ref e0, .ref r0, .ref d0, .ref g0, .ref u0, .ref i0, .ref fa, .ref fw, .int fs, .int he, .int sta, .int lf, .int hru])), (i0, .inr (6, [.ref h0, .int se])), (h0, .inr (0, [.int sec, .ref h1, .int pw])), (h1, .inl (cB, n, .inl f))] H1 := hP1
  have hD1 : va_D _ [(v0, .inr (11, [.ref h0, .ref t0, .ref b0, .ref e0, .ref r0, .ref d0, .ref g0, .ref u0, .ref i0, .ref fa, .ref fw, .int fs, .int he, .int sta, .int lf, .int hru])), (i0, .inr (6, [.ref h0, .int se])), (h0, .inr (0, [.int sec, .ref h1, .int pw])), (h1, .inl (cB, n, .inl f))] := hD1
  obtain ⟨hP, hD⟩ := va_join (wr := []) (w1 := [(v0, .inr (11, [.ref h0, .ref t0, .ref b0, .ref e0, .ref r0, .ref d0, .ref g0, .ref u0, .ref i0, .ref fa, .ref fw, .int fs, .int he, .int sta, .int lf, .int hru])), (i0, .inr (6, [.ref h0, .int se])), (h0, .inr (0, [.int sec, .ref h1, .int pw])), (h1, .inl (cB, n, .inl f))]) hP hD [0, 1, 2, 3] [] rfl rfl (by decide) (by decide) hk1 hFc hP1 hD1
  generalize H1 = H at hP hS ⊢
  have hP : va_P (dC, dI) classes [(v0, .inr (11, [.ref h0, .ref t0, .ref b0, .ref e0, .ref r0, .ref d0, .ref g0, .ref u0, .ref i0, .ref fa, .ref fw, .int fs, .int he, .int sta, .int lf, .int hru])), (i0, .inr (6, [.ref h0, .int se])), (h0, .inr (0, [.int sec, .ref h1, .int pw])), (h1, .inl (cB, n, .inl f))] H := hP
  have hD : va_D A [(v0, .inr (11, [.ref h0, .ref t0, .ref b0, .ref e0, .ref r0, .ref d0, .ref g0, .ref u0, .ref i0, .ref fa, .ref fw, .int fs, .int he, .int sta, .int lf, .int hru])), (i0, .inr (6, [.ref h0, .int se])), (h0, .inr (0, [.int sec, .ref h1, .int pw])), (h1, .inl (cB, n, .inl f))] := hD
  have hPc := hP.sub (ws' := [(v0, .inr (11, [.ref h0, .ref t0, .ref b0, .ref e0, .ref r0, .ref d0, .ref g0, .ref u0, .ref i0, .ref fa, .ref fw, .int fs, .int he, .int sta, .int lf, .int hru]))]) [0] rfl
  have hDc := hD.sub (ws' := [(v0, .inr (11, [.ref h0, .ref t0, .ref b0, .ref e0, .ref r0, .ref d0, .ref g0, .ref u0, .ref i0, .ref fa, .ref fw, .int fs, .int he, .int sta, .int lf, .int hru]))]) [0] (by decide) rfl
  have hKc := hK.sub (tys' := []) [] rfl
  have hFc := va_free (wc := [(v0, .inr (11, [.ref h0, .ref t0, .ref b0, .ref e0, .ref r0, .ref d0, .ref g0, .ref u0, .ref i0, .ref fa, .ref fw, .int fs, .int he, .int sta, .int lf, .int hru]))]) hD hS hA [0] rfl
  refine va_calli (va_runV (As := [.int 2]) (rest := []) ⟨hx, hb, hml, hown, hts⟩ (c_Vt_readsInodes2 l dC dI v0 H.size h0 t0 b0 e0 r0 d0 g0 u0 i0 fa fw fs he sta lf hru) (cwV 1 hts (gwV good_Vt (k_Vt_111) (k_Vt_112) (k_Vt_215) (k_Vt_0) (wcs (k_Vt_113) (fun _ h => h))) rfl rfl rfl (by decide +kernel) ⟨Nat.le_of_ble_eq_true rfl, Nat.le_of_ble_eq_true rfl⟩) (pv_of hPc hKc hDc (va_recv hKc hPc (ci := 11) (q0 := 0) rfl rfl)) rfl rfl hl.1 rfl (lv_room (Nat.le_of_ble_eq_true rfl)) d_Vt_enter_5 ⟨by decide, by decide⟩) hS (fun q _ h => hFc q h) hFc (fun r_2 u t H1 locs ht hvm hw hB hz1 hk1 hS => ?_)
  subst hw
  obtain ⟨hP1, hK1, hD1⟩ := hB
  rw [ht] at hP1
  have hP1 : va_P (dC, dI) classes [(v0, .inr (11, [.ref h0, .ref t0, .ref b0, .ref e0, .ref r0, .ref d0, .ref g0, .ref u0, .ref i0, .ref fa, .ref fw, .int fs, .int he, .int sta, .int lf, .int hru]))] H1 := hP1
  have hD1 : va_D _ [(v0, .inr (11, [.ref h0, .ref t0, .ref b0, .ref e0, .ref r0, .ref d0, .ref g0, .ref u0, .ref i0, .ref fa, .ref fw, .int fs, .int he, .int sta, .int lf, .int hru]))] := hD1
  obtain ⟨hP, hD⟩ := va_join (wr := [(i0, .inr (6, [.ref h0, .int se])), (h0, .inr (0, [.int sec, .ref h1, .int pw])), (h1, .inl (cB, n, .inl f))]) (w1 := [(v0, .inr (11, [.ref h0, .ref t0, .ref b0, .ref e0, .ref r0, .ref d0, .ref g0, .ref u0, .ref i0, .ref fa, .ref fw, .int fs, .int he, .int sta, .int lf, .int hru]))]) hP hD [0] [1, 2, 3] rfl rfl (by decide) (by decide) hk1 hFc hP1 hD1
  generalize H1 = H at hP hS ⊢
  have hP : va_P (dC, dI) classes [(i0, .inr (6, [.ref h0, .int se])), (h0, .inr (0, [.int sec, .ref h1, .int pw])), (h1, .inl (cB, n, .inl f)), (v0, .inr (11, [.ref h0, .ref t0, .ref b0, .ref e0, .ref r0, .ref d0, .ref g0, .ref u0, .ref i0, .ref fa, .ref fw, .int fs, .int he, .int sta, .int lf, .int hru]))] H := hP
  have hD : va_D A [(i0, .inr (6, [.ref h0, .int se])), (h0, .inr (0, [.int sec, .ref h1, .int pw])), (h1, .inl (cB, n, .inl f)), (v0, .inr (11, [.ref h0, .ref t0, .ref b0, .ref e0, .ref r0, .ref d0, .ref g0, .ref u0, .ref i0, .ref fa, .ref fw, .int fs, .int he, .int sta, .int lf, .int hru]))] := hD
  refine lv_istore_n (lv' := [(2, .int 1), (0, .ref v0), (1, .int p1)]) hx hb d_Vt_enter_8 rfl hl (by decide) rfl (fun ls hl => ?_)
  refine lv_iload_n hx hb d_Vt_enter_9 rfl (lv_at hl 0 rfl) ?_
  refine lv_if_eq (tgt := 21) hx hb d_Vt_enter_10 (by decide) (fun c_3 => ?_) (fun c_3 => ?_)
  · exact absurd c_3 (by decide)
  · refine lv_aload_n hx hb d_Vt_enter_13 rfl (lv_at hl 1 rfl) ?_
    refine lv_iload_n hx hb d_Vt_enter_14 rfl (lv_at hl 2 rfl) ?_
    have hPc := hP.sub (ws' := [(v0, .inr (11, [.ref h0, .ref t0, .ref b0, .ref e0, .ref r0, .ref d0, .ref g0, .ref u0, .ref i0, .ref fa, .ref fw, .int fs, .int he, .int sta, .int lf, .int hru])), (i0, .inr (6, [.ref h0, .int se])), (h0, .inr (0, [.int sec, .ref h1, .int pw])), (h1, .inl (cB, n, .inl f))]) [3, 0, 1, 2] rfl
    have hDc := hD.sub (ws' := [(v0, .inr (11, [.ref h0, .ref t0, .ref b0, .ref e0, .ref r0, .ref d0, .ref g0, .ref u0, .ref i0, .ref fa, .ref fw, .int fs, .int he, .int sta, .int lf, .int hru])), (i0, .inr (6, [.ref h0, .int se])), (h0, .inr (0, [.int sec, .ref h1, .int pw])), (h1, .inl (cB, n, .inl f))]) [3, 0, 1, 2] (by decide) rfl
    have hKc := hK.sub (tys' := [(cB, .byte)]) [0] rfl
    have hFc := va_free (wc := [(v0, .inr (11, [.ref h0, .ref t0, .ref b0, .ref e0, .ref r0, .ref d0, .ref g0, .ref u0, .ref i0, .ref fa, .ref fw, .int fs, .int he, .int sta, .int lf, .int hru])), (i0, .inr (6, [.ref h0, .int se])), (h0, .inr (0, [.int sec, .ref h1, .int pw])), (h1, .inl (cB, n, .inl f))]) hD hS hA [3, 0, 1, 2] rfl
    exact x_outV (n := 1) (As := [.int p1]) (rest := []) (b := v0) (st0 := [.int p1, .ref v0]) ⟨hx, hb, hml, hown, hts⟩ (cx_Vt_entryHereA l hfl dC dI v0 H.size h0 t0 b0 e0 r0 d0 g0 u0 i0 fa fw fs he sta lf hru se h1 cB sec pw n f h4 hn p1 hkA) (cwV 1 hts (gwV good_Vt (k_Vt_122) (k_Vt_123) (k_Vt_218) (k_Vt_0) (wcs (k_Vt_124) (fun _ h => h))) rfl rfl rfl (by decide +kernel) ⟨Nat.le_of_ble_eq_true rfl, Nat.le_of_ble_eq_true rfl⟩) (pv_ofE (fun U V z1 z2 z => x_T.same x_allI z1 z2 z) (fun U z1 z2 => x_T.at x_allI hE z2 (by rw [z1]; exact x_kept.ofS hP0 hAe hS)) hPc hKc hDc (va_recv hKc hPc (ci := 11) (q0 := 0) rfl rfl)) rfl hl.1 rfl (by decide) d_Vt_enter_15 ⟨by decide, by decide⟩ hlocks hout ⟨by decide, by decide⟩ (fun E st t U z1 z2 z3 z4 z5 => x_outQ (wr := []) (w1 := [(v0, .inr (11, [.ref h0, .ref t0, .ref b0, .ref e0, .ref r0, .ref d0, .ref g0, .ref u0, .ref i0, .ref fa, .ref fw, .int fs, .int he, .int sta, .int lf, .int hru])), (i0, .inr (6, [.ref h0, .int se])), (h0, .inr (0, [.int sec, .ref h1, .int pw])), (h1, .inl (cB, n, .inl f))]) hS hP hD hK [3, 0, 1, 2] [] rfl rfl (by decide) (by decide) hFc z1 z3 z4 z5) ⟨hS.2.2, fun z h => hFc z h⟩
set_option maxHeartbeats 4000000 in
set_option maxRecDepth 100000 in
/-- letter of no such item in an inode volume -/
theorem cx_Vt_letter2B (l : Launch) (hfl : l.flags = pinnedFlags ++ [noTraceFlag]) (dC : Nat → ClassId) (dI : Nat → Nat → Nat) (v0 sz h0 t0 b0 e0 r0 d0 g0 u0 i0 fa fw : Nat) (fs he sta lf hru : Int32) (se : Int32) (h1 : Nat) (cB : ClassId) (sec pw : Int32) (n : Nat) (f : Nat → Int32) (h4 : 4 ≤ n) (hn : n < 2 ^ 31) (hit : in_there n f = 1) (p1 : Int32) (hkA : ¬ p1 < 0) (hkB : ¬ p1 < (in_find n f he (-1)).2 - 2) (p2 : Int32) : MetX l y_Vt_letter (.code y_Vt_letter b_Vt_letter 3 (some .int) :: V_Vt) ({ frames := 7, cells := 1, slots := 6, locals := 129 }) (va_Pc [.ref v0, .int p1, .int p2] (fun U => U.heap.size = sz ∧ at_ (dC, dI) (fun _ => True) [(v0, .inr (11, [.ref h0, .ref t0, .ref b0, .ref e0, .ref r0, .ref d0, .ref g0, .ref u0, .ref i0, .ref fa, .ref fw, .int fs, .int he, .int sta, .int lf, .int hru])), (i0, .inr (6, [.ref h0, .int se])), (h0, .inr (0, [.int sec, .ref h1, .int pw])), (h1, .inl (cB, n, .inl f))] [(cB, .byte)] U ∧ x_T R_Vt 341 "java/lang/IndexOutOfBoundsException" 339 "no such item" U)) (fun _ _ _ _ => False) (x_Q "java/lang/IndexOutOfBoundsException" (va_A [(v0, .inr (11, [.ref h0, .ref t0, .ref b0, .ref e0, .ref r0, .ref d0, .ref g0, .ref u0, .ref i0, .ref fa, .ref fw, .int fs, .int he, .int sta, .int lf, .int hru])), (i0, .inr (6, [.ref h0, .int se])), (h0, .inr (0, [.int sec, .ref h1, .int pw])), (h1, .inl (cB, n, .inl f))] sz) (at_ (dC, dI) (va_A [(v0, .inr (11, [.ref h0, .ref t0, .ref b0, .ref e0, .ref r0, .ref d0, .ref g0, .ref u0, .ref i0, .ref fa, .ref fw, .int fs, .int he, .int sta, .int lf, .int hru])), (i0, .inr (6, [.ref h0, .int se])), (h0, .inr (0, [.int sec, .ref h1, .int pw])), (h1, .inl (cB, n, .inl f))] sz) [(v0, .inr (11, [.ref h0, .ref t0, .ref b0, .ref e0, .ref r0, .ref d0, .ref g0, .ref u0, .ref i0, .ref fa, .ref fw, .int fs, .int he, .int sta, .int lf, .int hru])), (i0, .inr (6, [.ref h0, .int ((in_find n f he (-1)).2)])), (h0, .inr (0, [.int sec, .ref h1, .int pw])), (h1, .inl (cB, n, .inl f))] [(cB, .byte)])) 1 6 (va_A [(v0, .inr (11, [.ref h0, .ref t0, .ref b0, .ref e0, .ref r0, .ref d0, .ref g0, .ref u0, .ref i0, .ref fa, .ref fw, .int fs, .int he, .int sta, .int lf, .int hru])), (i0, .inr (6, [.ref h0, .int se])), (h0, .inr (0, [.int sec, .ref h1, .int pw])), (h1, .inl (cB, n, .inl f))] sz) := by
  refine MetX.ofW (cc := b_Vt_letter) (maxL := 3) (ret := (some .int)) (by decide) rfl ?_
  intro p e s m args below meth c s₁ B hml hv
  obtain ⟨rfl, hsz, ⟨hP, hK, hD0⟩, hE⟩ := hv
  have hx := B.exec
  have hb := B.bytes
  have hr := B.returns
  have hts0 := atoms_spec (ws := .code y_Vt_letter b_Vt_letter 3 (some .int) :: V_Vt) B.pre
  have hts : ∀ w ∈ V_Vt, w.before ([.ref v0, .int p1, .int p2] : List Value).toArray s = true := fun w h => hts0 w (List.mem_cons_of_mem _ h)
  have hown : s.vm.findClass R_Vt = some m.cls := findClass_of_methodNamed B.named
  have hlocks := B.notSynchronized
  subst hsz
  have hD := hD0.self (sz := s.heap.size)
  generalize hAe : va_A [(v0, .inr (11, [.ref h0, .ref t0, .ref b0, .ref e0, .ref r0, .ref d0, .ref g0, .ref u0, .ref i0, .ref fa, .ref fw, .int fs, .int he, .int sta, .int lf, .int hru])), (i0, .inr (6, [.ref h0, .int se])), (h0, .inr (0, [.int sec, .ref h1, .int pw])), (h1, .inl (cB, n, .inl f))] s.heap.size = A at hD ⊢
  have hA : ∀ q : Nat, s.heap.size ≤ q → A q := fun q h => by rw [← hAe]; exact Or.inr h
  have hS : va_S A s.heap s.heap [] := va_S.rf
  have hP : va_P (dC, dI) classes [(v0, .inr (11, [.ref h0, .ref t0, .ref b0, .ref e0, .ref r0, .ref d0, .ref g0, .ref u0, .ref i0, .ref fa, .ref fw, .int fs, .int he, .int sta, .int lf, .int hru])), (i0, .inr (6, [.ref h0, .int se])), (h0, .inr (0, [.int sec, .ref h1, .int pw])), (h1, .inl (cB, n, .inl f))] s.heap := hP
  have hK : va_K (dC, dI) classes [(cB, .byte)] s := hK
  have hP0 := hP
  have hout := x_table B (hts0 _ List.mem_cons_self)
  have hl := lv_entry ([.ref v0, .int p1, .int p2]) (n := 3) (Nat.le_of_ble_eq_true rfl)
  rw [lg_entry_eq]
  generalize (lg_sl ([.ref v0, .int p1, .int p2]) ++ List.replicate (3 - (lg_sl ([.ref v0, .int p1, .int p2])).length) Slot.unset).toArray = ls at hl ⊢
  have hl : lv_has ls 3 [(0, .ref v0), (1, .int p1), (2, .int p2)] := hl
  refine lv_aload_n hx hb d_Vt_letter_0 rfl (lv_at hl 0 rfl) ?_
  refine lv_aload_n hx hb d_Vt_letter_1 rfl (lv_at hl 0 rfl) ?_
  have hPc := hP.sub (ws' := [(v0, .inr (11, [.ref h0, .ref t0, .ref b0, .ref e0, .ref r0, .ref d0, .ref g0, .ref u0, .ref i0, .ref fa, .ref fw, .int fs, .int he, .int sta, .int lf, .int hru])), (i0, .inr (6, [.ref h0, .int se])), (h0, .inr (0, [.int sec, .ref h1, .int pw])), (h1, .inl (cB, n, .inl f))]) [0, 1, 2, 3] rfl
  have hDc := hD.sub (ws' := [(v0, .inr (11, [.ref h0, .ref t0, .ref b0, .ref e0, .ref r0, .ref d0, .ref g0, .ref u0, .ref i0, .ref fa, .ref fw, .int fs, .int he, .int sta, .int lf, .int hru])), (i0, .inr (6, [.ref h0, .int se])), (h0, .inr (0, [.int sec, .ref h1, .int pw])), (h1, .inl (cB, n, .inl f))]) [0, 1, 2, 3] (by decide) rfl
  have hKc := hK.sub (tys' := [(cB, .byte)]) [0] rfl
  have hFc := va_free (wc := [(v0, .inr (11, [.ref h0, .ref t0, .ref b0, .ref e0, .ref r0, .ref d0, .ref g0, .ref u0, .ref i0, .ref fa, .ref fw, .int fs, .int he, .int sta, .int lf, .int hru])), (i0, .inr (6, [.ref h0, .int se])), (h0, .inr (0, [.int sec, .ref h1, .int pw])), (h1, .inl (cB, n, .inl f))]) hD hS hA [0, 1, 2, 3] rfl
  refine va_calli (va_runV (As := []) (rest := [.ref v0]) ⟨hx, hb, hml, hown, hts⟩ (c_Vt_look2 l dC dI v0 s.heap.size h0 t0 b0 e0 r0 d0 g0 u0 i0 fa fw fs he sta lf hru se h1 cB sec pw n f h4 hn hit) (cwV 0 hts (gwV good_Vt (k_Vt_68) (k_Vt_69) (k_Vt_214) (k_Vt_0) (wcs (k_Vt_70) (fun _ h => h))) rfl rfl rfl (by decide +kernel) ⟨Nat.le_of_ble_eq_true rfl, Nat.le_of_ble_eq_true rfl⟩) (pv_of hPc hKc hDc (va_recv hKc hPc (ci := 11) (q0 := 0) rfl rfl)) rfl rfl hl.1 rfl (lv_room (Nat.le_of_ble_eq_true rfl)) d_Vt_letter_2 ⟨by decide, by decide⟩) hS (fun q _ h => hFc q h) hFc (fun r_1 u t H1 locs ht hvm hw hB hz1 hk1 hS => ?_)
  subst hw
  obtain ⟨hP1, hK1, hD1⟩ := hB
  rw [ht] at hP1
  have hP1 : va_P (dC, dI) classes [(v0, .inr (11, [.ref h0, .ref t0, .ref b0, .ref e0, .ref r0, .ref d0, .ref g0, .ref u0, .ref i0, .ref fa, .ref fw, .int fs, .int he, .int sta, .int lf, .int hru])), (i0, .inr (6, [.ref h0, .int se])), (h0, .inr (0, [.int sec, .ref h1, .int pw])), (h1, .inl (cB, n, .inl f))] H1 := hP1
  have hD1 : va_D _ [(v0, .inr (11, [.ref h0, .ref t0, .ref b0, .ref e0, .ref r0, .ref d0, .ref g0, .ref u0, .ref i0, .ref fa, .ref fw, .int fs, .int he, .int sta, .int lf, .int hru])), (i0, .inr (6, [.ref h0, .int se])), (h0, .inr (0, [.int sec, .ref h1, .int pw])), (h1, .inl (cB, n, .inl f))] := hD1
  obtain ⟨hP, hD⟩ := va_join (wr := []) (w1 := [(v0, .inr (11, [.ref h0, .ref t0, .ref b0, .ref e0, .ref r0, .ref d0, .ref g0, .ref u0, .ref i0, .ref fa, .ref fw, .int fs, .int he, .int sta, .int lf, .int hru])), (i0, .inr (6, [.ref h0, .int se])), (h0, .inr (0, [.int sec, .ref h1, .int pw])), (h1, .inl (cB, n, .inl f))]) hP hD [0, 1, 2, 3] [] rfl rfl (by decide) (by decide) hk1 hFc hP1 hD1
  generalize H1 = H at hP hS ⊢
  have hP : va_P (dC, dI) classes [(v0, .inr (11, [.ref h0, .ref t0, .ref b0, .ref e0, .ref r0, .ref d0, .ref g0, .ref u0, .ref i0, .ref fa, .ref fw, .int fs, .int he, .int sta, .int lf, .int hru])), (i0, .inr (6, [.ref h0, .int se])), (h0, .inr (0, [.int sec, .ref h1, .int pw])), (h1, .inl (cB, n, .inl f))] H := hP
  have hD : va_D A [(v0, .inr (11, [.ref h0, .ref t0, .ref b0, .ref e0, .ref r0, .ref d0, .ref g0, .ref u0, .ref i0, .ref fa, .ref fw, .int fs, .int he, .int sta, .int lf, .int hru])), (i0, .inr (6, [.ref h0, .int se])), (h0, .inr (0, [.int sec, .ref h1, .int pw])), (h1, .inl (cB, n, .inl f))] := hD
  have hPc := hP.sub (ws' := [(v0, .inr (11, [.ref h0, .ref t0, .ref b0, .ref e0, .ref r0, .ref d0, .ref g0, .ref u0, .ref i0, .ref fa, .ref fw, .int fs, .int he, .int sta, .int lf, .int hru]))]) [0] rfl
  have hDc := hD.sub (ws' := [(v0, .inr (11, [.ref h0, .ref t0, .ref b0, .ref e0, .ref r0, .ref d0, .ref g0, .ref u0, .ref i0, .ref fa, .ref fw, .int fs, .int he, .int sta, .int lf, .int hru]))]) [0] (by decide) rfl
  have hKc := hK.sub (tys' := []) [] rfl
  have hFc := va_free (wc := [(v0, .inr (11, [.ref h0, .ref t0, .ref b0, .ref e0, .ref r0, .ref d0, .ref g0, .ref u0, .ref i0, .ref fa, .ref fw, .int fs, .int he, .int sta, .int lf, .int hru]))]) hD hS hA [0] rfl
  refine va_calli (va_runV (As := [.int 2]) (rest := []) ⟨hx, hb, hml, hown, hts⟩ (c_Vt_readsInodes2 l dC dI v0 H.size h0 t0 b0 e0 r0 d0 g0 u0 i0 fa fw fs he sta lf hru) (cwV 1 hts (gwV good_Vt (k_Vt_111) (k_Vt_112) (k_Vt_215) (k_Vt_0) (wcs (k_Vt_113) (fun _ h => h))) rfl rfl rfl (by decide +kernel) ⟨Nat.le_of_ble_eq_true rfl, Nat.le_of_ble_eq_true rfl⟩) (pv_of hPc hKc hDc (va_recv hKc hPc (ci := 11) (q0 := 0) rfl rfl)) rfl rfl hl.1 rfl (lv_room (Nat.le_of_ble_eq_true rfl)) d_Vt_letter_5 ⟨by decide, by decide⟩) hS (fun q _ h => hFc q h) hFc (fun r_2 u t H1 locs ht hvm hw hB hz1 hk1 hS => ?_)
  subst hw
  obtain ⟨hP1, hK1, hD1⟩ := hB
  rw [ht] at hP1
  have hP1 : va_P (dC, dI) classes [(v0, .inr (11, [.ref h0, .ref t0, .ref b0, .ref e0, .ref r0, .ref d0, .ref g0, .ref u0, .ref i0, .ref fa, .ref fw, .int fs, .int he, .int sta, .int lf, .int hru]))] H1 := hP1
  have hD1 : va_D _ [(v0, .inr (11, [.ref h0, .ref t0, .ref b0, .ref e0, .ref r0, .ref d0, .ref g0, .ref u0, .ref i0, .ref fa, .ref fw, .int fs, .int he, .int sta, .int lf, .int hru]))] := hD1
  obtain ⟨hP, hD⟩ := va_join (wr := [(i0, .inr (6, [.ref h0, .int se])), (h0, .inr (0, [.int sec, .ref h1, .int pw])), (h1, .inl (cB, n, .inl f))]) (w1 := [(v0, .inr (11, [.ref h0, .ref t0, .ref b0, .ref e0, .ref r0, .ref d0, .ref g0, .ref u0, .ref i0, .ref fa, .ref fw, .int fs, .int he, .int sta, .int lf, .int hru]))]) hP hD [0] [1, 2, 3] rfl rfl (by decide) (by decide) hk1 hFc hP1 hD1
  generalize H1 = H at hP hS ⊢
  have hP : va_P (dC, dI) classes [(i0, .inr (6, [.ref h0, .int se])), (h0, .inr (0, [.int sec, .ref h1, .int pw])), (h1, .inl (cB, n, .inl f)), (v0, .inr (11, [.ref h0, .ref t0, .ref b0, .ref e0, .ref r0, .ref d0, .ref g0, .ref u0, .ref i0, .ref fa, .ref fw, .int fs, .int he, .int sta, .int lf, .int hru]))] H := hP
  have hD : va_D A [(i0, .inr (6, [.ref h0, .int se])), (h0, .inr (0, [.int sec, .ref h1, .int pw])), (h1, .inl (cB, n, .inl f)), (v0, .inr (11, [.ref h0, .ref t0, .ref b0, .ref e0, .ref r0, .ref d0, .ref g0, .ref u0, .ref i0, .ref fa, .ref fw, .int fs, .int he, .int sta, .int lf, .int hru]))] := hD
  refine lv_if_eq (tgt := 25) hx hb d_Vt_letter_8 (by decide) (fun c_3 => ?_) (fun c_3 => ?_)
  · exact absurd c_3 (by decide)
  · refine lv_aload_n hx hb d_Vt_letter_11 rfl (lv_at hl 0 rfl) ?_
    refine va_get (D := (dC, dI)) (ci := 11) (v := .ref i0) (C := R_Vt) (T := F_Vt) (N := 16) hx hb hts i_Vt hown hK hP 3 rfl rfl 8 (by decide) (hts _ (k_Vt_37)) (fun _ h9 => h9) rfl d_Vt_letter_12 ?_
    refine lv_aload_n hx hb d_Vt_letter_15 rfl (lv_at hl 0 rfl) ?_
    refine lv_iload_n hx hb d_Vt_letter_16 rfl (lv_at hl 1 rfl) ?_
    have hPc := hP.sub (ws' := [(v0, .inr (11, [.ref h0, .ref t0, .ref b0, .ref e0, .ref r0, .ref d0, .ref g0, .ref u0, .ref i0, .ref fa, .ref fw, .int fs, .int he, .int sta, .int lf, .int hru])), (i0, .inr (6, [.ref h0, .int se])), (h0, .inr (0, [.int sec, .ref h1, .int pw])), (h1, .inl (cB, n, .inl f))]) [3, 0, 1, 2] rfl
    have hDc := hD.sub (ws' := [(v0, .inr (11, [.ref h0, .ref t0, .ref b0, .ref e0, .ref r0, .ref d0, .ref g0, .ref u0, .ref i0, .ref fa, .ref fw, .int fs, .int he, .int sta, .int lf, .int hru])), (i0, .inr (6, [.ref h0, .int se])), (h0, .inr (0, [.int sec, .ref h1, .int pw])), (h1, .inl (cB, n, .inl f))]) [3, 0, 1, 2] (by decide) rfl
    have hKc := hK.sub (tys' := [(cB, .byte)]) [0] rfl
    have hFc := va_free (wc := [(v0, .inr (11, [.ref h0, .ref t0, .ref b0, .ref e0, .ref r0, .ref d0, .ref g0, .ref u0, .ref i0, .ref fa, .ref fw, .int fs, .int he, .int sta, .int lf, .int hru])), (i0, .inr (6, [.ref h0, .int se])), (h0, .inr (0, [.int sec, .ref h1, .int pw])), (h1, .inl (cB, n, .inl f))]) hD hS hA [3, 0, 1, 2] rfl
    exact x_outV (n := 1) (As := [.int p1]) (rest := [.ref i0]) (b := v0) (st0 := [.int p1, .ref v0, .ref i0]) ⟨hx, hb, hml, hown, hts⟩ (cx_Vt_entryHereB l hfl dC dI v0 H.size h0 t0 b0 e0 r0 d0 g0 u0 i0 fa fw fs he sta lf hru se h1 cB sec pw n f h4 hn p1 hkA hkB) (cwV 1 hts (gwV good_Vt (k_Vt_122) (k_Vt_123) (k_Vt_218) (k_Vt_0) (wcs (k_Vt_124) (fun _ h => h))) rfl rfl rfl (by decide +kernel) ⟨Nat.le_of_ble_eq_true rfl, Nat.le_of_ble_eq_true rfl⟩) (pv_ofE (fun U V z1 z2 z => x_T.same x_allI z1 z2 z) (fun U z1 z2 => x_T.at x_allI hE z2 (by rw [z1]; exact x_kept.ofS hP0 hAe hS)) hPc hKc hDc (va_recv hKc hPc (ci := 11) (q0 := 0) rfl rfl)) rfl hl.1 rfl (Nat.le_of_ble_eq_true rfl) d_Vt_letter_17 ⟨by decide, by decide⟩ hlocks hout ⟨by decide, by decide⟩ (fun E st t U z1 z2 z3 z4 z5 => x_outQ (wr := []) (w1 := [(v0, .inr (11, [.ref h0, .ref t0, .ref b0, .ref e0, .ref r0, .ref d0, .ref g0, .ref u0, .ref i0, .ref fa, .ref fw, .int fs, .int he, .int sta, .int lf, .int hru])), (i0, .inr (6, [.ref h0, .int ((in_find n f he (-1)).2)])), (h0, .inr (0, [.int sec, .ref h1, .int pw])), (h1, .inl (cB, n, .inl f))]) hS hP hD hK [3, 0, 1, 2] [] rfl rfl (by decide) (by decide) hFc z1 z3 z4 z5) ⟨hS.2.2, fun z h => hFc z h⟩
set_option maxHeartbeats 4000000 in
set_option maxRecDepth 100000 in
/-- content of no such item in an inode volume -/
theorem cx_Vt_content2B (l : Launch) (hfl : l.flags = pinnedFlags ++ [noTraceFlag]) (dC : Nat → ClassId) (dI : Nat → Nat → Nat) (v0 sz h0 t0 b0 e0 r0 d0 g0 u0 i0 fa fw : Nat) (fs he sta lf hru : Int32) (se : Int32) (h1 : Nat) (cB : ClassId) (sec pw : Int32) (n : Nat) (f : Nat → Int32) (h4 : 4 ≤ n) (hn : n < 2 ^ 31) (hit : in_there n f = 1) (p1 : Int32) (hkA : ¬ p1 < 0) (hkB : ¬ p1 < (in_find n f he (-1)).2 - 2) (p2 : Int32) : MetX l y_Vt_content (.code y_Vt_content b_Vt_content 4 (some .int) :: V_Vt) ({ frames := 7, cells := 1, slots := 6, locals := 129 }) (va_Pc [.ref v0, .int p1, .int p2] (fun U => U.heap.size = sz ∧ at_ (dC, dI) (fun _ => True) [(v0, .inr (11, [.ref h0, .ref t0, .ref b0, .ref e0, .ref r0, .ref d0, .ref g0, .ref u0, .ref i0, .ref fa, .ref fw, .int fs, .int he, .int sta, .int lf, .int hru])), (i0, .inr (6, [.ref h0, .int se])), (h0, .inr (0, [.int sec, .ref h1, .int pw])), (h1, .inl (cB, n, .inl f))] [(cB, .byte)] U ∧ x_T R_Vt 341 "java/lang/IndexOutOfBoundsException" 339 "no such item" U)) (fun _ _ _ _ => False) (x_Q "java/lang/IndexOutOfBoundsException" (va_A [(v0, .inr (11, [.ref h0, .ref t0, .ref b0, .ref e0, .ref r0, .ref d0, .ref g0, .ref u0, .ref i0, .ref fa, .ref fw, .int fs, .int he, .int sta, .int lf, .int hru])), (i0, .inr (6, [.ref h0, .int se])), (h0, .inr (0, [.int sec, .ref h1, .int pw])), (h1, .inl (cB, n, .inl f))] sz) (at_ (dC, dI) (va_A [(v0, .inr (11, [.ref h0, .ref t0, .ref b0, .ref e0, .ref r0, .ref d0, .ref g0, .ref u0, .ref i0, .ref fa, .ref fw, .int fs, .int he, .int sta, .int lf, .int hru])), (i0, .inr (6, [.ref h0, .int se])), (h0, .inr (0, [.int sec, .ref h1, .int pw])), (h1, .inl (cB, n, .inl f))] sz) [(v0, .inr (11, [.ref h0, .ref t0, .ref b0, .ref e0, .ref r0, .ref d0, .ref g0, .ref u0, .ref i0, .ref fa, .ref fw, .int fs, .int he, .int sta, .int lf, .int hru])), (i0, .inr (6, [.ref h0, .int ((in_find n f he (-1)).2)])), (h0, .inr (0, [.int sec, .ref h1, .int pw])), (h1, .inl (cB, n, .inl f))] [(cB, .byte)])) 1 6 (va_A [(v0, .inr (11, [.ref h0, .ref t0, .ref b0, .ref e0, .ref r0, .ref d0, .ref g0, .ref u0, .ref i0, .ref fa, .ref fw, .int fs, .int he, .int sta, .int lf, .int hru])), (i0, .inr (6, [.ref h0, .int se])), (h0, .inr (0, [.int sec, .ref h1, .int pw])), (h1, .inl (cB, n, .inl f))] sz) := by
  refine MetX.ofW (cc := b_Vt_content) (maxL := 4) (ret := (some .int)) (by decide) rfl ?_
  intro p e s m args below meth c s₁ B hml hv
  obtain ⟨rfl, hsz, ⟨hP, hK, hD0⟩, hE⟩ := hv
  have hx := B.exec
  have hb := B.bytes
  have hr := B.returns
  have hts0 := atoms_spec (ws := .code y_Vt_content b_Vt_content 4 (some .int) :: V_Vt) B.pre
  have hts : ∀ w ∈ V_Vt, w.before ([.ref v0, .int p1, .int p2] : List Value).toArray s = true := fun w h => hts0 w (List.mem_cons_of_mem _ h)
  have hown : s.vm.findClass R_Vt = some m.cls := findClass_of_methodNamed B.named
  have hlocks := B.notSynchronized
  subst hsz
  have hD := hD0.self (sz := s.heap.size)
  generalize hAe : va_A [(v0, .inr (11, [.ref h0, .ref t0, .ref b0, .ref e0, .ref r0, .ref d0, .ref g0, .ref u0, .ref i0, .ref fa, .ref fw, .int fs, .int he, .int sta, .int lf, .int hru])), (i0, .inr (6, [.ref h0, .int se])), (h0, .inr (0, [.int sec, .ref h1, .int pw])), (h1, .inl (cB, n, .inl f))] s.heap.size = A at hD ⊢
  have hA : ∀ q : Nat, s.heap.size ≤ q → A q := fun q h => by rw [← hAe]; exact Or.inr h
  have hS : va_S A s.heap s.heap [] := va_S.rf
  have hP : va_P (dC, dI) classes [(v0, .inr (11, [.ref h0, .ref t0, .ref b0, .ref e0, .ref r0, .ref d0, .ref g0, .ref u0, .ref i0, .ref fa, .ref fw, .int fs, .int he, .int sta, .int lf, .int hru])), (i0, .inr (6, [.ref h0, .int se])), (h0, .inr (0, [.int sec, .ref h1, .int pw])), (h1, .inl (cB, n, .inl f))] s.heap := hP
  have hK : va_K (dC, dI) classes [(cB, .byte)] s := hK
  have hP0 := hP
  have hout := x_table B (hts0 _ List.mem_cons_self)
  have hl := lv_entry ([.ref v0, .int p1, .int p2]) (n := 4) (Nat.le_of_ble_eq_true rfl)
  rw [lg_entry_eq]
  generalize (lg_sl ([.ref v0, .int p1, .int p2]) ++ List.replicate (4 - (lg_sl ([.ref v0, .int p1, .int p2])).length) Slot.unset).toArray = ls at hl ⊢
  have hl : lv_has ls 4 [(0, .ref v0), (1, .int p1), (2, .int p2)] := hl
  refine lv_aload_n hx hb d_Vt_content_0 rfl (lv_at hl 0 rfl) ?_
  refine lv_aload_n hx hb d_Vt_content_1 rfl (lv_at hl 0 rfl) ?_
  have hPc := hP.sub (ws' := [(v0, .inr (11, [.ref h0, .ref t0, .ref b0, .ref e0, .ref r0, .ref d0, .ref g0, .ref u0, .ref i0, .ref fa, .ref fw, .int fs, .int he, .int sta, .int lf, .int hru])), (i0, .inr (6, [.ref h0, .int se])), (h0, .inr (0, [.int sec, .ref h1, .int pw])), (h1, .inl (cB, n, .inl f))]) [0, 1, 2, 3] rfl
  have hDc := hD.sub (ws' := [(v0, .inr (11, [.ref h0, .ref t0, .ref b0, .ref e0, .ref r0, .ref d0, .ref g0, .ref u0, .ref i0, .ref fa, .ref fw, .int fs, .int he, .int sta, .int lf, .int hru])), (i0, .inr (6, [.ref h0, .int se])), (h0, .inr (0, [.int sec, .ref h1, .int pw])), (h1, .inl (cB, n, .inl f))]) [0, 1, 2, 3] (by decide) rfl
  have hKc := hK.sub (tys' := [(cB, .byte)]) [0] rfl
  have hFc := va_free (wc := [(v0, .inr (11, [.ref h0, .ref t0, .ref b0, .ref e0, .ref r0, .ref d0, .ref g0, .ref u0, .ref i0, .ref fa, .ref fw, .int fs, .int he, .int sta, .int lf, .int hru])), (i0, .inr (6, [.ref h0, .int se])), (h0, .inr (0, [.int sec, .ref h1, .int pw])), (h1, .inl (cB, n, .inl f))]) hD hS hA [0, 1, 2, 3] rfl
  refine va_calli (va_runV (As := []) (rest := [.ref v0]) ⟨hx, hb, hml, hown, hts⟩ (c_Vt_look2 l dC dI v0 s.heap.size h0 t0 b0 e0 r0 d0 g0 u0 i0 fa fw fs he sta lf hru se h1 cB sec pw n f h4 hn hit) (cwV 0 hts (gwV good_Vt (k_Vt_68) (k_Vt_69) (k_Vt_214) (k_Vt_0) (wcs (k_Vt_70) (fun _ h => h))) rfl rfl rfl (by decide +kernel) ⟨Nat.le_of_ble_eq_true rfl, Nat.le_of_ble_eq_true rfl⟩) (pv_of hPc hKc hDc (va_recv hKc hPc (ci := 11) (q0 := 0) rfl rfl)) rfl rfl hl.1 rfl (lv_room (Nat.le_of_ble_eq_true rfl)) d_Vt_content_2 ⟨by decide, by decide⟩) hS (fun q _ h => hFc q h) hFc (fun r_1 u t H1 locs ht hvm hw hB hz1 hk1 hS => ?_)
  subst hw
  obtain ⟨hP1, hK1, hD1⟩ := hB
  rw [ht] at hP1
  have hP1 : va_P (dC, dI) classes [(v0, .inr (11, [.ref h0, .ref t0, .ref b0, .ref e0, .ref r0, .ref d0, .ref g0, .ref u0, .ref i0, .ref fa, .ref fw, .int fs, .int he, .int sta, .int lf, .int hru])), (i0, .inr (6, [.ref h0, .int se])), (h0, .inr (0, [.int sec, .ref h1, .int pw])), (h1, .inl (cB, n, .inl f))] H1 := hP1
  have hD1 : va_D _ [(v0, .inr (11, [.ref h0, .ref t0, .ref b0, .ref e0, .ref r0, .ref d0, .ref g0, .ref u0, .ref i0, .ref fa, .ref fw, .int fs, .int he, .int sta, .int lf, .int hru])), (i0, .inr (6, [.ref h0, .int se])), (h0, .inr (0, [.int sec, .ref h1, .int pw])), (h1, .inl (cB, n, .inl f))] := hD1
  obtain ⟨hP, hD⟩ := va_join (wr := []) (w1 := [(v0, .inr (11, [.ref h0, .ref t0, .ref b0, .ref e0, .ref r0, .ref d0, .ref g0, .ref u0, .ref i0, .ref fa, .ref fw, .int fs, .int he, .int sta, .int lf, .int hru])), (i0, .inr (6, [.ref h0, .int se])), (h0, .inr (0, [.int sec, .ref h1, .int pw])), (h1, .inl (cB, n, .inl f))]) hP hD [0, 1, 2, 3] [] rfl rfl (by decide) (by decide) hk1 hFc hP1 hD1
  generalize H1 = H at hP hS ⊢
  have hP : va_P (dC, dI) classes [(v0, .inr (11, [.ref h0, .ref t0, .ref b0, .ref e0, .ref r0, .ref d0, .ref g0, .ref u0, .ref i0, .ref fa, .ref fw, .int fs, .int he, .int sta, .int lf, .int hru])), (i0, .inr (6, [.ref h0, .int se])), (h0, .inr (0, [.int sec, .ref h1, .int pw])), (h1, .inl (cB, n, .inl f))] H := hP
  have hD : va_D A [(v0, .inr (11, [.ref h0, .ref t0, .ref b0, .ref e0, .ref r0, .ref d0, .ref g0, .ref u0, .ref i0, .ref fa, .ref fw, .int fs, .int he, .int sta, .int lf, .int hru])), (i0, .inr (6, [.ref h0, .int se])), (h0, .inr (0, [.int sec, .ref h1, .int pw])), (h1, .inl (cB, n, .inl f))] := hD
  have hPc := hP.sub (ws' := [(v0, .inr (11, [.ref h0, .ref t0, .ref b0, .ref e0, .ref r0, .ref d0, .ref g0, .ref u0, .ref i0, .ref fa, .ref fw, .int fs, .int he, .int sta, .int lf, .int hru]))]) [0] rfl
  have hDc := hD.sub (ws' := [(v0, .inr (11, [.ref h0, .ref t0, .ref b0, .ref e0, .ref r0, .ref d0, .ref g0, .ref u0, .ref i0, .ref fa, .ref fw, .int fs, .int he, .int sta, .int lf, .int hru]))]) [0] (by decide) rfl
  have hKc := hK.sub (tys' := []) [] rfl
  have hFc := va_free (wc := [(v0, .inr (11, [.ref h0, .ref t0, .ref b0, .ref e0, .ref r0, .ref d0, .ref g0, .ref u0, .ref i0, .ref fa, .ref fw, .int fs, .int he, .int sta, .int lf, .int hru]))]) hD hS hA [0] rfl
  refine va_calli (va_runV (As := [.int 2]) (rest := []) ⟨hx, hb, hml, hown, hts⟩ (c_Vt_readsInodes2 l dC dI v0 H.size h0 t0 b0 e0 r0 d0 g0 u0 i0 fa fw fs he sta lf hru) (cwV 1 hts (gwV good_Vt (k_Vt_111) (k_Vt_112) (k_Vt_215) (k_Vt_0) (wcs (k_Vt_113) (fun _ h => h))) rfl rfl rfl (by decide +kernel) ⟨Nat.le_of_ble_eq_true rfl, Nat.le_of_ble_eq_true rfl⟩) (pv_of hPc hKc hDc (va_recv hKc hPc (ci := 11) (q0 := 0) rfl rfl)) rfl rfl hl.1 rfl (lv_room (Nat.le_of_ble_eq_true rfl)) d_Vt_content_5 ⟨by decide, by decide⟩) hS (fun q _ h => hFc q h) hFc (fun r_2 u t H1 locs ht hvm hw hB hz1 hk1 hS => ?_)
  subst hw
  obtain ⟨hP1, hK1, hD1⟩ := hB
  rw [ht] at hP1
  have hP1 : va_P (dC, dI) classes [(v0, .inr (11, [.ref h0, .ref t0, .ref b0, .ref e0, .ref r0, .ref d0, .ref g0, .ref u0, .ref i0, .ref fa, .ref fw, .int fs, .int he, .int sta, .int lf, .int hru]))] H1 := hP1
  have hD1 : va_D _ [(v0, .inr (11, [.ref h0, .ref t0, .ref b0, .ref e0, .ref r0, .ref d0, .ref g0, .ref u0, .ref i0, .ref fa, .ref fw, .int fs, .int he, .int sta, .int lf, .int hru]))] := hD1
  obtain ⟨hP, hD⟩ := va_join (wr := [(i0, .inr (6, [.ref h0, .int se])), (h0, .inr (0, [.int sec, .ref h1, .int pw])), (h1, .inl (cB, n, .inl f))]) (w1 := [(v0, .inr (11, [.ref h0, .ref t0, .ref b0, .ref e0, .ref r0, .ref d0, .ref g0, .ref u0, .ref i0, .ref fa, .ref fw, .int fs, .int he, .int sta, .int lf, .int hru]))]) hP hD [0] [1, 2, 3] rfl rfl (by decide) (by decide) hk1 hFc hP1 hD1
  generalize H1 = H at hP hS ⊢
  have hP : va_P (dC, dI) classes [(i0, .inr (6, [.ref h0, .int se])), (h0, .inr (0, [.int sec, .ref h1, .int pw])), (h1, .inl (cB, n, .inl f)), (v0, .inr (11, [.ref h0, .ref t0, .ref b0, .ref e0, .ref r0, .ref d0, .ref g0, .ref u0, .ref i0, .ref fa, .ref fw, .int fs, .int he, .int sta, .int lf, .int hru]))] H := hP
  have hD : va_D A [(i0, .inr (6, [.ref h0, .int se])), (h0, .inr (0, [.int sec, .ref h1, .int pw])), (h1, .inl (cB, n, .inl f)), (v0, .inr (11, [.ref h0, .ref t0, .ref b0, .ref e0, .ref r0, .ref d0, .ref g0, .ref u0, .ref i0, .ref fa, .ref fw, .int fs, .int he, .int sta, .int lf, .int hru]))] := hD
  refine lv_if_eq (tgt := 25) hx hb d_Vt_content_8 (by decide) (fun c_3 => ?_) (fun c_3 => ?_)
  · exact absurd c_3 (by decide)
  · refine lv_aload_n hx hb d_Vt_content_11 rfl (lv_at hl 0 rfl) ?_
    refine va_get (D := (dC, dI)) (ci := 11) (v := .ref i0) (C := R_Vt) (T := F_Vt) (N := 16) hx hb hts i_Vt hown hK hP 3 rfl rfl 8 (by decide) (hts _ (k_Vt_37)) (fun _ h9 => h9) rfl d_Vt_content_12 ?_
    refine lv_aload_n hx hb d_Vt_content_15 rfl (lv_at hl 0 rfl) ?_
    refine lv_iload_n hx hb d_Vt_content_16 rfl (lv_at hl 1 rfl) ?_
    have hPc := hP.sub (ws' := [(v0, .inr (11, [.ref h0, .ref t0, .ref b0, .ref e0, .ref r0, .ref d0, .ref g0, .ref u0, .ref i0, .ref fa, .ref fw, .int fs, .int he, .int sta, .int lf, .int hru])), (i0, .inr (6, [.ref h0, .int se])), (h0, .inr (0, [.int sec, .ref h1, .int pw])), (h1, .inl (cB, n, .inl f))]) [3, 0, 1, 2] rfl
    have hDc := hD.sub (ws' := [(v0, .inr (11, [.ref h0, .ref t0, .ref b0, .ref e0, .ref r0, .ref d0, .ref g0, .ref u0, .ref i0, .ref fa, .ref fw, .int fs, .int he, .int sta, .int lf, .int hru])), (i0, .inr (6, [.ref h0, .int se])), (h0, .inr (0, [.int sec, .ref h1, .int pw])), (h1, .inl (cB, n, .inl f))]) [3, 0, 1, 2] (by decide) rfl
    have hKc := hK.sub (tys' := [(cB, .byte)]) [0] rfl
    have hFc := va_free (wc := [(v0, .inr (11, [.ref h0, .ref t0, .ref b0, .ref e0, .ref r0, .ref d0, .ref g0, .ref u0, .ref i0, .ref fa, .ref fw, .int fs, .int he, .int sta, .int lf, .int hru])), (i0, .inr (6, [.ref h0, .int se])), (h0, .inr (0, [.int sec, .ref h1, .int pw])), (h1, .inl (cB, n, .inl f))]) hD hS hA [3, 0, 1, 2] rfl
    exact x_outV (n := 1) (As := [.int p1]) (rest := [.ref i0]) (b := v0) (st0 := [.int p1, .ref v0, .ref i0]) ⟨hx, hb, hml, hown, hts⟩ (cx_Vt_entryHereB l hfl dC dI v0 H.size h0 t0 b0 e0 r0 d0 g0 u0 i0 fa fw fs he sta lf hru se h1 cB sec pw n f h4 hn p1 hkA hkB) (cwV 1 hts (gwV good_Vt (k_Vt_122) (k_Vt_123) (k_Vt_218) (k_Vt_0) (wcs (k_Vt_124) (fun _ h => h))) rfl rfl rfl (by decide +kernel) ⟨Nat.le_of_ble_eq_true rfl, Nat.le_of_ble_eq_true rfl⟩) (pv_ofE (fun U V z1 z2 z => x_T.same x_allI z1 z2 z) (fun U z1 z2 => x_T.at x_allI hE z2 (by rw [z1]; exact x_kept.ofS hP0 hAe hS)) hPc hKc hDc (va_recv hKc hPc (ci := 11) (q0 := 0) rfl rfl)) rfl hl.1 rfl (Nat.le_of_ble_eq_true rfl) d_Vt_content_17 ⟨by decide, by decide⟩ hlocks hout ⟨by decide, by decide⟩ (fun E st t U z1 z2 z3 z4 z5 => x_outQ (wr := []) (w1 := [(v0, .inr (11, [.ref h0, .ref t0, .ref b0, .ref e0, .ref r0, .ref d0, .ref g0, .ref u0, .ref i0, .ref fa, .ref fw, .int fs, .int he, .int sta, .int lf, .int hru])), (i0, .inr (6, [.ref h0, .int ((in_find n f he (-1)).2)])), (h0, .inr (0, [.int sec, .ref h1, .int pw])), (h1, .inl (cB, n, .inl f))]) hS hP hD hK [3, 0, 1, 2] [] rfl rfl (by decide) (by decide) hFc z1 z3 z4 z5) ⟨hS.2.2, fun z h => hFc z h⟩
set_option maxHeartbeats 4000000 in
set_option maxRecDepth 100000 in
/-- about of no such item in an inode volume -/
theorem cx_Vt_about2B (l : Launch) (hfl : l.flags = pinnedFlags ++ [noTraceFlag]) (dC : Nat → ClassId) (dI : Nat → Nat → Nat) (v0 sz h0 t0 b0 e0 r0 d0 g0 u0 i0 fa fw : Nat) (fs he sta lf hru : Int32) (se : Int32) (h1 : Nat) (cB : ClassId) (sec pw : Int32) (n : Nat) (f : Nat → Int32) (h4 : 4 ≤ n) (hn : n < 2 ^ 31) (hit : in_there n f = 1) (p1 : Int32) (hkA : ¬ p1 < 0) (hkB : ¬ p1 < (in_find n f he (-1)).2 - 2) (p2 : Int32) : MetX l y_Vt_about (.code y_Vt_about b_Vt_about 5 (some .long) :: V_Vt) ({ frames := 7, cells := 1, slots := 6, locals := 129 }) (va_Pc [.ref v0, .int p1, .int p2] (fun U => U.heap.size = sz ∧ at_ (dC, dI) (fun _ => True) [(v0, .inr (11, [.ref h0, .ref t0, .ref b0, .ref e0, .ref r0, .ref d0, .ref g0, .ref u0, .ref i0, .ref fa, .ref fw, .int fs, .int he, .int sta, .int lf, .int hru])), (i0, .inr (6, [.ref h0, .int se])), (h0, .inr (0, [.int sec, .ref h1, .int pw])), (h1, .inl (cB, n, .inl f))] [(cB, .byte)] U ∧ x_T R_Vt 341 "java/lang/IndexOutOfBoundsException" 339 "no such item" U)) (fun _ _ _ _ => False) (x_Q "java/lang/IndexOutOfBoundsException" (va_A [(v0, .inr (11, [.ref h0, .ref t0, .ref b0, .ref e0, .ref r0, .ref d0, .ref g0, .ref u0, .ref i0, .ref fa, .ref fw, .int fs, .int he, .int sta, .int lf, .int hru])), (i0, .inr (6, [.ref h0, .int se])), (h0, .inr (0, [.int sec, .ref h1, .int pw])), (h1, .inl (cB, n, .inl f))] sz) (at_ (dC, dI) (va_A [(v0, .inr (11, [.ref h0, .ref t0, .ref b0, .ref e0, .ref r0, .ref d0, .ref g0, .ref u0, .ref i0, .ref fa, .ref fw, .int fs, .int he, .int sta, .int lf, .int hru])), (i0, .inr (6, [.ref h0, .int se])), (h0, .inr (0, [.int sec, .ref h1, .int pw])), (h1, .inl (cB, n, .inl f))] sz) [(v0, .inr (11, [.ref h0, .ref t0, .ref b0, .ref e0, .ref r0, .ref d0, .ref g0, .ref u0, .ref i0, .ref fa, .ref fw, .int fs, .int he, .int sta, .int lf, .int hru])), (i0, .inr (6, [.ref h0, .int ((in_find n f he (-1)).2)])), (h0, .inr (0, [.int sec, .ref h1, .int pw])), (h1, .inl (cB, n, .inl f))] [(cB, .byte)])) 1 6 (va_A [(v0, .inr (11, [.ref h0, .ref t0, .ref b0, .ref e0, .ref r0, .ref d0, .ref g0, .ref u0, .ref i0, .ref fa, .ref fw, .int fs, .int he, .int sta, .int lf, .int hru])), (i0, .inr (6, [.ref h0, .int se])), (h0, .inr (0, [.int sec, .ref h1, .int pw])), (h1, .inl (cB, n, .inl f))] sz) := by
  refine MetX.ofW (cc := b_Vt_about) (maxL := 5) (ret := (some .long)) (by decide) rfl ?_
  intro p e s m args below meth c s₁ B hml hv
  obtain ⟨rfl, hsz, ⟨hP, hK, hD0⟩, hE⟩ := hv
  have hx := B.exec
  have hb := B.bytes
  have hr := B.returns
  have hts0 := atoms_spec (ws := .code y_Vt_about b_Vt_about 5 (some .long) :: V_Vt) B.pre
  have hts : ∀ w ∈ V_Vt, w.before ([.ref v0, .int p1, .int p2] : List Value).toArray s = true := fun w h => hts0 w (List.mem_cons_of_mem _ h)
  have hown : s.vm.findClass R_Vt = some m.cls := findClass_of_methodNamed B.named
  have hlocks := B.notSynchronized
  subst hsz
  have hD := hD0.self (sz := s.heap.size)
  generalize hAe : va_A [(v0, .inr (11, [.ref h0, .ref t0, .ref b0, .ref e0, .ref r0, .ref d0, .ref g0, .ref u0, .ref i0, .ref fa, .ref fw, .int fs, .int he, .int sta, .int lf, .int hru])), (i0, .inr (6, [.ref h0, .int se])), (h0, .inr (0, [.int sec, .ref h1, .int pw])), (h1, .inl (cB, n, .inl f))] s.heap.size = A at hD ⊢
  have hA : ∀ q : Nat, s.heap.size ≤ q → A q := fun q h => by rw [← hAe]; exact Or.inr h
  have hS : va_S A s.heap s.heap [] := va_S.rf
  have hP : va_P (dC, dI) classes [(v0, .inr (11, [.ref h0, .ref t0, .ref b0, .ref e0, .ref r0, .ref d0, .ref g0, .ref u0, .ref i0, .ref fa, .ref fw, .int fs, .int he, .int sta, .int lf, .int hru])), (i0, .inr (6, [.ref h0, .int se])), (h0, .inr (0, [.int sec, .ref h1, .int pw])), (h1, .inl (cB, n, .inl f))] s.heap := hP
  have hK : va_K (dC, dI) classes [(cB, .byte)] s := hK
  have hP0 := hP
  have hout := x_table B (hts0 _ List.mem_cons_self)
  have hl := lv_entry ([.ref v0, .int p1, .int p2]) (n := 5) (Nat.le_of_ble_eq_true rfl)
  rw [lg_entry_eq]
  generalize (lg_sl ([.ref v0, .int p1, .int p2]) ++ List.replicate (5 - (lg_sl ([.ref v0, .int p1, .int p2])).length) Slot.unset).toArray = ls at hl ⊢
  have hl : lv_has ls 5 [(0, .ref v0), (1, .int p1), (2, .int p2)] := hl
  refine lv_aload_n hx hb d_Vt_about_0 rfl (lv_at hl 0 rfl) ?_
  refine lv_aload_n hx hb d_Vt_about_1 rfl (lv_at hl 0 rfl) ?_
  have hPc := hP.sub (ws' := [(v0, .inr (11, [.ref h0, .ref t0, .ref b0, .ref e0, .ref r0, .ref d0, .ref g0, .ref u0, .ref i0, .ref fa, .ref fw, .int fs, .int he, .int sta, .int lf, .int hru])), (i0, .inr (6, [.ref h0, .int se])), (h0, .inr (0, [.int sec, .ref h1, .int pw])), (h1, .inl (cB, n, .inl f))]) [0, 1, 2, 3] rfl
  have hDc := hD.sub (ws' := [(v0, .inr (11, [.ref h0, .ref t0, .ref b0, .ref e0, .ref r0, .ref d0, .ref g0, .ref u0, .ref i0, .ref fa, .ref fw, .int fs, .int he, .int sta, .int lf, .int hru])), (i0, .inr (6, [.ref h0, .int se])), (h0, .inr (0, [.int sec, .ref h1, .int pw])), (h1, .inl (cB, n, .inl f))]) [0, 1, 2, 3] (by decide) rfl
  have hKc := hK.sub (tys' := [(cB, .byte)]) [0] rfl
  have hFc := va_free (wc := [(v0, .inr (11, [.ref h0, .ref t0, .ref b0, .ref e0, .ref r0, .ref d0, .ref g0, .ref u0, .ref i0, .ref fa, .ref fw, .int fs, .int he, .int sta, .int lf, .int hru])), (i0, .inr (6, [.ref h0, .int se])), (h0, .inr (0, [.int sec, .ref h1, .int pw])), (h1, .inl (cB, n, .inl f))]) hD hS hA [0, 1, 2, 3] rfl
  refine va_calli (va_runV (As := []) (rest := [.ref v0]) ⟨hx, hb, hml, hown, hts⟩ (c_Vt_look2 l dC dI v0 s.heap.size h0 t0 b0 e0 r0 d0 g0 u0 i0 fa fw fs he sta lf hru se h1 cB sec pw n f h4 hn hit) (cwV 0 hts (gwV good_Vt (k_Vt_68) (k_Vt_69) (k_Vt_214) (k_Vt_0) (wcs (k_Vt_70) (fun _ h => h))) rfl rfl rfl (by decide +kernel) ⟨Nat.le_of_ble_eq_true rfl, Nat.le_of_ble_eq_true rfl⟩) (pv_of hPc hKc hDc (va_recv hKc hPc (ci := 11) (q0 := 0) rfl rfl)) rfl rfl hl.1 rfl (lv_room (Nat.le_of_ble_eq_true rfl)) d_Vt_about_2 ⟨by decide, by decide⟩) hS (fun q _ h => hFc q h) hFc (fun r_1 u t H1 locs ht hvm hw hB hz1 hk1 hS => ?_)
  subst hw
  obtain ⟨hP1, hK1, hD1⟩ := hB
  rw [ht] at hP1
  have hP1 : va_P (dC, dI) classes [(v0, .inr (11, [.ref h0, .ref t0, .ref b0, .ref e0, .ref r0, .ref d0, .ref g0, .ref u0, .ref i0, .ref fa, .ref fw, .int fs, .int he, .int sta, .int lf, .int hru])), (i0, .inr (6, [.ref h0, .int se])), (h0, .inr (0, [.int sec, .ref h1, .int pw])), (h1, .inl (cB, n, .inl f))] H1 := hP1
  have hD1 : va_D _ [(v0, .inr (11, [.ref h0, .ref t0, .ref b0, .ref e0, .ref r0, .ref d0, .ref g0, .ref u0, .ref i0, .ref fa, .ref fw, .int fs, .int he, .int sta, .int lf, .int hru])), (i0, .inr (6, [.ref h0, .int se])), (h0, .inr (0, [.int sec, .ref h1, .int pw])), (h1, .inl (cB, n, .inl f))] := hD1
  obtain ⟨hP, hD⟩ := va_join (wr := []) (w1 := [(v0, .inr (11, [.ref h0, .ref t0, .ref b0, .ref e0, .ref r0, .ref d0, .ref g0, .ref u0, .ref i0, .ref fa, .ref fw, .int fs, .int he, .int sta, .int lf, .int hru])), (i0, .inr (6, [.ref h0, .int se])), (h0, .inr (0, [.int sec, .ref h1, .int pw])), (h1, .inl (cB, n, .inl f))]) hP hD [0, 1, 2, 3] [] rfl rfl (by decide) (by decide) hk1 hFc hP1 hD1
  generalize H1 = H at hP hS ⊢
  have hP : va_P (dC, dI) classes [(v0, .inr (11, [.ref h0, .ref t0, .ref b0, .ref e0, .ref r0, .ref d0, .ref g0, .ref u0, .ref i0, .ref fa, .ref fw, .int fs, .int he, .int sta, .int lf, .int hru])), (i0, .inr (6, [.ref h0, .int se])), (h0, .inr (0, [.int sec, .ref h1, .int pw])), (h1, .inl (cB, n, .inl f))] H := hP
  have hD : va_D A [(v0, .inr (11, [.ref h0, .ref t0, .ref b0, .ref e0, .ref r0, .ref d0, .ref g0, .ref u0, .ref i0, .ref fa, .ref fw, .int fs, .int he, .int sta, .int lf, .int hru])), (i0, .inr (6, [.ref h0, .int se])), (h0, .inr (0, [.int sec, .ref h1, .int pw])), (h1, .inl (cB, n, .inl f))] := hD
  have hPc := hP.sub (ws' := [(v0, .inr (11, [.ref h0, .ref t0, .ref b0, .ref e0, .ref r0, .ref d0, .ref g0, .ref u0, .ref i0, .ref fa, .ref fw, .int fs, .int he, .int sta, .int lf, .int hru]))]) [0] rfl
  have hDc := hD.sub (ws' := [(v0, .inr (11, [.ref h0, .ref t0, .ref b0, .ref e0, .ref r0, .ref d0, .ref g0, .ref u0, .ref i0, .ref fa, .ref fw, .int fs, .int he, .int sta, .int lf, .int hru]))]) [0] (by decide) rfl
  have hKc := hK.sub (tys' := []) [] rfl
  have hFc := va_free (wc := [(v0, .inr (11, [.ref h0, .ref t0, .ref b0, .ref e0, .ref r0, .ref d0, .ref g0, .ref u0, .ref i0, .ref fa, .ref fw, .int fs, .int he, .int sta, .int lf, .int hru]))]) hD hS hA [0] rfl
  refine va_calli (va_runV (As := [.int 2]) (rest := []) ⟨hx, hb, hml, hown, hts⟩ (c_Vt_readsInodes2 l dC dI v0 H.size h0 t0 b0 e0 r0 d0 g0 u0 i0 fa fw fs he sta lf hru) (cwV 1 hts (gwV good_Vt (k_Vt_111) (k_Vt_112) (k_Vt_215) (k_Vt_0) (wcs (k_Vt_113) (fun _ h => h))) rfl rfl rfl (by decide +kernel) ⟨Nat.le_of_ble_eq_true rfl, Nat.le_of_ble_eq_true rfl⟩) (pv_of hPc hKc hDc (va_recv hKc hPc (ci := 11) (q0 := 0) rfl rfl)) rfl rfl hl.1 rfl (lv_room (Nat.le_of_ble_eq_true rfl)) d_Vt_about_5 ⟨by decide, by decide⟩) hS (fun q _ h => hFc q h) hFc (fun r_2 u t H1 locs ht hvm hw hB hz1 hk1 hS => ?_)
  subst hw
  obtain ⟨hP1, hK1, hD1⟩ := hB
  rw [ht] at hP1
  have hP1 : va_P (dC, dI) classes [(v0, .inr (11, [.ref h0, .ref t0, .ref b0, .ref e0, .ref r0, .ref d0, .ref g0, .ref u0, .ref i0, .ref fa, .ref fw, .int fs, .int he, .int sta, .int lf, .int hru]))] H1 := hP1
  have hD1 : va_D _ [(v0, .inr (11, [.ref h0, .ref t0, .ref b0, .ref e0, .ref r0, .ref d0, .ref g0, .ref u0, .ref i0, .ref fa, .ref fw, .int fs, .int he, .int sta, .int lf, .int hru]))] := hD1
  obtain ⟨hP, hD⟩ := va_join (wr := [(i0, .inr (6, [.ref h0, .int se])), (h0, .inr (0, [.int sec, .ref h1, .int pw])), (h1, .inl (cB, n, .inl f))]) (w1 := [(v0, .inr (11, [.ref h0, .ref t0, .ref b0, .ref e0, .ref r0, .ref d0, .ref g0, .ref u0, .ref i0, .ref fa, .ref fw, .int fs, .int he, .int sta, .int lf, .int hru]))]) hP hD [0] [1, 2, 3] rfl rfl (by decide) (by decide) hk1 hFc hP1 hD1
  generalize H1 = H at hP hS ⊢
  have hP : va_P (dC, dI) classes [(i0, .inr (6, [.ref h0, .int se])), (h0, .inr (0, [.int sec, .ref h1, .int pw])), (h1, .inl (cB, n, .inl f)), (v0, .inr (11, [.ref h0, .ref t0, .ref b0, .ref e0, .ref r0, .ref d0, .ref g0, .ref u0, .ref i0, .ref fa, .ref fw, .int fs, .int he, .int sta, .int lf, .int hru]))] H := hP
  have hD : va_D A [(i0, .inr (6, [.ref h0, .int se])), (h0, .inr (0, [.int sec, .ref h1, .int pw])), (h1, .inl (cB, n, .inl f)), (v0, .inr (11, [.ref h0, .ref t0, .ref b0, .ref e0, .ref r0, .ref d0, .ref g0, .ref u0, .ref i0, .ref fa, .ref fw, .int fs, .int he, .int sta, .int lf, .int hru]))] := hD
  refine lv_istore_n (lv' := [(3, .int 1), (0, .ref v0), (1, .int p1), (2, .int p2)]) hx hb d_Vt_about_8 rfl hl (by decide) rfl (fun ls hl => ?_)
  refine lv_iload_n hx hb d_Vt_about_9 rfl (lv_at hl 0 rfl) ?_
  refine lv_if_eq (tgt := 21) hx hb d_Vt_about_10 (by decide) (fun c_3 => ?_) (fun c_3 => ?_)
  · exact absurd c_3 (by decide)
  · refine lv_aload_n hx hb d_Vt_about_13 rfl (lv_at hl 1 rfl) ?_
    refine lv_iload_n hx hb d_Vt_about_14 rfl (lv_at hl 2 rfl) ?_
    have hPc := hP.sub (ws' := [(v0, .inr (11, [.ref h0, .ref t0, .ref b0, .ref e0, .ref r0, .ref d0, .ref g0, .ref u0, .ref i0, .ref fa, .ref fw, .int fs, .int he, .int sta, .int lf, .int hru])), (i0, .inr (6, [.ref h0, .int se])), (h0, .inr (0, [.int sec, .ref h1, .int pw])), (h1, .inl (cB, n, .inl f))]) [3, 0, 1, 2] rfl
    have hDc := hD.sub (ws' := [(v0, .inr (11, [.ref h0, .ref t0, .ref b0, .ref e0, .ref r0, .ref d0, .ref g0, .ref u0, .ref i0, .ref fa, .ref fw, .int fs, .int he, .int sta, .int lf, .int hru])), (i0, .inr (6, [.ref h0, .int se])), (h0, .inr (0, [.int sec, .ref h1, .int pw])), (h1, .inl (cB, n, .inl f))]) [3, 0, 1, 2] (by decide) rfl
    have hKc := hK.sub (tys' := [(cB, .byte)]) [0] rfl
    have hFc := va_free (wc := [(v0, .inr (11, [.ref h0, .ref t0, .ref b0, .ref e0, .ref r0, .ref d0, .ref g0, .ref u0, .ref i0, .ref fa, .ref fw, .int fs, .int he, .int sta, .int lf, .int hru])), (i0, .inr (6, [.ref h0, .int se])), (h0, .inr (0, [.int sec, .ref h1, .int pw])), (h1, .inl (cB, n, .inl f))]) hD hS hA [3, 0, 1, 2] rfl
    exact x_outV (n := 1) (As := [.int p1]) (rest := []) (b := v0) (st0 := [.int p1, .ref v0]) ⟨hx, hb, hml, hown, hts⟩ (cx_Vt_entryHereB l hfl dC dI v0 H.size h0 t0 b0 e0 r0 d0 g0 u0 i0 fa fw fs he sta lf hru se h1 cB sec pw n f h4 hn p1 hkA hkB) (cwV 1 hts (gwV good_Vt (k_Vt_122) (k_Vt_123) (k_Vt_218) (k_Vt_0) (wcs (k_Vt_124) (fun _ h => h))) rfl rfl rfl (by decide +kernel) ⟨Nat.le_of_ble_eq_true rfl, Nat.le_of_ble_eq_true rfl⟩) (pv_ofE (fun U V z1 z2 z => x_T.same x_allI z1 z2 z) (fun U z1 z2 => x_T.at x_allI hE z2 (by rw [z1]; exact x_kept.ofS hP0 hAe hS)) hPc hKc hDc (va_recv hKc hPc (ci := 11) (q0 := 0) rfl rfl)) rfl hl.1 rfl (by decide) d_Vt_about_15 ⟨by decide, by decide⟩ hlocks hout ⟨by decide, by decide⟩ (fun E st t U z1 z2 z3 z4 z5 => x_outQ (wr := []) (w1 := [(v0, .inr (11, [.ref h0, .ref t0, .ref b0, .ref e0, .ref r0, .ref d0, .ref g0, .ref u0, .ref i0, .ref fa, .ref fw, .int fs, .int he, .int sta, .int lf, .int hru])), (i0, .inr (6, [.ref h0, .int ((in_find n f he (-1)).2)])), (h0, .inr (0, [.int sec, .ref h1, .int pw])), (h1, .inl (cB, n, .inl f))]) hS hP hD hK [3, 0, 1, 2] [] rfl rfl (by decide) (by decide) hFc z1 z3 z4 z5) ⟨hS.2.2, fun z h => hFc z h⟩
set_option maxHeartbeats 4000000 in
set_option maxRecDepth 100000 in
/-- enter of no such item in an inode volume -/
theorem cx_Vt_enter2B (l : Launch) (hfl : l.flags = pinnedFlags ++ [noTraceFlag]) (dC : Nat → ClassId) (dI : Nat → Nat → Nat) (v0 sz h0 t0 b0 e0 r0 d0 g0 u0 i0 fa fw : Nat) (fs he sta lf hru : Int32) (se : Int32) (h1 : Nat) (cB : ClassId) (sec pw : Int32) (n : Nat) (f : Nat → Int32) (h4 : 4 ≤ n) (hn : n < 2 ^ 31) (hit : in_there n f = 1) (p1 : Int32) (hkA : ¬ p1 < 0) (hkB : ¬ p1 < (in_find n f he (-1)).2 - 2) : MetX l y_Vt_enter (.code y_Vt_enter b_Vt_enter 4 (some .int) :: V_Vt) ({ frames := 7, cells := 1, slots := 6, locals := 129 }) (va_Pc [.ref v0, .int p1] (fun U => U.heap.size = sz ∧ at_ (dC, dI) (fun _ => True) [(v0, .inr (11, [.ref h0, .ref t0, .ref b0, .ref e0, .ref r0, .ref d0, .ref g0, .ref u0, .ref i0, .ref fa, .ref fw, .int fs, .int he, .int sta, .int lf, .int hru])), (i0, .inr (6, [.ref h0, .int se])), (h0, .inr (0, [.int sec, .ref h1, .int pw])), (h1, .inl (cB, n, .inl f))] [(cB, .byte)] U ∧ x_T R_Vt 341 "java/lang/IndexOutOfBoundsException" 339 "no such item" U)) (fun _ _ _ _ => False) (x_Q "java/lang/IndexOutOfBoundsException" (va_A [(v0, .inr (11, [.ref h0, .ref t0, .ref b0, .ref e0, .ref r0, .ref d0, .ref g0, .ref u0, .ref i0, .ref fa, .ref fw, .int fs, .int he, .int sta, .int lf, .int hru])), (i0, .inr (6, [.ref h0, .int se])), (h0, .inr (0, [.int sec, .ref h1, .int pw])), (h1, .inl (cB, n, .inl f))] sz) (at_ (dC, dI) (va_A [(v0, .inr (11, [.ref h0, .ref t0, .ref b0, .ref e0, .ref r0, .ref d0, .ref g0, .ref u0, .ref i0, .ref fa, .ref fw, .int fs, .int he, .int sta, .int lf, .int hru])), (i0, .inr (6, [.ref h0, .int se])), (h0, .inr (0, [.int sec, .ref h1, .int pw])), (h1, .inl (cB, n, .inl f))] sz) [(v0, .inr (11, [.ref h0, .ref t0, .ref b0, .ref e0, .ref r0, .ref d0, .ref g0, .ref u0, .ref i0, .ref fa, .ref fw, .int fs, .int he, .int sta, .int lf, .int hru])), (i0, .inr (6, [.ref h0, .int ((in_find n f he (-1)).2)])), (h0, .inr (0, [.int sec, .ref h1, .int pw])), (h1, .inl (cB, n, .inl f))] [(cB, .byte)])) 1 6 (va_A [(v0, .inr (11, [.ref h0, .ref t0, .ref b0, .ref e0, .ref r0, .ref d0, .ref g0, .ref u0, .ref i0, .ref fa, .ref fw, .int fs, .int he, .int sta, .int lf, .int hru])), (i0, .inr (6, [.ref h0, .int se])), (h0, .inr (0, [.int sec, .ref h1, .int pw])), (h1, .inl (cB, n, .inl f))] sz) := by
  refine MetX.ofW (cc := b_Vt_enter) (maxL := 4) (ret := (some .int)) (by decide) rfl ?_
  intro p e s m args below meth c s₁ B hml hv
  obtain ⟨rfl, hsz, ⟨hP, hK, hD0⟩, hE⟩ := hv
  have hx := B.exec
  have hb := B.bytes
  have hr := B.returns
  have hts0 := atoms_spec (ws := .code y_Vt_enter b_Vt_enter 4 (some .int) :: V_Vt) B.pre
  have hts : ∀ w ∈ V_Vt, w.before ([.ref v0, .int p1] : List Value).toArray s = true := fun w h => hts0 w (List.mem_cons_of_mem _ h)
  have hown : s.vm.findClass R_Vt = some m.cls := findClass_of_methodNamed B.named
  have hlocks := B.notSynchronized
  subst hsz
  have hD := hD0.self (sz := s.heap.size)
  generalize hAe : va_A [(v0, .inr (11, [.ref h0, .ref t0, .ref b0, .ref e0, .ref r0, .ref d0, .ref g0, .ref u0, .ref i0, .ref fa, .ref fw, .int fs, .int he, .int sta, .int lf, .int hru])), (i0, .inr (6, [.ref h0, .int se])), (h0, .inr (0, [.int sec, .ref h1, .int pw])), (h1, .inl (cB, n, .inl f))] s.heap.size = A at hD ⊢
  have hA : ∀ q : Nat, s.heap.size ≤ q → A q := fun q h => by rw [← hAe]; exact Or.inr h
  have hS : va_S A s.heap s.heap [] := va_S.rf
  have hP : va_P (dC, dI) classes [(v0, .inr (11, [.ref h0, .ref t0, .ref b0, .ref e0, .ref r0, .ref d0, .ref g0, .ref u0, .ref i0, .ref fa, .ref fw, .int fs, .int he, .int sta, .int lf, .int hru])), (i0, .inr (6, [.ref h0, .int se])), (h0, .inr (0, [.int sec, .ref h1, .int pw])), (h1, .inl (cB, n, .inl f))] s.heap := hP
  have hK : va_K (dC, dI) classes [(cB, .byte)] s := hK
  have hP0 := hP
  have hout := x_table B (hts0 _ List.mem_cons_self)
  have hl := lv_entry ([.ref v0, .int p1]) (n := 4) (Nat.le_of_ble_eq_true rfl)
  rw [lg_entry_eq]
  generalize (lg_sl ([.ref v0, .int p1]) ++ List.replicate (4 - (lg_sl ([.ref v0, .int p1])).length) Slot.unset).toArray = ls at hl ⊢
  have hl : lv_has ls 4 [(0, .ref v0), (1, .int p1)] := hl
  refine lv_aload_n hx hb d_Vt_enter_0 rfl (lv_at hl 0 rfl) ?_
  refine lv_aload_n hx hb d_Vt_enter_1 rfl (lv_at hl 0 rfl) ?_
  have hPc := hP.sub (ws' := [(v0, .inr (11, [.ref h0, .ref t0, .ref b0, .ref e0, .ref r0, .ref d0, .ref g0, .ref u0, .ref i0, .ref fa, .ref fw, .int fs, .int he, .int sta, .int lf, .int hru])), (i0, .inr (6, [.ref h0, .int se])), (h0, .inr (0, [.int sec, .ref h1, .int pw])), (h1, .inl (cB, n, .inl f))]) [0, 1, 2, 3] rfl
  have hDc := hD.sub (ws' := [(v0, .inr (11, [.ref h0, .ref t0, .ref b0, .ref e0, .ref r0, .ref d0, .ref g0, .ref u0, .ref i0, .ref fa, .ref fw, .int fs, .int he, .int sta, .int lf, .int hru])), (i0, .inr (6, [.ref h0, .int se])), (h0, .inr (0, [.int sec, .ref h1, .int pw])), (h1, .inl (cB, n, .inl f))]) [0, 1, 2, 3] (by decide) rfl
  have hKc := hK.sub (tys' := [(cB, .byte)]) [0] rfl
  have hFc := va_free (wc := [(v0, .inr (11, [.ref h0, .ref t0, .ref b0, .ref e0, .ref r0, .ref d0, .ref g0, .ref u0, .ref i0, .ref fa, .ref fw, .int fs, .int he, .int sta, .int lf, .int hru])), (i0, .inr (6, [.ref h0, .int se])), (h0, .inr (0, [.int sec, .ref h1, .int pw])), (h1, .inl (cB, n, .inl f))]) hD hS hA [0, 1, 2, 3] rfl
  refine va_calli (va_runV (As := []) (rest := [.ref v0]) ⟨hx, hb, hml, hown, hts⟩ (c_Vt_look2 l dC dI v0 s.heap.size h0 t0 b0 e0 r0 d0 g0 u0 i0 fa fw fs he sta lf hru se h1 cB sec pw n f h4 hn hit) (cwV 0 hts (gwV good_Vt (k_Vt_68) (k_Vt_69) (k_Vt_214) (k_Vt_0) (wcs (k_Vt_70) (fun _ h => h))) rfl rfl rfl (by decide +kernel) ⟨Nat.le_of_ble_eq_true rfl, Nat.le_of_ble_eq_true rfl⟩) (pv_of hPc hKc hDc (va_recv hKc hPc (ci := 11) (q0 := 0) rfl rfl)) rfl rfl hl.1 rfl (lv_room (Nat.le_of_ble_eq_true rfl)) d_Vt_enter_2 ⟨by decide, by decide⟩) hS (fun q _ h => hFc q h) hFc (fun r_1 u t H1 locs ht hvm hw hB hz1 hk1 hS => ?_)
  subst hw
  obtain ⟨hP1, hK1, hD1⟩ := hB
  rw [ht] at hP1
  have hP1 : va_P (dC, dI) classes [(v0, .inr (11, [.ref h0, .ref t0, .ref b0, .ref e0, .ref r0, .ref d0, .ref g0, .ref u0, .ref i0, .ref fa, .ref fw, .int fs, .int he, .int sta, .int lf, .int hru])), (i0, .inr (6, [.ref h0, .int se])), (h0, .inr (0, [.int sec, .ref h1, .int pw])), (h1, .inl (cB, n, .inl f))] H1 := hP1
  have hD1 : va_D _ [(v0, .inr (11, [.ref h0, .ref t0, .ref b0, .ref e0, .ref r0, .ref d0, .ref g0, .ref u0, .ref i0, .ref fa, .ref fw, .int fs, .int he, .int sta, .int lf, .int hru])), (i0, .inr (6, [.ref h0, .int se])), (h0, .inr (0, [.int sec, .ref h1, .int pw])), (h1, .inl (cB, n, .inl f))] := hD1
  obtain ⟨hP, hD⟩ := va_join (wr := []) (w1 := [(v0, .inr (11, [.ref h0, .ref t0, .ref b0, .ref e0, .ref r0, .ref d0, .ref g0, .ref u0, .ref i0, .ref fa, .ref fw, .int fs, .int he, .int sta, .int lf, .int hru])), (i0, .inr (6, [.ref h0, .int se])), (h0, .inr (0, [.int sec, .ref h1, .int pw])), (h1, .inl (cB, n, .inl f))]) hP hD [0, 1, 2, 3] [] rfl rfl (by decide) (by decide) hk1 hFc hP1 hD1
  generalize H1 = H at hP hS ⊢
  have hP : va_P (dC, dI) classes [(v0, .inr (11, [.ref h0, .ref t0, .ref b0, .ref e0, .ref r0, .ref d0, .ref g0, .ref u0, .ref i0, .ref fa, .ref fw, .int fs, .int he, .int sta, .int lf, .int hru])), (i0, .inr (6, [.ref h0, .int se])), (h0, .inr (0, [.int sec, .ref h1, .int pw])), (h1, .inl (cB, n, .inl f))] H := hP
  have hD : va_D A [(v0, .inr (11, [.ref h0, .ref t0, .ref b0, .ref e0, .ref r0, .ref d0, .ref g0, .ref u0, .ref i0, .ref fa, .ref fw, .int fs, .int he, .int sta, .int lf, .int hru])), (i0, .inr (6, [.ref h0, .int se])), (h0, .inr (0, [.int sec, .ref h1, .int pw])), (h1, .inl (cB, n, .inl f))] := hD
  have hPc := hP.sub (ws' := [(v0, .inr (11, [.ref h0, .ref t0, .ref b0, .ref e0, .ref r0, .ref d0, .ref g0, .ref u0, .ref i0, .ref fa, .ref fw, .int fs, .int he, .int sta, .int lf, .int hru]))]) [0] rfl
  have hDc := hD.sub (ws' := [(v0, .inr (11, [.ref h0, .ref t0, .ref b0, .ref e0, .ref r0, .ref d0, .ref g0, .ref u0, .ref i0, .ref fa, .ref fw, .int fs, .int he, .int sta, .int lf, .int hru]))]) [0] (by decide) rfl
  have hKc := hK.sub (tys' := []) [] rfl
  have hFc := va_free (wc := [(v0, .inr (11, [.ref h0, .ref t0, .ref b0, .ref e0, .ref r0, .ref d0, .ref g0, .ref u0, .ref i0, .ref fa, .ref fw, .int fs, .int he, .int sta, .int lf, .int hru]))]) hD hS hA [0] rfl
  refine va_calli (va_runV (As := [.int 2]) (rest := []) ⟨hx, hb, hml, hown, hts⟩ (c_Vt_readsInodes2 l dC dI v0 H.size h0 t0 b0 e0 r0 d0 g0 u0 i0 fa fw fs he sta lf hru) (cwV 1 hts (gwV good_Vt (k_Vt_111) (k_Vt_112) (k_Vt_215) (k_Vt_0) (wcs (k_Vt_113) (fun _ h => h))) rfl rfl rfl (by decide +kernel) ⟨Nat.le_of_ble_eq_true rfl, Nat.le_of_ble_eq_true rfl⟩) (pv_of hPc hKc hDc (va_recv hKc hPc (ci := 11) (q0 := 0) rfl rfl)) rfl rfl hl.1 rfl (lv_room (Nat.le_of_ble_eq_true rfl)) d_Vt_enter_5 ⟨by decide, by decide⟩) hS (fun q _ h => hFc q h) hFc (fun r_2 u t H1 locs ht hvm hw hB hz1 hk1 hS => ?_)
  subst hw
  obtain ⟨hP1, hK1, hD1⟩ := hB
  rw [ht] at hP1
  have hP1 : va_P (dC, dI) classes [(v0, .inr (11, [.ref h0, .ref t0, .ref b0, .ref e0, .ref r0, .ref d0, .ref g0, .ref u0, .ref i0, .ref fa, .ref fw, .int fs, .int he, .int sta, .int lf, .int hru]))] H1 := hP1
  have hD1 : va_D _ [(v0, .inr (11, [.ref h0, .ref t0, .ref b0, .ref e0, .ref r0, .ref d0, .ref g0, .ref u0, .ref i0, .ref fa, .ref fw, .int fs, .int he, .int sta, .int lf, .int hru]))] := hD1
  obtain ⟨hP, hD⟩ := va_join (wr := [(i0, .inr (6, [.ref h0, .int se])), (h0, .inr (0, [.int sec, .ref h1, .int pw])), (h1, .inl (cB, n, .inl f))]) (w1 := [(v0, .inr (11, [.ref h0, .ref t0, .ref b0, .ref e0, .ref r0, .ref d0, .ref g0, .ref u0, .ref i0, .ref fa, .ref fw, .int fs, .int he, .int sta, .int lf, .int hru]))]) hP hD [0] [1, 2, 3] rfl rfl (by decide) (by decide) hk1 hFc hP1 hD1
  generalize H1 = H at hP hS ⊢
  have hP : va_P (dC, dI) classes [(i0, .inr (6, [.ref h0, .int se])), (h0, .inr (0, [.int sec, .ref h1, .int pw])), (h1, .inl (cB, n, .inl f)), (v0, .inr (11, [.ref h0, .ref t0, .ref b0, .ref e0, .ref r0, .ref d0, .ref g0, .ref u0, .ref i0, .ref fa, .ref fw, .int fs, .int he, .int sta, .int lf, .int hru]))] H := hP
  have hD : va_D A [(i0, .inr (6, [.ref h0, .int se])), (h0, .inr (0, [.int sec, .ref h1, .int pw])), (h1, .inl (cB, n, .inl f)), (v0, .inr (11, [.ref h0, .ref t0, .ref b0, .ref e0, .ref r0, .ref d0, .ref g0, .ref u0, .ref i0, .ref fa, .ref fw, .int fs, .int he, .int sta, .int lf, .int hru]))] := hD
  refine lv_istore_n (lv' := [(2, .int 1), (0, .ref v0), (1, .int p1)]) hx hb d_Vt_enter_8 rfl hl (by decide) rfl (fun ls hl => ?_)
  refine lv_iload_n hx hb d_Vt_enter_9 rfl (lv_at hl 0 rfl) ?_
  refine lv_if_eq (tgt := 21) hx hb d_Vt_enter_10 (by decide) (fun c_3 => ?_) (fun c_3 => ?_)
  · exact absurd c_3 (by decide)
  · refine lv_aload_n hx hb d_Vt_enter_13 rfl (lv_at hl 1 rfl) ?_
    refine lv_iload_n hx hb d_Vt_enter_14 rfl (lv_at hl 2 rfl) ?_
    have hPc := hP.sub (ws' := [(v0, .inr (11, [.ref h0, .ref t0, .ref b0, .ref e0, .ref r0, .ref d0, .ref g0, .ref u0, .ref i0, .ref fa, .ref fw, .int fs, .int he, .int sta, .int lf, .int hru])), (i0, .inr (6, [.ref h0, .int se])), (h0, .inr (0, [.int sec, .ref h1, .int pw])), (h1, .inl (cB, n, .inl f))]) [3, 0, 1, 2] rfl
    have hDc := hD.sub (ws' := [(v0, .inr (11, [.ref h0, .ref t0, .ref b0, .ref e0, .ref r0, .ref d0, .ref g0, .ref u0, .ref i0, .ref fa, .ref fw, .int fs, .int he, .int sta, .int lf, .int hru])), (i0, .inr (6, [.ref h0, .int se])), (h0, .inr (0, [.int sec, .ref h1, .int pw])), (h1, .inl (cB, n, .inl f))]) [3, 0, 1, 2] (by decide) rfl
    have hKc := hK.sub (tys' := [(cB, .byte)]) [0] rfl
    have hFc := va_free (wc := [(v0, .inr (11, [.ref h0, .ref t0, .ref b0, .ref e0, .ref r0, .ref d0, .ref g0, .ref u0, .ref i0, .ref fa, .ref fw, .int fs, .int he, .int sta, .int lf, .int hru])), (i0, .inr (6, [.ref h0, .int se])), (h0, .inr (0, [.int sec, .ref h1, .int pw])), (h1, .inl (cB, n, .inl f))]) hD hS hA [3, 0, 1, 2] rfl
    exact x_outV (n := 1) (As := [.int p1]) (rest := []) (b := v0) (st0 := [.int p1, .ref v0]) ⟨hx, hb, hml, hown, hts⟩ (cx_Vt_entryHereB l hfl dC dI v0 H.size h0 t0 b0 e0 r0 d0 g0 u0 i0 fa fw fs he sta lf hru se h1 cB sec pw n f h4 hn p1 hkA hkB) (cwV 1 hts (gwV good_Vt (k_Vt_122) (k_Vt_123) (k_Vt_218) (k_Vt_0) (wcs (k_Vt_124) (fun _ h => h))) rfl rfl rfl (by decide +kernel) ⟨Nat.le_of_ble_eq_true rfl, Nat.le_of_ble_eq_true rfl⟩) (pv_ofE (fun U V z1 z2 z => x_T.same x_allI z1 z2 z) (fun U z1 z2 => x_T.at x_allI hE z2 (by rw [z1]; exact x_kept.ofS hP0 hAe hS)) hPc hKc hDc (va_recv hKc hPc (ci := 11) (q0 := 0) rfl rfl)) rfl hl.1 rfl (by decide) d_Vt_enter_15 ⟨by decide, by decide⟩ hlocks hout ⟨by decide, by decide⟩ (fun E st t U z1 z2 z3 z4 z5 => x_outQ (wr := []) (w1 := [(v0, .inr (11, [.ref h0, .ref t0, .ref b0, .ref e0, .ref r0, .ref d0, .ref g0, .ref u0, .ref i0, .ref fa, .ref fw, .int fs, .int he, .int sta, .int lf, .int hru])), (i0, .inr (6, [.ref h0, .int ((in_find n f he (-1)).2)])), (h0, .inr (0, [.int sec, .ref h1, .int pw])), (h1, .inl (cB, n, .inl f))]) hS hP hD hK [3, 0, 1, 2] [] rfl rfl (by decide) (by decide) hFc z1 z3 z4 z5) ⟨hS.2.2, fun z h => hFc z h⟩
