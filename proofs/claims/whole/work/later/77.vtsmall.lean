set_option maxHeartbeats 4000000 in
set_option maxRecDepth 100000 in
/-- the tree is to be read anew -/
theorem c_Vt_changed (l : Launch) (dC : Nat → ClassId) (dI : Nat → Nat → Nat) (v0 sz h0 t0 b0 e0 r0 d0 g0 u0 i0 fa fw : Nat) (fs he sta lf hru : Int32) : Met l y_Vt_changed (.code y_Vt_changed b_Vt_changed 1 none :: V_Vt) ({ frames := 0, cells := 0, slots := 0, locals := 0 }) (va_Pc [.ref v0] (fun U => U.heap.size = sz ∧ at_ (dC, dI) (fun _ => True) [(v0, .inr (11, [.ref h0, .ref t0, .ref b0, .ref e0, .ref r0, .ref d0, .ref g0, .ref u0, .ref i0, .ref fa, .ref fw, .int fs, .int he, .int sta, .int lf, .int hru]))] [] U)) (va_Qv (fun u : Unit => True) (fun (u : Unit) t => at_ (dC, dI) (va_A [(v0, .inr (11, [.ref h0, .ref t0, .ref b0, .ref e0, .ref r0, .ref d0, .ref g0, .ref u0, .ref i0, .ref fa, .ref fw, .int fs, .int he, .int sta, .int lf, .int hru]))] sz) [(v0, .inr (11, [.ref h0, .ref t0, .ref b0, .ref e0, .ref r0, .ref d0, .ref g0, .ref u0, .ref i0, .ref fa, .ref fw, .int fs, .int he, .int 1, .int lf, .int hru]))] [] t) (va_A [(v0, .inr (11, [.ref h0, .ref t0, .ref b0, .ref e0, .ref r0, .ref d0, .ref g0, .ref u0, .ref i0, .ref fa, .ref fw, .int fs, .int he, .int sta, .int lf, .int hru]))] sz)) 0 0 (va_A [(v0, .inr (11, [.ref h0, .ref t0, .ref b0, .ref e0, .ref r0, .ref d0, .ref g0, .ref u0, .ref i0, .ref fa, .ref fw, .int fs, .int he, .int sta, .int lf, .int hru]))] sz) := by
  refine Met.ofW (cc := b_Vt_changed) (maxL := 1) (ret := none) (by decide) rfl ?_
  intro p e s m args below meth c s₁ B hml hv
  obtain ⟨rfl, hsz, hP, hK, hD0⟩ := hv
  have hx := B.exec
  have hb := B.bytes
  have hr := B.returns
  have hts0 := atoms_spec (ws := .code y_Vt_changed b_Vt_changed 1 none :: V_Vt) B.pre
  have hts : ∀ w ∈ V_Vt, w.before ([.ref v0] : List Value).toArray s = true := fun w h => hts0 w (List.mem_cons_of_mem _ h)
  have hown : s.vm.findClass R_Vt = some m.cls := findClass_of_methodNamed B.named
  have hlocks := B.notSynchronized
  subst hsz
  have hD := hD0.self (sz := s.heap.size)
  generalize hAe : va_A [(v0, .inr (11, [.ref h0, .ref t0, .ref b0, .ref e0, .ref r0, .ref d0, .ref g0, .ref u0, .ref i0, .ref fa, .ref fw, .int fs, .int he, .int sta, .int lf, .int hru]))] s.heap.size = A at hD ⊢
  have hA : ∀ q : Nat, s.heap.size ≤ q → A q := fun q h => by rw [← hAe]; exact Or.inr h
  have hS : va_S A s.heap s.heap [] := va_S.rf
  have hP : va_P (dC, dI) classes [(v0, .inr (11, [.ref h0, .ref t0, .ref b0, .ref e0, .ref r0, .ref d0, .ref g0, .ref u0, .ref i0, .ref fa, .ref fw, .int fs, .int he, .int sta, .int lf, .int hru]))] s.heap := hP
  have hK : va_K (dC, dI) classes [] s := hK
  have hl := lv_entry ([.ref v0]) (n := 1) (Nat.le_of_ble_eq_true rfl)
  rw [lg_entry_eq]
  generalize (lg_sl ([.ref v0]) ++ List.replicate (1 - (lg_sl ([.ref v0])).length) Slot.unset).toArray = ls at hl ⊢
  have hl : lv_has ls 1 [(0, .ref v0)] := hl
  refine lv_aload_n hx hb d_Vt_changed_0 rfl (lv_at hl 0 rfl) ?_
  refine lv_iconst (v := 1) hx hb d_Vt_changed_1 (by decide) ?_
  refine va_put (D := (dC, dI)) (ci := 11) (v := .int 1) (ty := .boolean) (C := R_Vt) (T := F_Vt) (N := 16) hx hb hts i_Vt t_Vt t_Vt_ok n_Vt hown hK hP hD hS 0 rfl rfl 13 (by decide) (hts _ (k_Vt_42)) (fun _ h9 => h9) rfl (by decide +kernel) rfl rfl (Nat.le_of_ble_eq_true rfl) d_Vt_changed_2 (fun H locs hP hD hS => ?_)
  have hP : va_P (dC, dI) classes [(v0, .inr (11, [.ref h0, .ref t0, .ref b0, .ref e0, .ref r0, .ref d0, .ref g0, .ref u0, .ref i0, .ref fa, .ref fw, .int fs, .int he, .int 1, .int lf, .int hru]))] H := hP
  have hD : va_D A [(v0, .inr (11, [.ref h0, .ref t0, .ref b0, .ref e0, .ref r0, .ref d0, .ref g0, .ref u0, .ref i0, .ref fa, .ref fw, .int fs, .int he, .int 1, .int lf, .int hru]))] := hD
  exact W.vret hx hb hr (fun t ht hW => ⟨⟨(), rfl, trivial, by rw [ht]; exact hP, va_K.moved hW.alike hK, hD⟩, hS.F ht⟩) hS.2.2 d_Vt_changed_5
set_option maxHeartbeats 4000000 in
set_option maxRecDepth 100000 in
/-- feed -/
theorem c_Vt_feed (l : Launch) (dC : Nat → ClassId) (dI : Nat → Nat → Nat) (v0 sz h0 t0 b0 e0 r0 d0 g0 u0 i0 fa fw : Nat) (fs he sta lf hru : Int32) (t1 t2 : Nat) (c2 c3 : ClassId) (tb tr : Nat → Int32) (us : Int32) (p1 p2 p3 p4 p5 : Int32) : Met l y_Vt_feed (.code y_Vt_feed b_Vt_feed 6 none :: V_Vt) ({ frames := 1, cells := 0, slots := 0, locals := 23 }) (va_Pc [.ref v0, .int p1, .int p2, .int p3, .int p4, .int p5] (fun U => U.heap.size = sz ∧ at_ (dC, dI) (fun _ => True) [(v0, .inr (11, [.ref h0, .ref t0, .ref b0, .ref e0, .ref r0, .ref d0, .ref g0, .ref u0, .ref i0, .ref fa, .ref fw, .int fs, .int he, .int sta, .int lf, .int hru])), (t0, .inr (3, [.ref t1, .ref t2, .int us])), (t1, .inl (c2, 4096, .inl tb)), (t2, .inl (c3, 20, .inl tr))] [(c2, .byte), (c3, .byte)] U)) (va_Qv (fun u : Unit => True) (fun (u : Unit) t => at_ (dC, dI) (va_A [(v0, .inr (11, [.ref h0, .ref t0, .ref b0, .ref e0, .ref r0, .ref d0, .ref g0, .ref u0, .ref i0, .ref fa, .ref fw, .int fs, .int he, .int sta, .int lf, .int hru])), (t0, .inr (3, [.ref t1, .ref t2, .int us])), (t1, .inl (c2, 4096, .inl tb)), (t2, .inl (c3, 20, .inl tr))] sz) [(v0, .inr (11, [.ref h0, .ref t0, .ref b0, .ref e0, .ref r0, .ref d0, .ref g0, .ref u0, .ref i0, .ref fa, .ref fw, .int fs, .int he, .int sta, .int lf, .int hru])), (t0, .inr (3, [.ref t1, .ref t2, .int us])), (t1, .inl (c2, 4096, .inl tb)), (t2, .inl (c3, 20, .inl (tp_prep (tp_prep (tp_prep (tp_prep (tp_prep tr 0 p1) 4 p2) 8 p3) 12 p4) 16 p5)))] [(c2, .byte), (c3, .byte)] t) (va_A [(v0, .inr (11, [.ref h0, .ref t0, .ref b0, .ref e0, .ref r0, .ref d0, .ref g0, .ref u0, .ref i0, .ref fa, .ref fw, .int fs, .int he, .int sta, .int lf, .int hru])), (t0, .inr (3, [.ref t1, .ref t2, .int us])), (t1, .inl (c2, 4096, .inl tb)), (t2, .inl (c3, 20, .inl tr))] sz)) 0 0 (va_A [(v0, .inr (11, [.ref h0, .ref t0, .ref b0, .ref e0, .ref r0, .ref d0, .ref g0, .ref u0, .ref i0, .ref fa, .ref fw, .int fs, .int he, .int sta, .int lf, .int hru])), (t0, .inr (3, [.ref t1, .ref t2, .int us])), (t1, .inl (c2, 4096, .inl tb)), (t2, .inl (c3, 20, .inl tr))] sz) := by
  refine Met.ofW (cc := b_Vt_feed) (maxL := 6) (ret := none) (by decide) rfl ?_
  intro p e s m args below meth c s₁ B hml hv
  obtain ⟨rfl, hsz, hP, hK, hD0⟩ := hv
  have hx := B.exec
  have hb := B.bytes
  have hr := B.returns
  have hts0 := atoms_spec (ws := .code y_Vt_feed b_Vt_feed 6 none :: V_Vt) B.pre
  have hts : ∀ w ∈ V_Vt, w.before ([.ref v0, .int p1, .int p2, .int p3, .int p4, .int p5] : List Value).toArray s = true := fun w h => hts0 w (List.mem_cons_of_mem _ h)
  have hown : s.vm.findClass R_Vt = some m.cls := findClass_of_methodNamed B.named
  have hlocks := B.notSynchronized
  subst hsz
  have hD := hD0.self (sz := s.heap.size)
  generalize hAe : va_A [(v0, .inr (11, [.ref h0, .ref t0, .ref b0, .ref e0, .ref r0, .ref d0, .ref g0, .ref u0, .ref i0, .ref fa, .ref fw, .int fs, .int he, .int sta, .int lf, .int hru])), (t0, .inr (3, [.ref t1, .ref t2, .int us])), (t1, .inl (c2, 4096, .inl tb)), (t2, .inl (c3, 20, .inl tr))] s.heap.size = A at hD ⊢
  have hA : ∀ q : Nat, s.heap.size ≤ q → A q := fun q h => by rw [← hAe]; exact Or.inr h
  have hS : va_S A s.heap s.heap [] := va_S.rf
  have hP : va_P (dC, dI) classes [(v0, .inr (11, [.ref h0, .ref t0, .ref b0, .ref e0, .ref r0, .ref d0, .ref g0, .ref u0, .ref i0, .ref fa, .ref fw, .int fs, .int he, .int sta, .int lf, .int hru])), (t0, .inr (3, [.ref t1, .ref t2, .int us])), (t1, .inl (c2, 4096, .inl tb)), (t2, .inl (c3, 20, .inl tr))] s.heap := hP
  have hK : va_K (dC, dI) classes [(c2, .byte), (c3, .byte)] s := hK
  have hl := lv_entry ([.ref v0, .int p1, .int p2, .int p3, .int p4, .int p5]) (n := 6) (Nat.le_of_ble_eq_true rfl)
  rw [lg_entry_eq]
  generalize (lg_sl ([.ref v0, .int p1, .int p2, .int p3, .int p4, .int p5]) ++ List.replicate (6 - (lg_sl ([.ref v0, .int p1, .int p2, .int p3, .int p4, .int p5])).length) Slot.unset).toArray = ls at hl ⊢
  have hl : lv_has ls 6 [(0, .ref v0), (1, .int p1), (2, .int p2), (3, .int p3), (4, .int p4), (5, .int p5)] := hl
  refine lv_aload_n hx hb d_Vt_feed_0 rfl (lv_at hl 0 rfl) ?_
  refine va_get (D := (dC, dI)) (ci := 11) (v := .ref t0) (C := R_Vt) (T := F_Vt) (N := 16) hx hb hts i_Vt hown hK hP 0 rfl rfl 1 (by decide) (hts _ (k_Vt_30)) (fun _ h9 => h9) rfl d_Vt_feed_1 ?_
  refine lv_iconst (v := 0) hx hb d_Vt_feed_4 (by decide) ?_
  refine lv_iload_n hx hb d_Vt_feed_5 rfl (lv_at hl 1 rfl) ?_
  have hPc := hP.sub (ws' := [(t0, .inr (3, [.ref t1, .ref t2, .int us])), (t1, .inl (c2, 4096, .inl tb)), (t2, .inl (c3, 20, .inl tr))]) [1, 2, 3] rfl
  have hDc := hD.sub (ws' := [(t0, .inr (3, [.ref t1, .ref t2, .int us])), (t1, .inl (c2, 4096, .inl tb)), (t2, .inl (c3, 20, .inl tr))]) [1, 2, 3] (by decide) rfl
  have hKc := hK.sub (tys' := [(c2, .byte), (c3, .byte)]) [0, 1] rfl
  have hFc := va_free (wc := [(t0, .inr (3, [.ref t1, .ref t2, .int us])), (t1, .inl (c2, 4096, .inl tb)), (t2, .inl (c3, 20, .inl tr))]) hD hS hA [1, 2, 3] rfl
  refine va_callv (va_runV (As := [.int 0, .int p1]) (rest := []) ⟨hx, hb, hml, hown, hts⟩ (c_Tp_prepare l dC dI t0 t1 t2 s.heap.size c2 c3 tb tr us 0 (by decide) p1) (cwV 2 hts (gwV good_Vt (k_Vt_48) (u_Vt_Tp _ k_Tp_8) (u_Vt_Tp _ k_Tp_9) (u_Vt_Tp _ k_Tp_0) (wcs (u_Vt_Tp _ k_Tp_10) u_Vt_Tp)) rfl rfl rfl (by decide +kernel) ⟨Nat.le_of_ble_eq_true rfl, Nat.le_of_ble_eq_true rfl⟩) (pv_of hPc hKc hDc (va_recv hKc hPc (ci := 3) (q0 := 0) rfl rfl)) rfl rfl hl.1 rfl (lv_room (Nat.le_of_ble_eq_true rfl)) d_Vt_feed_6 ⟨by decide, by decide⟩) hS (fun q _ h => hFc q h) hFc (fun u t H1 locs ht hvm hw hB hz1 hk1 hS => ?_)
  subst hw
  obtain ⟨hP1, hK1, hD1⟩ := hB
  rw [ht] at hP1
  have hP1 : va_P (dC, dI) classes [(t0, .inr (3, [.ref t1, .ref t2, .int us])), (t1, .inl (c2, 4096, .inl tb)), (t2, .inl (c3, 20, .inl (tp_prep tr 0 p1)))] H1 := hP1
  have hD1 : va_D _ [(t0, .inr (3, [.ref t1, .ref t2, .int us])), (t1, .inl (c2, 4096, .inl tb)), (t2, .inl (c3, 20, .inl (tp_prep tr 0 p1)))] := hD1
  obtain ⟨hP, hD⟩ := va_join (wr := [(v0, .inr (11, [.ref h0, .ref t0, .ref b0, .ref e0, .ref r0, .ref d0, .ref g0, .ref u0, .ref i0, .ref fa, .ref fw, .int fs, .int he, .int sta, .int lf, .int hru]))]) (w1 := [(t0, .inr (3, [.ref t1, .ref t2, .int us])), (t1, .inl (c2, 4096, .inl tb)), (t2, .inl (c3, 20, .inl (tp_prep tr 0 p1)))]) hP hD [1, 2, 3] [0] rfl rfl (by decide) (by decide) hk1 hFc hP1 hD1
  generalize H1 = H at hP hS ⊢
  have hP : va_P (dC, dI) classes [(v0, .inr (11, [.ref h0, .ref t0, .ref b0, .ref e0, .ref r0, .ref d0, .ref g0, .ref u0, .ref i0, .ref fa, .ref fw, .int fs, .int he, .int sta, .int lf, .int hru])), (t0, .inr (3, [.ref t1, .ref t2, .int us])), (t1, .inl (c2, 4096, .inl tb)), (t2, .inl (c3, 20, .inl (tp_prep tr 0 p1)))] H := hP
  have hD : va_D A [(v0, .inr (11, [.ref h0, .ref t0, .ref b0, .ref e0, .ref r0, .ref d0, .ref g0, .ref u0, .ref i0, .ref fa, .ref fw, .int fs, .int he, .int sta, .int lf, .int hru])), (t0, .inr (3, [.ref t1, .ref t2, .int us])), (t1, .inl (c2, 4096, .inl tb)), (t2, .inl (c3, 20, .inl (tp_prep tr 0 p1)))] := hD
  refine lv_aload_n hx hb d_Vt_feed_9 rfl (lv_at hl 0 rfl) ?_
  refine va_get (D := (dC, dI)) (ci := 11) (v := .ref t0) (C := R_Vt) (T := F_Vt) (N := 16) hx hb hts i_Vt hown hK hP 0 rfl rfl 1 (by decide) (hts _ (k_Vt_30)) (fun _ h9 => h9) rfl d_Vt_feed_10 ?_
  refine lv_iconst (v := 4) hx hb d_Vt_feed_13 (by decide) ?_
  refine lv_iload_n hx hb d_Vt_feed_14 rfl (lv_at hl 2 rfl) ?_
  have hPc := hP.sub (ws' := [(t0, .inr (3, [.ref t1, .ref t2, .int us])), (t1, .inl (c2, 4096, .inl tb)), (t2, .inl (c3, 20, .inl (tp_prep tr 0 p1)))]) [1, 2, 3] rfl
  have hDc := hD.sub (ws' := [(t0, .inr (3, [.ref t1, .ref t2, .int us])), (t1, .inl (c2, 4096, .inl tb)), (t2, .inl (c3, 20, .inl (tp_prep tr 0 p1)))]) [1, 2, 3] (by decide) rfl
  have hKc := hK.sub (tys' := [(c2, .byte), (c3, .byte)]) [0, 1] rfl
  have hFc := va_free (wc := [(t0, .inr (3, [.ref t1, .ref t2, .int us])), (t1, .inl (c2, 4096, .inl tb)), (t2, .inl (c3, 20, .inl (tp_prep tr 0 p1)))]) hD hS hA [1, 2, 3] rfl
  refine va_callv (va_runV (As := [.int 4, .int p2]) (rest := []) ⟨hx, hb, hml, hown, hts⟩ (c_Tp_prepare l dC dI t0 t1 t2 H.size c2 c3 tb (tp_prep tr 0 p1) us 4 (by decide) p2) (cwV 2 hts (gwV good_Vt (k_Vt_48) (u_Vt_Tp _ k_Tp_8) (u_Vt_Tp _ k_Tp_9) (u_Vt_Tp _ k_Tp_0) (wcs (u_Vt_Tp _ k_Tp_10) u_Vt_Tp)) rfl rfl rfl (by decide +kernel) ⟨Nat.le_of_ble_eq_true rfl, Nat.le_of_ble_eq_true rfl⟩) (pv_of hPc hKc hDc (va_recv hKc hPc (ci := 3) (q0 := 0) rfl rfl)) rfl rfl hl.1 rfl (lv_room (Nat.le_of_ble_eq_true rfl)) d_Vt_feed_15 ⟨by decide, by decide⟩) hS (fun q _ h => hFc q h) hFc (fun u t H1 locs ht hvm hw hB hz1 hk1 hS => ?_)
  subst hw
  obtain ⟨hP1, hK1, hD1⟩ := hB
  rw [ht] at hP1
  have hP1 : va_P (dC, dI) classes [(t0, .inr (3, [.ref t1, .ref t2, .int us])), (t1, .inl (c2, 4096, .inl tb)), (t2, .inl (c3, 20, .inl (tp_prep (tp_prep tr 0 p1) 4 p2)))] H1 := hP1
  have hD1 : va_D _ [(t0, .inr (3, [.ref t1, .ref t2, .int us])), (t1, .inl (c2, 4096, .inl tb)), (t2, .inl (c3, 20, .inl (tp_prep (tp_prep tr 0 p1) 4 p2)))] := hD1
  obtain ⟨hP, hD⟩ := va_join (wr := [(v0, .inr (11, [.ref h0, .ref t0, .ref b0, .ref e0, .ref r0, .ref d0, .ref g0, .ref u0, .ref i0, .ref fa, .ref fw, .int fs, .int he, .int sta, .int lf, .int hru]))]) (w1 := [(t0, .inr (3, [.ref t1, .ref t2, .int us])), (t1, .inl (c2, 4096, .inl tb)), (t2, .inl (c3, 20, .inl (tp_prep (tp_prep tr 0 p1) 4 p2)))]) hP hD [1, 2, 3] [0] rfl rfl (by decide) (by decide) hk1 hFc hP1 hD1
  generalize H1 = H at hP hS ⊢
  have hP : va_P (dC, dI) classes [(v0, .inr (11, [.ref h0, .ref t0, .ref b0, .ref e0, .ref r0, .ref d0, .ref g0, .ref u0, .ref i0, .ref fa, .ref fw, .int fs, .int he, .int sta, .int lf, .int hru])), (t0, .inr (3, [.ref t1, .ref t2, .int us])), (t1, .inl (c2, 4096, .inl tb)), (t2, .inl (c3, 20, .inl (tp_prep (tp_prep tr 0 p1) 4 p2)))] H := hP
  have hD : va_D A [(v0, .inr (11, [.ref h0, .ref t0, .ref b0, .ref e0, .ref r0, .ref d0, .ref g0, .ref u0, .ref i0, .ref fa, .ref fw, .int fs, .int he, .int sta, .int lf, .int hru])), (t0, .inr (3, [.ref t1, .ref t2, .int us])), (t1, .inl (c2, 4096, .inl tb)), (t2, .inl (c3, 20, .inl (tp_prep (tp_prep tr 0 p1) 4 p2)))] := hD
  refine lv_aload_n hx hb d_Vt_feed_18 rfl (lv_at hl 0 rfl) ?_
  refine va_get (D := (dC, dI)) (ci := 11) (v := .ref t0) (C := R_Vt) (T := F_Vt) (N := 16) hx hb hts i_Vt hown hK hP 0 rfl rfl 1 (by decide) (hts _ (k_Vt_30)) (fun _ h9 => h9) rfl d_Vt_feed_19 ?_
  refine lv_bipush (v := 8) hx hb d_Vt_feed_22 (by decide) ?_
  refine lv_iload_n hx hb d_Vt_feed_24 rfl (lv_at hl 3 rfl) ?_
  have hPc := hP.sub (ws' := [(t0, .inr (3, [.ref t1, .ref t2, .int us])), (t1, .inl (c2, 4096, .inl tb)), (t2, .inl (c3, 20, .inl (tp_prep (tp_prep tr 0 p1) 4 p2)))]) [1, 2, 3] rfl
  have hDc := hD.sub (ws' := [(t0, .inr (3, [.ref t1, .ref t2, .int us])), (t1, .inl (c2, 4096, .inl tb)), (t2, .inl (c3, 20, .inl (tp_prep (tp_prep tr 0 p1) 4 p2)))]) [1, 2, 3] (by decide) rfl
  have hKc := hK.sub (tys' := [(c2, .byte), (c3, .byte)]) [0, 1] rfl
  have hFc := va_free (wc := [(t0, .inr (3, [.ref t1, .ref t2, .int us])), (t1, .inl (c2, 4096, .inl tb)), (t2, .inl (c3, 20, .inl (tp_prep (tp_prep tr 0 p1) 4 p2)))]) hD hS hA [1, 2, 3] rfl
  refine va_callv (va_runV (As := [.int 8, .int p3]) (rest := []) ⟨hx, hb, hml, hown, hts⟩ (c_Tp_prepare l dC dI t0 t1 t2 H.size c2 c3 tb (tp_prep (tp_prep tr 0 p1) 4 p2) us 8 (by decide) p3) (cwV 2 hts (gwV good_Vt (k_Vt_48) (u_Vt_Tp _ k_Tp_8) (u_Vt_Tp _ k_Tp_9) (u_Vt_Tp _ k_Tp_0) (wcs (u_Vt_Tp _ k_Tp_10) u_Vt_Tp)) rfl rfl rfl (by decide +kernel) ⟨Nat.le_of_ble_eq_true rfl, Nat.le_of_ble_eq_true rfl⟩) (pv_of hPc hKc hDc (va_recv hKc hPc (ci := 3) (q0 := 0) rfl rfl)) rfl rfl hl.1 rfl (lv_room (Nat.le_of_ble_eq_true rfl)) d_Vt_feed_25 ⟨by decide, by decide⟩) hS (fun q _ h => hFc q h) hFc (fun u t H1 locs ht hvm hw hB hz1 hk1 hS => ?_)
  subst hw
  obtain ⟨hP1, hK1, hD1⟩ := hB
  rw [ht] at hP1
  have hP1 : va_P (dC, dI) classes [(t0, .inr (3, [.ref t1, .ref t2, .int us])), (t1, .inl (c2, 4096, .inl tb)), (t2, .inl (c3, 20, .inl (tp_prep (tp_prep (tp_prep tr 0 p1) 4 p2) 8 p3)))] H1 := hP1
  have hD1 : va_D _ [(t0, .inr (3, [.ref t1, .ref t2, .int us])), (t1, .inl (c2, 4096, .inl tb)), (t2, .inl (c3, 20, .inl (tp_prep (tp_prep (tp_prep tr 0 p1) 4 p2) 8 p3)))] := hD1
  obtain ⟨hP, hD⟩ := va_join (wr := [(v0, .inr (11, [.ref h0, .ref t0, .ref b0, .ref e0, .ref r0, .ref d0, .ref g0, .ref u0, .ref i0, .ref fa, .ref fw, .int fs, .int he, .int sta, .int lf, .int hru]))]) (w1 := [(t0, .inr (3, [.ref t1, .ref t2, .int us])), (t1, .inl (c2, 4096, .inl tb)), (t2, .inl (c3, 20, .inl (tp_prep (tp_prep (tp_prep tr 0 p1) 4 p2) 8 p3)))]) hP hD [1, 2, 3] [0] rfl rfl (by decide) (by decide) hk1 hFc hP1 hD1
  generalize H1 = H at hP hS ⊢
  have hP : va_P (dC, dI) classes [(v0, .inr (11, [.ref h0, .ref t0, .ref b0, .ref e0, .ref r0, .ref d0, .ref g0, .ref u0, .ref i0, .ref fa, .ref fw, .int fs, .int he, .int sta, .int lf, .int hru])), (t0, .inr (3, [.ref t1, .ref t2, .int us])), (t1, .inl (c2, 4096, .inl tb)), (t2, .inl (c3, 20, .inl (tp_prep (tp_prep (tp_prep tr 0 p1) 4 p2) 8 p3)))] H := hP
  have hD : va_D A [(v0, .inr (11, [.ref h0, .ref t0, .ref b0, .ref e0, .ref r0, .ref d0, .ref g0, .ref u0, .ref i0, .ref fa, .ref fw, .int fs, .int he, .int sta, .int lf, .int hru])), (t0, .inr (3, [.ref t1, .ref t2, .int us])), (t1, .inl (c2, 4096, .inl tb)), (t2, .inl (c3, 20, .inl (tp_prep (tp_prep (tp_prep tr 0 p1) 4 p2) 8 p3)))] := hD
  refine lv_aload_n hx hb d_Vt_feed_28 rfl (lv_at hl 0 rfl) ?_
  refine va_get (D := (dC, dI)) (ci := 11) (v := .ref t0) (C := R_Vt) (T := F_Vt) (N := 16) hx hb hts i_Vt hown hK hP 0 rfl rfl 1 (by decide) (hts _ (k_Vt_30)) (fun _ h9 => h9) rfl d_Vt_feed_29 ?_
  refine lv_bipush (v := 12) hx hb d_Vt_feed_32 (by decide) ?_
  refine lv_iload hx hb d_Vt_feed_34 (lv_at hl 4 rfl) ?_
  have hPc := hP.sub (ws' := [(t0, .inr (3, [.ref t1, .ref t2, .int us])), (t1, .inl (c2, 4096, .inl tb)), (t2, .inl (c3, 20, .inl (tp_prep (tp_prep (tp_prep tr 0 p1) 4 p2) 8 p3)))]) [1, 2, 3] rfl
  have hDc := hD.sub (ws' := [(t0, .inr (3, [.ref t1, .ref t2, .int us])), (t1, .inl (c2, 4096, .inl tb)), (t2, .inl (c3, 20, .inl (tp_prep (tp_prep (tp_prep tr 0 p1) 4 p2) 8 p3)))]) [1, 2, 3] (by decide) rfl
  have hKc := hK.sub (tys' := [(c2, .byte), (c3, .byte)]) [0, 1] rfl
  have hFc := va_free (wc := [(t0, .inr (3, [.ref t1, .ref t2, .int us])), (t1, .inl (c2, 4096, .inl tb)), (t2, .inl (c3, 20, .inl (tp_prep (tp_prep (tp_prep tr 0 p1) 4 p2) 8 p3)))]) hD hS hA [1, 2, 3] rfl
  refine va_callv (va_runV (As := [.int 12, .int p4]) (rest := []) ⟨hx, hb, hml, hown, hts⟩ (c_Tp_prepare l dC dI t0 t1 t2 H.size c2 c3 tb (tp_prep (tp_prep (tp_prep tr 0 p1) 4 p2) 8 p3) us 12 (by decide) p4) (cwV 2 hts (gwV good_Vt (k_Vt_48) (u_Vt_Tp _ k_Tp_8) (u_Vt_Tp _ k_Tp_9) (u_Vt_Tp _ k_Tp_0) (wcs (u_Vt_Tp _ k_Tp_10) u_Vt_Tp)) rfl rfl rfl (by decide +kernel) ⟨Nat.le_of_ble_eq_true rfl, Nat.le_of_ble_eq_true rfl⟩) (pv_of hPc hKc hDc (va_recv hKc hPc (ci := 3) (q0 := 0) rfl rfl)) rfl rfl hl.1 rfl (lv_room (Nat.le_of_ble_eq_true rfl)) d_Vt_feed_36 ⟨by decide, by decide⟩) hS (fun q _ h => hFc q h) hFc (fun u t H1 locs ht hvm hw hB hz1 hk1 hS => ?_)
  subst hw
  obtain ⟨hP1, hK1, hD1⟩ := hB
  rw [ht] at hP1
  have hP1 : va_P (dC, dI) classes [(t0, .inr (3, [.ref t1, .ref t2, .int us])), (t1, .inl (c2, 4096, .inl tb)), (t2, .inl (c3, 20, .inl (tp_prep (tp_prep (tp_prep (tp_prep tr 0 p1) 4 p2) 8 p3) 12 p4)))] H1 := hP1
  have hD1 : va_D _ [(t0, .inr (3, [.ref t1, .ref t2, .int us])), (t1, .inl (c2, 4096, .inl tb)), (t2, .inl (c3, 20, .inl (tp_prep (tp_prep (tp_prep (tp_prep tr 0 p1) 4 p2) 8 p3) 12 p4)))] := hD1
  obtain ⟨hP, hD⟩ := va_join (wr := [(v0, .inr (11, [.ref h0, .ref t0, .ref b0, .ref e0, .ref r0, .ref d0, .ref g0, .ref u0, .ref i0, .ref fa, .ref fw, .int fs, .int he, .int sta, .int lf, .int hru]))]) (w1 := [(t0, .inr (3, [.ref t1, .ref t2, .int us])), (t1, .inl (c2, 4096, .inl tb)), (t2, .inl (c3, 20, .inl (tp_prep (tp_prep (tp_prep (tp_prep tr 0 p1) 4 p2) 8 p3) 12 p4)))]) hP hD [1, 2, 3] [0] rfl rfl (by decide) (by decide) hk1 hFc hP1 hD1
  generalize H1 = H at hP hS ⊢
  have hP : va_P (dC, dI) classes [(v0, .inr (11, [.ref h0, .ref t0, .ref b0, .ref e0, .ref r0, .ref d0, .ref g0, .ref u0, .ref i0, .ref fa, .ref fw, .int fs, .int he, .int sta, .int lf, .int hru])), (t0, .inr (3, [.ref t1, .ref t2, .int us])), (t1, .inl (c2, 4096, .inl tb)), (t2, .inl (c3, 20, .inl (tp_prep (tp_prep (tp_prep (tp_prep tr 0 p1) 4 p2) 8 p3) 12 p4)))] H := hP
  have hD : va_D A [(v0, .inr (11, [.ref h0, .ref t0, .ref b0, .ref e0, .ref r0, .ref d0, .ref g0, .ref u0, .ref i0, .ref fa, .ref fw, .int fs, .int he, .int sta, .int lf, .int hru])), (t0, .inr (3, [.ref t1, .ref t2, .int us])), (t1, .inl (c2, 4096, .inl tb)), (t2, .inl (c3, 20, .inl (tp_prep (tp_prep (tp_prep (tp_prep tr 0 p1) 4 p2) 8 p3) 12 p4)))] := hD
  refine lv_aload_n hx hb d_Vt_feed_39 rfl (lv_at hl 0 rfl) ?_
  refine va_get (D := (dC, dI)) (ci := 11) (v := .ref t0) (C := R_Vt) (T := F_Vt) (N := 16) hx hb hts i_Vt hown hK hP 0 rfl rfl 1 (by decide) (hts _ (k_Vt_30)) (fun _ h9 => h9) rfl d_Vt_feed_40 ?_
  refine lv_bipush (v := 16) hx hb d_Vt_feed_43 (by decide) ?_
  refine lv_iload hx hb d_Vt_feed_45 (lv_at hl 5 rfl) ?_
  have hPc := hP.sub (ws' := [(t0, .inr (3, [.ref t1, .ref t2, .int us])), (t1, .inl (c2, 4096, .inl tb)), (t2, .inl (c3, 20, .inl (tp_prep (tp_prep (tp_prep (tp_prep tr 0 p1) 4 p2) 8 p3) 12 p4)))]) [1, 2, 3] rfl
  have hDc := hD.sub (ws' := [(t0, .inr (3, [.ref t1, .ref t2, .int us])), (t1, .inl (c2, 4096, .inl tb)), (t2, .inl (c3, 20, .inl (tp_prep (tp_prep (tp_prep (tp_prep tr 0 p1) 4 p2) 8 p3) 12 p4)))]) [1, 2, 3] (by decide) rfl
  have hKc := hK.sub (tys' := [(c2, .byte), (c3, .byte)]) [0, 1] rfl
  have hFc := va_free (wc := [(t0, .inr (3, [.ref t1, .ref t2, .int us])), (t1, .inl (c2, 4096, .inl tb)), (t2, .inl (c3, 20, .inl (tp_prep (tp_prep (tp_prep (tp_prep tr 0 p1) 4 p2) 8 p3) 12 p4)))]) hD hS hA [1, 2, 3] rfl
  refine va_callv (va_runV (As := [.int 16, .int p5]) (rest := []) ⟨hx, hb, hml, hown, hts⟩ (c_Tp_prepare l dC dI t0 t1 t2 H.size c2 c3 tb (tp_prep (tp_prep (tp_prep (tp_prep tr 0 p1) 4 p2) 8 p3) 12 p4) us 16 (by decide) p5) (cwV 2 hts (gwV good_Vt (k_Vt_48) (u_Vt_Tp _ k_Tp_8) (u_Vt_Tp _ k_Tp_9) (u_Vt_Tp _ k_Tp_0) (wcs (u_Vt_Tp _ k_Tp_10) u_Vt_Tp)) rfl rfl rfl (by decide +kernel) ⟨Nat.le_of_ble_eq_true rfl, Nat.le_of_ble_eq_true rfl⟩) (pv_of hPc hKc hDc (va_recv hKc hPc (ci := 3) (q0 := 0) rfl rfl)) rfl rfl hl.1 rfl (lv_room (Nat.le_of_ble_eq_true rfl)) d_Vt_feed_47 ⟨by decide, by decide⟩) hS (fun q _ h => hFc q h) hFc (fun u t H1 locs ht hvm hw hB hz1 hk1 hS => ?_)
  subst hw
  obtain ⟨hP1, hK1, hD1⟩ := hB
  rw [ht] at hP1
  have hP1 : va_P (dC, dI) classes [(t0, .inr (3, [.ref t1, .ref t2, .int us])), (t1, .inl (c2, 4096, .inl tb)), (t2, .inl (c3, 20, .inl (tp_prep (tp_prep (tp_prep (tp_prep (tp_prep tr 0 p1) 4 p2) 8 p3) 12 p4) 16 p5)))] H1 := hP1
  have hD1 : va_D _ [(t0, .inr (3, [.ref t1, .ref t2, .int us])), (t1, .inl (c2, 4096, .inl tb)), (t2, .inl (c3, 20, .inl (tp_prep (tp_prep (tp_prep (tp_prep (tp_prep tr 0 p1) 4 p2) 8 p3) 12 p4) 16 p5)))] := hD1
  obtain ⟨hP, hD⟩ := va_join (wr := [(v0, .inr (11, [.ref h0, .ref t0, .ref b0, .ref e0, .ref r0, .ref d0, .ref g0, .ref u0, .ref i0, .ref fa, .ref fw, .int fs, .int he, .int sta, .int lf, .int hru]))]) (w1 := [(t0, .inr (3, [.ref t1, .ref t2, .int us])), (t1, .inl (c2, 4096, .inl tb)), (t2, .inl (c3, 20, .inl (tp_prep (tp_prep (tp_prep (tp_prep (tp_prep tr 0 p1) 4 p2) 8 p3) 12 p4) 16 p5)))]) hP hD [1, 2, 3] [0] rfl rfl (by decide) (by decide) hk1 hFc hP1 hD1
  generalize H1 = H at hP hS ⊢
  have hP : va_P (dC, dI) classes [(v0, .inr (11, [.ref h0, .ref t0, .ref b0, .ref e0, .ref r0, .ref d0, .ref g0, .ref u0, .ref i0, .ref fa, .ref fw, .int fs, .int he, .int sta, .int lf, .int hru])), (t0, .inr (3, [.ref t1, .ref t2, .int us])), (t1, .inl (c2, 4096, .inl tb)), (t2, .inl (c3, 20, .inl (tp_prep (tp_prep (tp_prep (tp_prep (tp_prep tr 0 p1) 4 p2) 8 p3) 12 p4) 16 p5)))] H := hP
  have hD : va_D A [(v0, .inr (11, [.ref h0, .ref t0, .ref b0, .ref e0, .ref r0, .ref d0, .ref g0, .ref u0, .ref i0, .ref fa, .ref fw, .int fs, .int he, .int sta, .int lf, .int hru])), (t0, .inr (3, [.ref t1, .ref t2, .int us])), (t1, .inl (c2, 4096, .inl tb)), (t2, .inl (c3, 20, .inl (tp_prep (tp_prep (tp_prep (tp_prep (tp_prep tr 0 p1) 4 p2) 8 p3) 12 p4) 16 p5)))] := hD
  exact W.vret hx hb hr (fun t ht hW => ⟨⟨(), rfl, trivial, by rw [ht]; exact hP, va_K.moved hW.alike hK, hD⟩, hS.F ht⟩) hS.2.2 d_Vt_feed_50
set_option maxHeartbeats 4000000 in
set_option maxRecDepth 100000 in
/-- end -/
theorem c_Vt_end (l : Launch) (dC : Nat → ClassId) (dI : Nat → Nat → Nat) (v0 sz h0 t0 b0 e0 r0 d0 g0 u0 i0 fa fw : Nat) (fs he sta lf hru : Int32) (t1 t2 : Nat) (c2 c3 : ClassId) (tb tr : Nat → Int32) (un : Nat) (hun : un ≤ 4096) (hft : sb_Fit tr) (p1 : Int32) : Met l y_Vt_end (.code y_Vt_end b_Vt_end 2 (some .int) :: V_Vt) ({ frames := 2, cells := 0, slots := 0, locals := 46 }) (va_Pc [.ref v0, .int p1] (fun U => U.heap.size = sz ∧ at_ (dC, dI) (fun _ => True) [(v0, .inr (11, [.ref h0, .ref t0, .ref b0, .ref e0, .ref r0, .ref d0, .ref g0, .ref u0, .ref i0, .ref fa, .ref fw, .int fs, .int he, .int sta, .int lf, .int hru])), (t0, .inr (3, [.ref t1, .ref t2, .int (nI un)])), (t1, .inl (c2, 4096, .inl tb)), (t2, .inl (c3, 20, .inl tr))] [(c2, .byte), (c3, .byte)] U)) (va_Qi (fun (r : Int32) (u : (Nat → Int32) × (Nat → Int32) × Int32) => (r, u) = tp_app tb tr (nI un) p1) (fun (u : (Nat → Int32) × (Nat → Int32) × Int32) t => at_ (dC, dI) (va_A [(v0, .inr (11, [.ref h0, .ref t0, .ref b0, .ref e0, .ref r0, .ref d0, .ref g0, .ref u0, .ref i0, .ref fa, .ref fw, .int fs, .int he, .int sta, .int lf, .int hru])), (t0, .inr (3, [.ref t1, .ref t2, .int (nI un)])), (t1, .inl (c2, 4096, .inl tb)), (t2, .inl (c3, 20, .inl tr))] sz) [(v0, .inr (11, [.ref h0, .ref t0, .ref b0, .ref e0, .ref r0, .ref d0, .ref g0, .ref u0, .ref i0, .ref fa, .ref fw, .int fs, .int he, .int sta, .int lf, .int hru])), (t0, .inr (3, [.ref t1, .ref t2, .int u.2.2])), (t1, .inl (c2, 4096, .inl (u.1))), (t2, .inl (c3, 20, .inl (u.2.1)))] [(c2, .byte), (c3, .byte)] t) (va_A [(v0, .inr (11, [.ref h0, .ref t0, .ref b0, .ref e0, .ref r0, .ref d0, .ref g0, .ref u0, .ref i0, .ref fa, .ref fw, .int fs, .int he, .int sta, .int lf, .int hru])), (t0, .inr (3, [.ref t1, .ref t2, .int (nI un)])), (t1, .inl (c2, 4096, .inl tb)), (t2, .inl (c3, 20, .inl tr))] sz)) 0 0 (va_A [(v0, .inr (11, [.ref h0, .ref t0, .ref b0, .ref e0, .ref r0, .ref d0, .ref g0, .ref u0, .ref i0, .ref fa, .ref fw, .int fs, .int he, .int sta, .int lf, .int hru])), (t0, .inr (3, [.ref t1, .ref t2, .int (nI un)])), (t1, .inl (c2, 4096, .inl tb)), (t2, .inl (c3, 20, .inl tr))] sz) := by
  refine Met.ofW (cc := b_Vt_end) (maxL := 2) (ret := (some .int)) (by decide) rfl ?_
  intro p e s m args below meth c s₁ B hml hv
  obtain ⟨rfl, hsz, hP, hK, hD0⟩ := hv
  have hx := B.exec
  have hb := B.bytes
  have hr := B.returns
  have hts0 := atoms_spec (ws := .code y_Vt_end b_Vt_end 2 (some .int) :: V_Vt) B.pre
  have hts : ∀ w ∈ V_Vt, w.before ([.ref v0, .int p1] : List Value).toArray s = true := fun w h => hts0 w (List.mem_cons_of_mem _ h)
  have hown : s.vm.findClass R_Vt = some m.cls := findClass_of_methodNamed B.named
  have hlocks := B.notSynchronized
  subst hsz
  have hD := hD0.self (sz := s.heap.size)
  generalize hAe : va_A [(v0, .inr (11, [.ref h0, .ref t0, .ref b0, .ref e0, .ref r0, .ref d0, .ref g0, .ref u0, .ref i0, .ref fa, .ref fw, .int fs, .int he, .int sta, .int lf, .int hru])), (t0, .inr (3, [.ref t1, .ref t2, .int (nI un)])), (t1, .inl (c2, 4096, .inl tb)), (t2, .inl (c3, 20, .inl tr))] s.heap.size = A at hD ⊢
  have hA : ∀ q : Nat, s.heap.size ≤ q → A q := fun q h => by rw [← hAe]; exact Or.inr h
  have hS : va_S A s.heap s.heap [] := va_S.rf
  have hP : va_P (dC, dI) classes [(v0, .inr (11, [.ref h0, .ref t0, .ref b0, .ref e0, .ref r0, .ref d0, .ref g0, .ref u0, .ref i0, .ref fa, .ref fw, .int fs, .int he, .int sta, .int lf, .int hru])), (t0, .inr (3, [.ref t1, .ref t2, .int (nI un)])), (t1, .inl (c2, 4096, .inl tb)), (t2, .inl (c3, 20, .inl tr))] s.heap := hP
  have hK : va_K (dC, dI) classes [(c2, .byte), (c3, .byte)] s := hK
  have hl := lv_entry ([.ref v0, .int p1]) (n := 2) (Nat.le_of_ble_eq_true rfl)
  rw [lg_entry_eq]
  generalize (lg_sl ([.ref v0, .int p1]) ++ List.replicate (2 - (lg_sl ([.ref v0, .int p1])).length) Slot.unset).toArray = ls at hl ⊢
  have hl : lv_has ls 2 [(0, .ref v0), (1, .int p1)] := hl
  refine lv_aload_n hx hb d_Vt_end_0 rfl (lv_at hl 0 rfl) ?_
  refine va_get (D := (dC, dI)) (ci := 11) (v := .ref t0) (C := R_Vt) (T := F_Vt) (N := 16) hx hb hts i_Vt hown hK hP 0 rfl rfl 1 (by decide) (hts _ (k_Vt_30)) (fun _ h9 => h9) rfl d_Vt_end_1 ?_
  refine lv_iload_n hx hb d_Vt_end_4 rfl (lv_at hl 1 rfl) ?_
  have hPc := hP.sub (ws' := [(t0, .inr (3, [.ref t1, .ref t2, .int (nI un)])), (t1, .inl (c2, 4096, .inl tb)), (t2, .inl (c3, 20, .inl tr))]) [1, 2, 3] rfl
  have hDc := hD.sub (ws' := [(t0, .inr (3, [.ref t1, .ref t2, .int (nI un)])), (t1, .inl (c2, 4096, .inl tb)), (t2, .inl (c3, 20, .inl tr))]) [1, 2, 3] (by decide) rfl
  have hKc := hK.sub (tys' := [(c2, .byte), (c3, .byte)]) [0, 1] rfl
  have hFc := va_free (wc := [(t0, .inr (3, [.ref t1, .ref t2, .int (nI un)])), (t1, .inl (c2, 4096, .inl tb)), (t2, .inl (c3, 20, .inl tr))]) hD hS hA [1, 2, 3] rfl
  refine va_calli (va_runV (As := [.int p1]) (rest := []) ⟨hx, hb, hml, hown, hts⟩ (c_Tp_append l dC dI t0 t1 t2 s.heap.size c2 c3 tb tr un hun hft p1) (cwV 1 hts (gwV good_Vt (k_Vt_52) (u_Vt_Tp _ k_Tp_11) (u_Vt_Tp _ k_Tp_12) (u_Vt_Tp _ k_Tp_0) (wcs (u_Vt_Tp _ k_Tp_13) u_Vt_Tp)) rfl rfl rfl (by decide +kernel) ⟨Nat.le_of_ble_eq_true rfl, Nat.le_of_ble_eq_true rfl⟩) (pv_of hPc hKc hDc (va_recv hKc hPc (ci := 3) (q0 := 0) rfl rfl)) rfl rfl hl.1 rfl (lv_room (Nat.le_of_ble_eq_true rfl)) d_Vt_end_5 ⟨by decide, by decide⟩) hS (fun q _ h => hFc q h) hFc (fun r_1 u t H1 locs ht hvm hw hB hz1 hk1 hS => ?_)
  have er_1 := hw
  obtain ⟨hP1, hK1, hD1⟩ := hB
  rw [ht] at hP1
  have hP1 : va_P (dC, dI) classes [(t0, .inr (3, [.ref t1, .ref t2, .int u.2.2])), (t1, .inl (c2, 4096, .inl (u.1))), (t2, .inl (c3, 20, .inl (u.2.1)))] H1 := hP1
  have hD1 : va_D _ [(t0, .inr (3, [.ref t1, .ref t2, .int u.2.2])), (t1, .inl (c2, 4096, .inl (u.1))), (t2, .inl (c3, 20, .inl (u.2.1)))] := hD1
  obtain ⟨hP, hD⟩ := va_join (wr := [(v0, .inr (11, [.ref h0, .ref t0, .ref b0, .ref e0, .ref r0, .ref d0, .ref g0, .ref u0, .ref i0, .ref fa, .ref fw, .int fs, .int he, .int sta, .int lf, .int hru]))]) (w1 := [(t0, .inr (3, [.ref t1, .ref t2, .int u.2.2])), (t1, .inl (c2, 4096, .inl (u.1))), (t2, .inl (c3, 20, .inl (u.2.1)))]) hP hD [1, 2, 3] [0] rfl rfl (by decide) (by decide) hk1 hFc hP1 hD1
  generalize H1 = H at hP hS ⊢
  have hP : va_P (dC, dI) classes [(v0, .inr (11, [.ref h0, .ref t0, .ref b0, .ref e0, .ref r0, .ref d0, .ref g0, .ref u0, .ref i0, .ref fa, .ref fw, .int fs, .int he, .int sta, .int lf, .int hru])), (t0, .inr (3, [.ref t1, .ref t2, .int u.2.2])), (t1, .inl (c2, 4096, .inl (u.1))), (t2, .inl (c3, 20, .inl (u.2.1)))] H := hP
  have hD : va_D A [(v0, .inr (11, [.ref h0, .ref t0, .ref b0, .ref e0, .ref r0, .ref d0, .ref g0, .ref u0, .ref i0, .ref fa, .ref fw, .int fs, .int he, .int sta, .int lf, .int hru])), (t0, .inr (3, [.ref t1, .ref t2, .int u.2.2])), (t1, .inl (c2, 4096, .inl (u.1))), (t2, .inl (c3, 20, .inl (u.2.1)))] := hD
  exact W.iret (v := r_1) hx hb hr (fun t ht hW => ⟨⟨r_1, u, rfl, er_1, by rw [ht]; exact hP, va_K.moved hW.alike hK, hD⟩, hS.F ht⟩) hS.2.2 d_Vt_end_8
set_option maxHeartbeats 4000000 in
set_option maxRecDepth 100000 in
/-- clear -/
theorem c_Vt_clear (l : Launch) (dC : Nat → ClassId) (dI : Nat → Nat → Nat) (v0 sz h0 t0 b0 e0 r0 d0 g0 u0 i0 fa fw : Nat) (fs he sta lf hru : Int32) (t1 t2 : Nat) (c2 c3 : ClassId) (tb tr : Nat → Int32) (us : Int32) : Met l y_Vt_clear (.code y_Vt_clear b_Vt_clear 1 none :: V_Vt) ({ frames := 1, cells := 0, slots := 0, locals := 21 }) (va_Pc [.ref v0] (fun U => U.heap.size = sz ∧ at_ (dC, dI) (fun _ => True) [(v0, .inr (11, [.ref h0, .ref t0, .ref b0, .ref e0, .ref r0, .ref d0, .ref g0, .ref u0, .ref i0, .ref fa, .ref fw, .int fs, .int he, .int sta, .int lf, .int hru])), (t0, .inr (3, [.ref t1, .ref t2, .int us])), (t1, .inl (c2, 4096, .inl tb)), (t2, .inl (c3, 20, .inl tr))] [(c2, .byte), (c3, .byte)] U)) (va_Qv (fun u : Unit => True) (fun (u : Unit) t => at_ (dC, dI) (va_A [(v0, .inr (11, [.ref h0, .ref t0, .ref b0, .ref e0, .ref r0, .ref d0, .ref g0, .ref u0, .ref i0, .ref fa, .ref fw, .int fs, .int he, .int sta, .int lf, .int hru])), (t0, .inr (3, [.ref t1, .ref t2, .int us])), (t1, .inl (c2, 4096, .inl tb)), (t2, .inl (c3, 20, .inl tr))] sz) [(v0, .inr (11, [.ref h0, .ref t0, .ref b0, .ref e0, .ref r0, .ref d0, .ref g0, .ref u0, .ref i0, .ref fa, .ref fw, .int fs, .int he, .int sta, .int lf, .int hru])), (t0, .inr (3, [.ref t1, .ref t2, .int 0])), (t1, .inl (c2, 4096, .inl tb)), (t2, .inl (c3, 20, .inl tr))] [(c2, .byte), (c3, .byte)] t) (va_A [(v0, .inr (11, [.ref h0, .ref t0, .ref b0, .ref e0, .ref r0, .ref d0, .ref g0, .ref u0, .ref i0, .ref fa, .ref fw, .int fs, .int he, .int sta, .int lf, .int hru])), (t0, .inr (3, [.ref t1, .ref t2, .int us])), (t1, .inl (c2, 4096, .inl tb)), (t2, .inl (c3, 20, .inl tr))] sz)) 0 0 (va_A [(v0, .inr (11, [.ref h0, .ref t0, .ref b0, .ref e0, .ref r0, .ref d0, .ref g0, .ref u0, .ref i0, .ref fa, .ref fw, .int fs, .int he, .int sta, .int lf, .int hru])), (t0, .inr (3, [.ref t1, .ref t2, .int us])), (t1, .inl (c2, 4096, .inl tb)), (t2, .inl (c3, 20, .inl tr))] sz) := by
  refine Met.ofW (cc := b_Vt_clear) (maxL := 1) (ret := none) (by decide) rfl ?_
  intro p e s m args below meth c s₁ B hml hv
  obtain ⟨rfl, hsz, hP, hK, hD0⟩ := hv
  have hx := B.exec
  have hb := B.bytes
  have hr := B.returns
  have hts0 := atoms_spec (ws := .code y_Vt_clear b_Vt_clear 1 none :: V_Vt) B.pre
  have hts : ∀ w ∈ V_Vt, w.before ([.ref v0] : List Value).toArray s = true := fun w h => hts0 w (List.mem_cons_of_mem _ h)
  have hown : s.vm.findClass R_Vt = some m.cls := findClass_of_methodNamed B.named
  have hlocks := B.notSynchronized
  subst hsz
  have hD := hD0.self (sz := s.heap.size)
  generalize hAe : va_A [(v0, .inr (11, [.ref h0, .ref t0, .ref b0, .ref e0, .ref r0, .ref d0, .ref g0, .ref u0, .ref i0, .ref fa, .ref fw, .int fs, .int he, .int sta, .int lf, .int hru])), (t0, .inr (3, [.ref t1, .ref t2, .int us])), (t1, .inl (c2, 4096, .inl tb)), (t2, .inl (c3, 20, .inl tr))] s.heap.size = A at hD ⊢
  have hA : ∀ q : Nat, s.heap.size ≤ q → A q := fun q h => by rw [← hAe]; exact Or.inr h
  have hS : va_S A s.heap s.heap [] := va_S.rf
  have hP : va_P (dC, dI) classes [(v0, .inr (11, [.ref h0, .ref t0, .ref b0, .ref e0, .ref r0, .ref d0, .ref g0, .ref u0, .ref i0, .ref fa, .ref fw, .int fs, .int he, .int sta, .int lf, .int hru])), (t0, .inr (3, [.ref t1, .ref t2, .int us])), (t1, .inl (c2, 4096, .inl tb)), (t2, .inl (c3, 20, .inl tr))] s.heap := hP
  have hK : va_K (dC, dI) classes [(c2, .byte), (c3, .byte)] s := hK
  have hl := lv_entry ([.ref v0]) (n := 1) (Nat.le_of_ble_eq_true rfl)
  rw [lg_entry_eq]
  generalize (lg_sl ([.ref v0]) ++ List.replicate (1 - (lg_sl ([.ref v0])).length) Slot.unset).toArray = ls at hl ⊢
  have hl : lv_has ls 1 [(0, .ref v0)] := hl
  refine lv_aload_n hx hb d_Vt_clear_0 rfl (lv_at hl 0 rfl) ?_
  refine va_get (D := (dC, dI)) (ci := 11) (v := .ref t0) (C := R_Vt) (T := F_Vt) (N := 16) hx hb hts i_Vt hown hK hP 0 rfl rfl 1 (by decide) (hts _ (k_Vt_30)) (fun _ h9 => h9) rfl d_Vt_clear_1 ?_
  have hPc := hP.sub (ws' := [(t0, .inr (3, [.ref t1, .ref t2, .int us])), (t1, .inl (c2, 4096, .inl tb)), (t2, .inl (c3, 20, .inl tr))]) [1, 2, 3] rfl
  have hDc := hD.sub (ws' := [(t0, .inr (3, [.ref t1, .ref t2, .int us])), (t1, .inl (c2, 4096, .inl tb)), (t2, .inl (c3, 20, .inl tr))]) [1, 2, 3] (by decide) rfl
  have hKc := hK.sub (tys' := [(c2, .byte), (c3, .byte)]) [0, 1] rfl
  have hFc := va_free (wc := [(t0, .inr (3, [.ref t1, .ref t2, .int us])), (t1, .inl (c2, 4096, .inl tb)), (t2, .inl (c3, 20, .inl tr))]) hD hS hA [1, 2, 3] rfl
  refine va_calli (va_runV (As := []) (rest := []) ⟨hx, hb, hml, hown, hts⟩ (c_Tp_useUp l dC dI t0 t1 t2 s.heap.size c2 c3 tb tr us) (cwV 0 hts (gwV good_Vt (k_Vt_56) (u_Vt_Tp _ k_Tp_16) (u_Vt_Tp _ k_Tp_17) (u_Vt_Tp _ k_Tp_0) (wcs (u_Vt_Tp _ k_Tp_18) u_Vt_Tp)) rfl rfl rfl (by decide +kernel) ⟨Nat.le_of_ble_eq_true rfl, Nat.le_of_ble_eq_true rfl⟩) (pv_of hPc hKc hDc (va_recv hKc hPc (ci := 3) (q0 := 0) rfl rfl)) rfl rfl hl.1 rfl (lv_room (Nat.le_of_ble_eq_true rfl)) d_Vt_clear_4 ⟨by decide, by decide⟩) hS (fun q _ h => hFc q h) hFc (fun r_1 u t H1 locs ht hvm hw hB hz1 hk1 hS => ?_)
  obtain ⟨hw1, rfl⟩ := hw
  rw [hw1]
  obtain ⟨hP1, hK1, hD1⟩ := hB
  rw [ht] at hP1
  have hP1 : va_P (dC, dI) classes [(t0, .inr (3, [.ref t1, .ref t2, .int 0])), (t1, .inl (c2, 4096, .inl tb)), (t2, .inl (c3, 20, .inl tr))] H1 := hP1
  have hD1 : va_D _ [(t0, .inr (3, [.ref t1, .ref t2, .int 0])), (t1, .inl (c2, 4096, .inl tb)), (t2, .inl (c3, 20, .inl tr))] := hD1
  obtain ⟨hP, hD⟩ := va_join (wr := [(v0, .inr (11, [.ref h0, .ref t0, .ref b0, .ref e0, .ref r0, .ref d0, .ref g0, .ref u0, .ref i0, .ref fa, .ref fw, .int fs, .int he, .int sta, .int lf, .int hru]))]) (w1 := [(t0, .inr (3, [.ref t1, .ref t2, .int 0])), (t1, .inl (c2, 4096, .inl tb)), (t2, .inl (c3, 20, .inl tr))]) hP hD [1, 2, 3] [0] rfl rfl (by decide) (by decide) hk1 hFc hP1 hD1
  generalize H1 = H at hP hS ⊢
  have hP : va_P (dC, dI) classes [(v0, .inr (11, [.ref h0, .ref t0, .ref b0, .ref e0, .ref r0, .ref d0, .ref g0, .ref u0, .ref i0, .ref fa, .ref fw, .int fs, .int he, .int sta, .int lf, .int hru])), (t0, .inr (3, [.ref t1, .ref t2, .int 0])), (t1, .inl (c2, 4096, .inl tb)), (t2, .inl (c3, 20, .inl tr))] H := hP
  have hD : va_D A [(v0, .inr (11, [.ref h0, .ref t0, .ref b0, .ref e0, .ref r0, .ref d0, .ref g0, .ref u0, .ref i0, .ref fa, .ref fw, .int fs, .int he, .int sta, .int lf, .int hru])), (t0, .inr (3, [.ref t1, .ref t2, .int 0])), (t1, .inl (c2, 4096, .inl tb)), (t2, .inl (c3, 20, .inl tr))] := hD
  refine lv_pop hx hb d_Vt_clear_7 rfl ?_
  exact W.vret hx hb hr (fun t ht hW => ⟨⟨(), rfl, trivial, by rw [ht]; exact hP, va_K.moved hW.alike hK, hD⟩, hS.F ht⟩) hS.2.2 d_Vt_clear_8
def vt_poke (sec hr p1 p2 : Int32) : Int32 := if hr = 0 then (if dk_has sec p1 p2 = 0 then 0 else if p1 = 2 then 0 else if p1 = 7 then 0 else 1) else 0
set_option maxHeartbeats 4000000 in
set_option maxRecDepth 100000 in
/-- poke -/
theorem c_Vt_poke (l : Launch) (dC : Nat → ClassId) (dI : Nat → Nat → Nat) (v0 sz h0 t0 b0 e0 r0 d0 g0 u0 i0 fa fw : Nat) (fs he sta lf hru : Int32) (h1 : Nat) (cB : ClassId) (sec pw : Int32) (n : Nat) (f : Nat → Int32) (h4 : 4 ≤ n) (hn : n < 2 ^ 31) (p1 p2 p3 : Int32) : Met l y_Vt_poke (.code y_Vt_poke b_Vt_poke 4 (some .boolean) :: V_Vt) ({ frames := 1, cells := 0, slots := 0, locals := 22 }) (va_Pc [.ref v0, .int p1, .int p2, .int p3] (fun U => U.heap.size = sz ∧ at_ (dC, dI) (fun _ => True) [(v0, .inr (11, [.ref h0, .ref t0, .ref b0, .ref e0, .ref r0, .ref d0, .ref g0, .ref u0, .ref i0, .ref fa, .ref fw, .int fs, .int he, .int sta, .int lf, .int hru])), (h0, .inr (0, [.int sec, .ref h1, .int pw])), (h1, .inl (cB, n, .inl f))] [(cB, .byte)] U)) (va_Qi (fun (r : Int32) (u : (Nat → Int32) × Int32 × Int32) => r = vt_poke sec hru p1 p2) (fun (u : (Nat → Int32) × Int32 × Int32) t => at_ (dC, dI) (va_A [(v0, .inr (11, [.ref h0, .ref t0, .ref b0, .ref e0, .ref r0, .ref d0, .ref g0, .ref u0, .ref i0, .ref fa, .ref fw, .int fs, .int he, .int sta, .int lf, .int hru])), (h0, .inr (0, [.int sec, .ref h1, .int pw])), (h1, .inl (cB, n, .inl f))] sz) [(v0, .inr (11, [.ref h0, .ref t0, .ref b0, .ref e0, .ref r0, .ref d0, .ref g0, .ref u0, .ref i0, .ref fa, .ref fw, .int fs, .int u.2.1, .int u.2.2, .int lf, .int hru])), (h0, .inr (0, [.int sec, .ref h1, .int pw])), (h1, .inl (cB, n, .inl (u.1)))] [(cB, .byte)] t) (va_A [(v0, .inr (11, [.ref h0, .ref t0, .ref b0, .ref e0, .ref r0, .ref d0, .ref g0, .ref u0, .ref i0, .ref fa, .ref fw, .int fs, .int he, .int sta, .int lf, .int hru])), (h0, .inr (0, [.int sec, .ref h1, .int pw])), (h1, .inl (cB, n, .inl f))] sz)) 0 0 (va_A [(v0, .inr (11, [.ref h0, .ref t0, .ref b0, .ref e0, .ref r0, .ref d0, .ref g0, .ref u0, .ref i0, .ref fa, .ref fw, .int fs, .int he, .int sta, .int lf, .int hru])), (h0, .inr (0, [.int sec, .ref h1, .int pw])), (h1, .inl (cB, n, .inl f))] sz) := by
  refine Met.ofW (cc := b_Vt_poke) (maxL := 4) (ret := (some .boolean)) (by decide) rfl ?_
  intro p e s m args below meth c s₁ B hml hv
  obtain ⟨rfl, hsz, hP, hK, hD0⟩ := hv
  have hx := B.exec
  have hb := B.bytes
  have hr := B.returns
  have hts0 := atoms_spec (ws := .code y_Vt_poke b_Vt_poke 4 (some .boolean) :: V_Vt) B.pre
  have hts : ∀ w ∈ V_Vt, w.before ([.ref v0, .int p1, .int p2, .int p3] : List Value).toArray s = true := fun w h => hts0 w (List.mem_cons_of_mem _ h)
  have hown : s.vm.findClass R_Vt = some m.cls := findClass_of_methodNamed B.named
  have hlocks := B.notSynchronized
  subst hsz
  have hD := hD0.self (sz := s.heap.size)
  generalize hAe : va_A [(v0, .inr (11, [.ref h0, .ref t0, .ref b0, .ref e0, .ref r0, .ref d0, .ref g0, .ref u0, .ref i0, .ref fa, .ref fw, .int fs, .int he, .int sta, .int lf, .int hru])), (h0, .inr (0, [.int sec, .ref h1, .int pw])), (h1, .inl (cB, n, .inl f))] s.heap.size = A at hD ⊢
  have hA : ∀ q : Nat, s.heap.size ≤ q → A q := fun q h => by rw [← hAe]; exact Or.inr h
  have hS : va_S A s.heap s.heap [] := va_S.rf
  have hP : va_P (dC, dI) classes [(v0, .inr (11, [.ref h0, .ref t0, .ref b0, .ref e0, .ref r0, .ref d0, .ref g0, .ref u0, .ref i0, .ref fa, .ref fw, .int fs, .int he, .int sta, .int lf, .int hru])), (h0, .inr (0, [.int sec, .ref h1, .int pw])), (h1, .inl (cB, n, .inl f))] s.heap := hP
  have hK : va_K (dC, dI) classes [(cB, .byte)] s := hK
  have hl := lv_entry ([.ref v0, .int p1, .int p2, .int p3]) (n := 4) (Nat.le_of_ble_eq_true rfl)
  rw [lg_entry_eq]
  generalize (lg_sl ([.ref v0, .int p1, .int p2, .int p3]) ++ List.replicate (4 - (lg_sl ([.ref v0, .int p1, .int p2, .int p3])).length) Slot.unset).toArray = ls at hl ⊢
  have hl : lv_has ls 4 [(0, .ref v0), (1, .int p1), (2, .int p2), (3, .int p3)] := hl
  refine lv_aload_n hx hb d_Vt_poke_0 rfl (lv_at hl 0 rfl) ?_
  refine va_get (D := (dC, dI)) (ci := 11) (v := .int hru) (C := R_Vt) (T := F_Vt) (N := 16) hx hb hts i_Vt hown hK hP 0 rfl rfl 15 (by decide) (hts _ (k_Vt_44)) (fun _ h9 => h9) rfl d_Vt_poke_1 ?_
  refine lv_if_ne (tgt := 30) hx hb d_Vt_poke_4 (by decide) (fun c_1 => ?_) (fun c_1 => ?_)
  · refine lv_iconst (v := 0) hx hb d_Vt_poke_30 (by decide) ?_
    exact W.zret (v := 0) hx hb hr rfl (fun t ht hW => ⟨⟨0, (f, he, sta), rfl, by rw [vt_poke, if_neg c_1], by rw [ht]; exact hP, va_K.moved hW.alike hK, hD⟩, hS.F ht⟩) hS.2.2 d_Vt_poke_31
  · refine lv_aload_n hx hb d_Vt_poke_7 rfl (lv_at hl 0 rfl) ?_
    refine va_get (D := (dC, dI)) (ci := 11) (v := .ref h0) (C := R_Vt) (T := F_Vt) (N := 16) hx hb hts i_Vt hown hK hP 0 rfl rfl 0 (by decide) (hts _ (k_Vt_29)) (fun _ h9 => h9) rfl d_Vt_poke_8 ?_
    refine lv_iload_n hx hb d_Vt_poke_11 rfl (lv_at hl 1 rfl) ?_
    refine lv_iload_n hx hb d_Vt_poke_12 rfl (lv_at hl 2 rfl) ?_
    have hPc := hP.sub (ws' := [(h0, .inr (0, [.int sec, .ref h1, .int pw])), (h1, .inl (cB, n, .inl f))]) [1, 2] rfl
    have hDc := hD.sub (ws' := [(h0, .inr (0, [.int sec, .ref h1, .int pw])), (h1, .inl (cB, n, .inl f))]) [1, 2] (by decide) rfl
    have hKc := hK.sub (tys' := [(cB, .byte)]) [0] rfl
    have hFc := va_free (wc := [(h0, .inr (0, [.int sec, .ref h1, .int pw])), (h1, .inl (cB, n, .inl f))]) hD hS hA [1, 2] rfl
    refine va_calli (va_runV (As := [.int p1, .int p2]) (rest := []) ⟨hx, hb, hml, hown, hts⟩ (c_Dk_has l dC dI h0 h1 s.heap.size cB sec pw n f h4 hn p1 p2) (cwV 2 hts (gwV good_Vt (k_Vt_60) (u_Vt_Dk _ k_Dk_8) (u_Vt_Dk _ k_Dk_9) (u_Vt_Dk _ k_Dk_0) (wcs (u_Vt_Dk _ k_Dk_10) u_Vt_Dk)) rfl rfl rfl (by decide +kernel) ⟨Nat.le_of_ble_eq_true rfl, Nat.le_of_ble_eq_true rfl⟩) (pv_of hPc hKc hDc (va_recv hKc hPc (ci := 0) (q0 := 0) rfl rfl)) rfl rfl hl.1 rfl (lv_room (Nat.le_of_ble_eq_true rfl)) d_Vt_poke_13 ⟨by decide, by decide⟩) hS (fun q _ h => hFc q h) hFc (fun r_2 u t H1 locs ht hvm hw hB hz1 hk1 hS => ?_)
    obtain ⟨er_2, rfl⟩ := hw
    obtain ⟨hP1, hK1, hD1⟩ := hB
    rw [ht] at hP1
    have hP1 : va_P (dC, dI) classes [(h0, .inr (0, [.int sec, .ref h1, .int pw])), (h1, .inl (cB, n, .inl f))] H1 := hP1
    have hD1 : va_D _ [(h0, .inr (0, [.int sec, .ref h1, .int pw])), (h1, .inl (cB, n, .inl f))] := hD1
    obtain ⟨hP, hD⟩ := va_join (wr := [(v0, .inr (11, [.ref h0, .ref t0, .ref b0, .ref e0, .ref r0, .ref d0, .ref g0, .ref u0, .ref i0, .ref fa, .ref fw, .int fs, .int he, .int sta, .int lf, .int hru]))]) (w1 := [(h0, .inr (0, [.int sec, .ref h1, .int pw])), (h1, .inl (cB, n, .inl f))]) hP hD [1, 2] [0] rfl rfl (by decide) (by decide) hk1 hFc hP1 hD1
    generalize H1 = H at hP hS ⊢
    have hP : va_P (dC, dI) classes [(v0, .inr (11, [.ref h0, .ref t0, .ref b0, .ref e0, .ref r0, .ref d0, .ref g0, .ref u0, .ref i0, .ref fa, .ref fw, .int fs, .int he, .int sta, .int lf, .int hru])), (h0, .inr (0, [.int sec, .ref h1, .int pw])), (h1, .inl (cB, n, .inl f))] H := hP
    have hD : va_D A [(v0, .inr (11, [.ref h0, .ref t0, .ref b0, .ref e0, .ref r0, .ref d0, .ref g0, .ref u0, .ref i0, .ref fa, .ref fw, .int fs, .int he, .int sta, .int lf, .int hru])), (h0, .inr (0, [.int sec, .ref h1, .int pw])), (h1, .inl (cB, n, .inl f))] := hD
    refine lv_if_eq (tgt := 30) hx hb d_Vt_poke_16 (by decide) (fun c_3 => ?_) (fun c_3 => ?_)
    · refine lv_iconst (v := 0) hx hb d_Vt_poke_30 (by decide) ?_
      exact W.zret (v := 0) hx hb hr rfl (fun t ht hW => ⟨⟨0, (f, he, sta), rfl, by rw [vt_poke, if_pos c_1, ← er_2, if_pos c_3], by rw [ht]; exact hP, va_K.moved hW.alike hK, hD⟩, hS.F ht⟩) hS.2.2 d_Vt_poke_31
    · refine lv_iload_n hx hb d_Vt_poke_19 rfl (lv_at hl 1 rfl) ?_
      refine lv_iconst (v := 2) hx hb d_Vt_poke_20 (by decide) ?_
      refine lv_icmp_eq (tgt := 30) hx hb d_Vt_poke_21 (by decide) (fun c_4 => ?_) (fun c_4 => ?_)
      · refine lv_iconst (v := 0) hx hb d_Vt_poke_30 (by decide) ?_
        exact W.zret (v := 0) hx hb hr rfl (fun t ht hW => ⟨⟨0, (f, he, sta), rfl, by rw [vt_poke, if_pos c_1, ← er_2, if_neg c_3, if_pos c_4], by rw [ht]; exact hP, va_K.moved hW.alike hK, hD⟩, hS.F ht⟩) hS.2.2 d_Vt_poke_31
      · refine lv_iload_n hx hb d_Vt_poke_24 rfl (lv_at hl 1 rfl) ?_
        refine lv_bipush (v := 7) hx hb d_Vt_poke_25 (by decide) ?_
        refine lv_icmp_ne (tgt := 32) hx hb d_Vt_poke_27 (by decide) (fun c_5 => ?_) (fun c_5 => ?_)
        · refine lv_aload_n hx hb d_Vt_poke_32 rfl (lv_at hl 0 rfl) ?_
          refine va_get (D := (dC, dI)) (ci := 11) (v := .ref h0) (C := R_Vt) (T := F_Vt) (N := 16) hx hb hts i_Vt hown hK hP 0 rfl rfl 0 (by decide) (hts _ (k_Vt_29)) (fun _ h9 => h9) rfl d_Vt_poke_33 ?_
          refine lv_iload_n hx hb d_Vt_poke_36 rfl (lv_at hl 1 rfl) ?_
          refine lv_sipush (v := 512) hx hb d_Vt_poke_37 (by decide) ?_
          refine lv_imul hx hb d_Vt_poke_40 ?_
          refine lv_iload_n hx hb d_Vt_poke_41 rfl (lv_at hl 2 rfl) ?_
          refine lv_iadd hx hb d_Vt_poke_42 ?_
          refine lv_iload_n hx hb d_Vt_poke_43 rfl (lv_at hl 3 rfl) ?_
          have hPc := hP.sub (ws' := [(h0, .inr (0, [.int sec, .ref h1, .int pw])), (h1, .inl (cB, n, .inl f))]) [1, 2] rfl
          have hDc := hD.sub (ws' := [(h0, .inr (0, [.int sec, .ref h1, .int pw])), (h1, .inl (cB, n, .inl f))]) [1, 2] (by decide) rfl
          have hKc := hK.sub (tys' := [(cB, .byte)]) [0] rfl
          have hFc := va_free (wc := [(h0, .inr (0, [.int sec, .ref h1, .int pw])), (h1, .inl (cB, n, .inl f))]) hD hS hA [1, 2] rfl
          refine va_callv (va_runV (As := [.int ((p1 * 512) + p2), .int p3]) (rest := []) ⟨hx, hb, hml, hown, hts⟩ (c_Dk_putOne l dC dI h0 h1 H.size cB sec pw n f h4 hn ((p1 * 512) + p2) p3) (cwV 2 hts (gwV good_Vt (k_Vt_61) (u_Vt_Dk _ k_Dk_11) (u_Vt_Dk _ k_Dk_12) (u_Vt_Dk _ k_Dk_0) (wcs (u_Vt_Dk _ k_Dk_13) u_Vt_Dk)) rfl rfl rfl (by decide +kernel) ⟨Nat.le_of_ble_eq_true rfl, Nat.le_of_ble_eq_true rfl⟩) (pv_of hPc hKc hDc (va_recv hKc hPc (ci := 0) (q0 := 0) rfl rfl)) rfl rfl hl.1 rfl (lv_room (Nat.le_of_ble_eq_true rfl)) d_Vt_poke_44 ⟨by decide, by decide⟩) hS (fun q _ h => hFc q h) hFc (fun u t H1 locs ht hvm hw hB hz1 hk1 hS => ?_)
          subst hw
          obtain ⟨hP1, hK1, hD1⟩ := hB
          rw [ht] at hP1
          obtain ⟨f_6, ef_6⟩ : ∃ g : Nat → Int32, g = dk_put1 n f ((p1 * 512) + p2) p3 := ⟨_, rfl⟩
          rw [← ef_6] at hP1 hD1
          have hP1 : va_P (dC, dI) classes [(h0, .inr (0, [.int sec, .ref h1, .int pw])), (h1, .inl (cB, n, .inl f_6))] H1 := hP1
          have hD1 : va_D _ [(h0, .inr (0, [.int sec, .ref h1, .int pw])), (h1, .inl (cB, n, .inl f_6))] := hD1
          obtain ⟨hP, hD⟩ := va_join (wr := [(v0, .inr (11, [.ref h0, .ref t0, .ref b0, .ref e0, .ref r0, .ref d0, .ref g0, .ref u0, .ref i0, .ref fa, .ref fw, .int fs, .int he, .int sta, .int lf, .int hru]))]) (w1 := [(h0, .inr (0, [.int sec, .ref h1, .int pw])), (h1, .inl (cB, n, .inl f_6))]) hP hD [1, 2] [0] rfl rfl (by decide) (by decide) hk1 hFc hP1 hD1
          generalize H1 = H at hP hS ⊢
          have hP : va_P (dC, dI) classes [(v0, .inr (11, [.ref h0, .ref t0, .ref b0, .ref e0, .ref r0, .ref d0, .ref g0, .ref u0, .ref i0, .ref fa, .ref fw, .int fs, .int he, .int sta, .int lf, .int hru])), (h0, .inr (0, [.int sec, .ref h1, .int pw])), (h1, .inl (cB, n, .inl f_6))] H := hP
          have hD : va_D A [(v0, .inr (11, [.ref h0, .ref t0, .ref b0, .ref e0, .ref r0, .ref d0, .ref g0, .ref u0, .ref i0, .ref fa, .ref fw, .int fs, .int he, .int sta, .int lf, .int hru])), (h0, .inr (0, [.int sec, .ref h1, .int pw])), (h1, .inl (cB, n, .inl f_6))] := hD
          refine lv_aload_n hx hb d_Vt_poke_47 rfl (lv_at hl 0 rfl) ?_
          have hPc := hP.sub (ws' := [(v0, .inr (11, [.ref h0, .ref t0, .ref b0, .ref e0, .ref r0, .ref d0, .ref g0, .ref u0, .ref i0, .ref fa, .ref fw, .int fs, .int he, .int sta, .int lf, .int hru]))]) [0] rfl
          have hDc := hD.sub (ws' := [(v0, .inr (11, [.ref h0, .ref t0, .ref b0, .ref e0, .ref r0, .ref d0, .ref g0, .ref u0, .ref i0, .ref fa, .ref fw, .int fs, .int he, .int sta, .int lf, .int hru]))]) [0] (by decide) rfl
          have hKc := hK.sub (tys' := []) [] rfl
          have hFc := va_free (wc := [(v0, .inr (11, [.ref h0, .ref t0, .ref b0, .ref e0, .ref r0, .ref d0, .ref g0, .ref u0, .ref i0, .ref fa, .ref fw, .int fs, .int he, .int sta, .int lf, .int hru]))]) hD hS hA [0] rfl
          refine va_callv (va_runV (As := []) (rest := []) ⟨hx, hb, hml, hown, hts⟩ (c_Vt_changed l dC dI v0 H.size h0 t0 b0 e0 r0 d0 g0 u0 i0 fa fw fs he sta lf hru) (cwV 0 hts (gwV good_Vt (k_Vt_62) (k_Vt_63) (k_Vt_213) (k_Vt_0) (wcs (k_Vt_64) (fun _ h => h))) rfl rfl rfl (by decide +kernel) ⟨Nat.le_of_ble_eq_true rfl, Nat.le_of_ble_eq_true rfl⟩) (pv_of hPc hKc hDc (va_recv hKc hPc (ci := 11) (q0 := 0) rfl rfl)) rfl rfl hl.1 rfl (lv_room (Nat.le_of_ble_eq_true rfl)) d_Vt_poke_48 ⟨by decide, by decide⟩) hS (fun q _ h => hFc q h) hFc (fun u t H1 locs ht hvm hw hB hz1 hk1 hS => ?_)
          obtain ⟨hP1, hK1, hD1⟩ := hB
          rw [ht] at hP1
          have hP1 : va_P (dC, dI) classes [(v0, .inr (11, [.ref h0, .ref t0, .ref b0, .ref e0, .ref r0, .ref d0, .ref g0, .ref u0, .ref i0, .ref fa, .ref fw, .int fs, .int he, .int 1, .int lf, .int hru]))] H1 := hP1
          have hD1 : va_D _ [(v0, .inr (11, [.ref h0, .ref t0, .ref b0, .ref e0, .ref r0, .ref d0, .ref g0, .ref u0, .ref i0, .ref fa, .ref fw, .int fs, .int he, .int 1, .int lf, .int hru]))] := hD1
          obtain ⟨hP, hD⟩ := va_join (wr := [(h0, .inr (0, [.int sec, .ref h1, .int pw])), (h1, .inl (cB, n, .inl f_6))]) (w1 := [(v0, .inr (11, [.ref h0, .ref t0, .ref b0, .ref e0, .ref r0, .ref d0, .ref g0, .ref u0, .ref i0, .ref fa, .ref fw, .int fs, .int he, .int 1, .int lf, .int hru]))]) hP hD [0] [1, 2] rfl rfl (by decide) (by decide) hk1 hFc hP1 hD1
          generalize H1 = H at hP hS ⊢
          have hP : va_P (dC, dI) classes [(h0, .inr (0, [.int sec, .ref h1, .int pw])), (h1, .inl (cB, n, .inl f_6)), (v0, .inr (11, [.ref h0, .ref t0, .ref b0, .ref e0, .ref r0, .ref d0, .ref g0, .ref u0, .ref i0, .ref fa, .ref fw, .int fs, .int he, .int 1, .int lf, .int hru]))] H := hP
          have hD : va_D A [(h0, .inr (0, [.int sec, .ref h1, .int pw])), (h1, .inl (cB, n, .inl f_6)), (v0, .inr (11, [.ref h0, .ref t0, .ref b0, .ref e0, .ref r0, .ref d0, .ref g0, .ref u0, .ref i0, .ref fa, .ref fw, .int fs, .int he, .int 1, .int lf, .int hru]))] := hD
          refine lv_aload_n hx hb d_Vt_poke_51 rfl (lv_at hl 0 rfl) ?_
          refine lv_iconst (v := 0) hx hb d_Vt_poke_52 (by decide) ?_
          refine va_put (D := (dC, dI)) (ci := 11) (v := .int 0) (ty := .int) (C := R_Vt) (T := F_Vt) (N := 16) hx hb hts i_Vt t_Vt t_Vt_ok n_Vt hown hK hP hD hS 2 rfl rfl 12 (by decide) (hts _ (k_Vt_41)) (fun _ h9 => h9) rfl (by decide +kernel) rfl rfl (Nat.le_of_ble_eq_true rfl) d_Vt_poke_53 (fun H locs hP hD hS => ?_)
          have hP : va_P (dC, dI) classes [(h0, .inr (0, [.int sec, .ref h1, .int pw])), (h1, .inl (cB, n, .inl f_6)), (v0, .inr (11, [.ref h0, .ref t0, .ref b0, .ref e0, .ref r0, .ref d0, .ref g0, .ref u0, .ref i0, .ref fa, .ref fw, .int fs, .int 0, .int 1, .int lf, .int hru]))] H := hP
          have hD : va_D A [(h0, .inr (0, [.int sec, .ref h1, .int pw])), (h1, .inl (cB, n, .inl f_6)), (v0, .inr (11, [.ref h0, .ref t0, .ref b0, .ref e0, .ref r0, .ref d0, .ref g0, .ref u0, .ref i0, .ref fa, .ref fw, .int fs, .int 0, .int 1, .int lf, .int hru]))] := hD
          refine lv_iconst (v := 1) hx hb d_Vt_poke_56 (by decide) ?_
          have hP := hP.sub (ws' := [(v0, .inr (11, [.ref h0, .ref t0, .ref b0, .ref e0, .ref r0, .ref d0, .ref g0, .ref u0, .ref i0, .ref fa, .ref fw, .int fs, .int 0, .int 1, .int lf, .int hru])), (h0, .inr (0, [.int sec, .ref h1, .int pw])), (h1, .inl (cB, n, .inl f_6))]) [2, 0, 1] rfl
          have hD := hD.sub (ws' := [(v0, .inr (11, [.ref h0, .ref t0, .ref b0, .ref e0, .ref r0, .ref d0, .ref g0, .ref u0, .ref i0, .ref fa, .ref fw, .int fs, .int 0, .int 1, .int lf, .int hru])), (h0, .inr (0, [.int sec, .ref h1, .int pw])), (h1, .inl (cB, n, .inl f_6))]) [2, 0, 1] (by decide) rfl
          exact W.zret (v := 1) hx hb hr rfl (fun t ht hW => ⟨⟨1, (f_6, 0, 1), rfl, by rw [vt_poke, if_pos c_1, ← er_2, if_neg c_3, if_neg c_4, if_neg c_5], by rw [ht]; exact hP, va_K.moved hW.alike hK, hD⟩, hS.F ht⟩) hS.2.2 d_Vt_poke_57
        · refine lv_iconst (v := 0) hx hb d_Vt_poke_30 (by decide) ?_
          exact W.zret (v := 0) hx hb hr rfl (fun t ht hW => ⟨⟨0, (f, he, sta), rfl, by rw [vt_poke, if_pos c_1, ← er_2, if_neg c_3, if_neg c_4, if_pos c_5], by rw [ht]; exact hP, va_K.moved hW.alike hK, hD⟩, hS.F ht⟩) hS.2.2 d_Vt_poke_31
def vt_fail (fN : Nat) (p1 p2 : Int32) : Int32 := if p1 = 0 then (if p2 < 0 then 0 else if nI fN < 16 then 1 else 0) else if p1 = 1 then (if p2 < 0 then 0 else if nI fN < 16 then 1 else 0) else 0
set_option maxHeartbeats 4000000 in
set_option maxRecDepth 100000 in
/-- fail -/
theorem c_Vt_fail (l : Launch) (dC : Nat → ClassId) (dI : Nat → Nat → Nat) (v0 sz h0 t0 b0 e0 r0 d0 g0 u0 i0 fa fw : Nat) (he sta lf hru : Int32) (c4 c5 : ClassId) (ga gw : Nat → Int32) (fN : Nat) (hfN : fN ≤ 16) (p1 p2 : Int32) : Met l y_Vt_fail (.code y_Vt_fail b_Vt_fail 3 (some .boolean) :: V_Vt) ({ frames := 0, cells := 0, slots := 0, locals := 0 }) (va_Pc [.ref v0, .int p1, .int p2] (fun U => U.heap.size = sz ∧ at_ (dC, dI) (fun _ => True) [(v0, .inr (11, [.ref h0, .ref t0, .ref b0, .ref e0, .ref r0, .ref d0, .ref g0, .ref u0, .ref i0, .ref fa, .ref fw, .int (nI fN), .int he, .int sta, .int lf, .int hru])), (fa, .inl (c4, 16, .inl ga)), (fw, .inl (c5, 16, .inl gw))] [(c4, .int), (c5, .int)] U)) (va_Qi (fun (r : Int32) (u : (Nat → Int32) × (Nat → Int32) × Int32) => r = vt_fail fN p1 p2) (fun (u : (Nat → Int32) × (Nat → Int32) × Int32) t => at_ (dC, dI) (va_A [(v0, .inr (11, [.ref h0, .ref t0, .ref b0, .ref e0, .ref r0, .ref d0, .ref g0, .ref u0, .ref i0, .ref fa, .ref fw, .int (nI fN), .int he, .int sta, .int lf, .int hru])), (fa, .inl (c4, 16, .inl ga)), (fw, .inl (c5, 16, .inl gw))] sz) [(v0, .inr (11, [.ref h0, .ref t0, .ref b0, .ref e0, .ref r0, .ref d0, .ref g0, .ref u0, .ref i0, .ref fa, .ref fw, .int u.2.2, .int he, .int sta, .int lf, .int hru])), (fa, .inl (c4, 16, .inl (u.1))), (fw, .inl (c5, 16, .inl (u.2.1)))] [(c4, .int), (c5, .int)] t) (va_A [(v0, .inr (11, [.ref h0, .ref t0, .ref b0, .ref e0, .ref r0, .ref d0, .ref g0, .ref u0, .ref i0, .ref fa, .ref fw, .int (nI fN), .int he, .int sta, .int lf, .int hru])), (fa, .inl (c4, 16, .inl ga)), (fw, .inl (c5, 16, .inl gw))] sz)) 0 0 (va_A [(v0, .inr (11, [.ref h0, .ref t0, .ref b0, .ref e0, .ref r0, .ref d0, .ref g0, .ref u0, .ref i0, .ref fa, .ref fw, .int (nI fN), .int he, .int sta, .int lf, .int hru])), (fa, .inl (c4, 16, .inl ga)), (fw, .inl (c5, 16, .inl gw))] sz) := by
  refine Met.ofW (cc := b_Vt_fail) (maxL := 3) (ret := (some .boolean)) (by decide) rfl ?_
  intro p e s m args below meth c s₁ B hml hv
  obtain ⟨rfl, hsz, hP, hK, hD0⟩ := hv
  have hx := B.exec
  have hb := B.bytes
  have hr := B.returns
  have hts0 := atoms_spec (ws := .code y_Vt_fail b_Vt_fail 3 (some .boolean) :: V_Vt) B.pre
  have hts : ∀ w ∈ V_Vt, w.before ([.ref v0, .int p1, .int p2] : List Value).toArray s = true := fun w h => hts0 w (List.mem_cons_of_mem _ h)
  have hown : s.vm.findClass R_Vt = some m.cls := findClass_of_methodNamed B.named
  have hlocks := B.notSynchronized
  subst hsz
  have hD := hD0.self (sz := s.heap.size)
  generalize hAe : va_A [(v0, .inr (11, [.ref h0, .ref t0, .ref b0, .ref e0, .ref r0, .ref d0, .ref g0, .ref u0, .ref i0, .ref fa, .ref fw, .int (nI fN), .int he, .int sta, .int lf, .int hru])), (fa, .inl (c4, 16, .inl ga)), (fw, .inl (c5, 16, .inl gw))] s.heap.size = A at hD ⊢
  have hA : ∀ q : Nat, s.heap.size ≤ q → A q := fun q h => by rw [← hAe]; exact Or.inr h
  have hS : va_S A s.heap s.heap [] := va_S.rf
  have hP : va_P (dC, dI) classes [(v0, .inr (11, [.ref h0, .ref t0, .ref b0, .ref e0, .ref r0, .ref d0, .ref g0, .ref u0, .ref i0, .ref fa, .ref fw, .int (nI fN), .int he, .int sta, .int lf, .int hru])), (fa, .inl (c4, 16, .inl ga)), (fw, .inl (c5, 16, .inl gw))] s.heap := hP
  have hK : va_K (dC, dI) classes [(c4, .int), (c5, .int)] s := hK
  have hl := lv_entry ([.ref v0, .int p1, .int p2]) (n := 3) (Nat.le_of_ble_eq_true rfl)
  rw [lg_entry_eq]
  generalize (lg_sl ([.ref v0, .int p1, .int p2]) ++ List.replicate (3 - (lg_sl ([.ref v0, .int p1, .int p2])).length) Slot.unset).toArray = ls at hl ⊢
  have hl : lv_has ls 3 [(0, .ref v0), (1, .int p1), (2, .int p2)] := hl
  refine lv_iload_n hx hb d_Vt_fail_0 rfl (lv_at hl 1 rfl) ?_
  refine lv_if_eq (tgt := 9) hx hb d_Vt_fail_1 (by decide) (fun c_1 => ?_) (fun c_1 => ?_)
  · refine lv_iload_n hx hb d_Vt_fail_9 rfl (lv_at hl 2 rfl) ?_
    refine lv_if_lt (tgt := 22) hx hb d_Vt_fail_10 (by decide) (fun c_2 => ?_) (fun c_2 => ?_)
    · refine lv_iconst (v := 0) hx hb d_Vt_fail_22 (by decide) ?_
      exact W.zret (v := 0) hx hb hr rfl (fun t ht hW => ⟨⟨0, (ga, gw, nI fN), rfl, by rw [vt_fail, if_pos c_1, if_pos c_2], by rw [ht]; exact hP, va_K.moved hW.alike hK, hD⟩, hS.F ht⟩) hS.2.2 d_Vt_fail_23
    · refine lv_aload_n hx hb d_Vt_fail_13 rfl (lv_at hl 0 rfl) ?_
      refine va_get (D := (dC, dI)) (ci := 11) (v := .int (nI fN)) (C := R_Vt) (T := F_Vt) (N := 16) hx hb hts i_Vt hown hK hP 0 rfl rfl 11 (by decide) (hts _ (k_Vt_40)) (fun _ h9 => h9) rfl d_Vt_fail_14 ?_
      refine lv_bipush (v := 16) hx hb d_Vt_fail_17 (by decide) ?_
      refine lv_icmp_lt (tgt := 24) hx hb d_Vt_fail_19 (by decide) (fun c_3 => ?_) (fun c_3 => ?_)
      · refine lv_aload_n hx hb d_Vt_fail_24 rfl (lv_at hl 0 rfl) ?_
        refine va_get (D := (dC, dI)) (ci := 11) (v := .ref fa) (C := R_Vt) (T := F_Vt) (N := 16) hx hb hts i_Vt hown hK hP 0 rfl rfl 9 (by decide) (hts _ (k_Vt_38)) (fun _ h9 => h9) rfl d_Vt_fail_25 ?_
        refine lv_aload_n hx hb d_Vt_fail_28 rfl (lv_at hl 0 rfl) ?_
        refine va_get (D := (dC, dI)) (ci := 11) (v := .int (nI fN)) (C := R_Vt) (T := F_Vt) (N := 16) hx hb hts i_Vt hown hK hP 0 rfl rfl 11 (by decide) (hts _ (k_Vt_40)) (fun _ h9 => h9) rfl d_Vt_fail_29 ?_
        refine lv_iload_n hx hb d_Vt_fail_32 rfl (lv_at hl 1 rfl) ?_
        refine va_iast hx hb hK hP hD hS 1 0 rfl rfl (vp_in_nI ((nI_ltI (b := 16) (by omega) (by decide)).mp c_3) (by decide)) d_Vt_fail_33 (fun H locs hP hD hS => ?_)
        have hP : va_P (dC, dI) classes [(v0, .inr (11, [.ref h0, .ref t0, .ref b0, .ref e0, .ref r0, .ref d0, .ref g0, .ref u0, .ref i0, .ref fa, .ref fw, .int (nI fN), .int he, .int sta, .int lf, .int hru])), (fa, .inl (c4, 16, .inl (upd ga (nI fN).toNatClampNeg p1))), (fw, .inl (c5, 16, .inl gw))] H := hP
        have hD : va_D A [(v0, .inr (11, [.ref h0, .ref t0, .ref b0, .ref e0, .ref r0, .ref d0, .ref g0, .ref u0, .ref i0, .ref fa, .ref fw, .int (nI fN), .int he, .int sta, .int lf, .int hru])), (fa, .inl (c4, 16, .inl (upd ga (nI fN).toNatClampNeg p1))), (fw, .inl (c5, 16, .inl gw))] := hD
        refine lv_aload_n hx hb d_Vt_fail_34 rfl (lv_at hl 0 rfl) ?_
        refine va_get (D := (dC, dI)) (ci := 11) (v := .ref fw) (C := R_Vt) (T := F_Vt) (N := 16) hx hb hts i_Vt hown hK hP 0 rfl rfl 10 (by decide) (hts _ (k_Vt_39)) (fun _ h9 => h9) rfl d_Vt_fail_35 ?_
        refine lv_aload_n hx hb d_Vt_fail_38 rfl (lv_at hl 0 rfl) ?_
        refine va_get (D := (dC, dI)) (ci := 11) (v := .int (nI fN)) (C := R_Vt) (T := F_Vt) (N := 16) hx hb hts i_Vt hown hK hP 0 rfl rfl 11 (by decide) (hts _ (k_Vt_40)) (fun _ h9 => h9) rfl d_Vt_fail_39 ?_
        refine lv_iload_n hx hb d_Vt_fail_42 rfl (lv_at hl 2 rfl) ?_
        refine va_iast hx hb hK hP hD hS 2 1 rfl rfl (vp_in_nI ((nI_ltI (b := 16) (by omega) (by decide)).mp c_3) (by decide)) d_Vt_fail_43 (fun H locs hP hD hS => ?_)
        have hP : va_P (dC, dI) classes [(v0, .inr (11, [.ref h0, .ref t0, .ref b0, .ref e0, .ref r0, .ref d0, .ref g0, .ref u0, .ref i0, .ref fa, .ref fw, .int (nI fN), .int he, .int sta, .int lf, .int hru])), (fa, .inl (c4, 16, .inl (upd ga (nI fN).toNatClampNeg p1))), (fw, .inl (c5, 16, .inl (upd gw (nI fN).toNatClampNeg p2)))] H := hP
        have hD : va_D A [(v0, .inr (11, [.ref h0, .ref t0, .ref b0, .ref e0, .ref r0, .ref d0, .ref g0, .ref u0, .ref i0, .ref fa, .ref fw, .int (nI fN), .int he, .int sta, .int lf, .int hru])), (fa, .inl (c4, 16, .inl (upd ga (nI fN).toNatClampNeg p1))), (fw, .inl (c5, 16, .inl (upd gw (nI fN).toNatClampNeg p2)))] := hD
        refine lv_aload_n hx hb d_Vt_fail_44 rfl (lv_at hl 0 rfl) ?_
        refine lv_dup hx hb d_Vt_fail_45 rfl ?_
        refine va_get (D := (dC, dI)) (ci := 11) (v := .int (nI fN)) (C := R_Vt) (T := F_Vt) (N := 16) hx hb hts i_Vt hown hK hP 0 rfl rfl 11 (by decide) (hts _ (k_Vt_40)) (fun _ h9 => h9) rfl d_Vt_fail_46 ?_
        refine lv_iconst (v := 1) hx hb d_Vt_fail_49 (by decide) ?_
        refine lv_iadd hx hb d_Vt_fail_50 ?_
        refine lv_topi (fun x_4 ex_4 => ?_)
        refine va_put (D := (dC, dI)) (ci := 11) (v := .int x_4) (ty := .int) (C := R_Vt) (T := F_Vt) (N := 16) hx hb hts i_Vt t_Vt t_Vt_ok n_Vt hown hK hP hD hS 0 rfl rfl 11 (by decide) (hts _ (k_Vt_40)) (fun _ h9 => h9) rfl (by decide +kernel) rfl rfl (Nat.le_of_ble_eq_true rfl) d_Vt_fail_51 (fun H locs hP hD hS => ?_)
        have hP : va_P (dC, dI) classes [(v0, .inr (11, [.ref h0, .ref t0, .ref b0, .ref e0, .ref r0, .ref d0, .ref g0, .ref u0, .ref i0, .ref fa, .ref fw, .int x_4, .int he, .int sta, .int lf, .int hru])), (fa, .inl (c4, 16, .inl (upd ga (nI fN).toNatClampNeg p1))), (fw, .inl (c5, 16, .inl (upd gw (nI fN).toNatClampNeg p2)))] H := hP
        have hD : va_D A [(v0, .inr (11, [.ref h0, .ref t0, .ref b0, .ref e0, .ref r0, .ref d0, .ref g0, .ref u0, .ref i0, .ref fa, .ref fw, .int x_4, .int he, .int sta, .int lf, .int hru])), (fa, .inl (c4, 16, .inl (upd ga (nI fN).toNatClampNeg p1))), (fw, .inl (c5, 16, .inl (upd gw (nI fN).toNatClampNeg p2)))] := hD
        refine lv_iconst (v := 1) hx hb d_Vt_fail_54 (by decide) ?_
        exact W.zret (v := 1) hx hb hr rfl (fun t ht hW => ⟨⟨1, (upd ga (nI fN).toNatClampNeg p1, upd gw (nI fN).toNatClampNeg p2, x_4), rfl, by rw [vt_fail, if_pos c_1, if_neg c_2, if_pos c_3], by rw [ht]; exact hP, va_K.moved hW.alike hK, hD⟩, hS.F ht⟩) hS.2.2 d_Vt_fail_55
      · refine lv_iconst (v := 0) hx hb d_Vt_fail_22 (by decide) ?_
        exact W.zret (v := 0) hx hb hr rfl (fun t ht hW => ⟨⟨0, (ga, gw, nI fN), rfl, by rw [vt_fail, if_pos c_1, if_neg c_2, if_neg c_3], by rw [ht]; exact hP, va_K.moved hW.alike hK, hD⟩, hS.F ht⟩) hS.2.2 d_Vt_fail_23
  · refine lv_iload_n hx hb d_Vt_fail_4 rfl (lv_at hl 1 rfl) ?_
    refine lv_iconst (v := 1) hx hb d_Vt_fail_5 (by decide) ?_
    refine lv_icmp_ne (tgt := 22) hx hb d_Vt_fail_6 (by decide) (fun c_5 => ?_) (fun c_5 => ?_)
    · refine lv_iconst (v := 0) hx hb d_Vt_fail_22 (by decide) ?_
      exact W.zret (v := 0) hx hb hr rfl (fun t ht hW => ⟨⟨0, (ga, gw, nI fN), rfl, by rw [vt_fail, if_neg c_1, if_neg c_5], by rw [ht]; exact hP, va_K.moved hW.alike hK, hD⟩, hS.F ht⟩) hS.2.2 d_Vt_fail_23
    · refine lv_iload_n hx hb d_Vt_fail_9 rfl (lv_at hl 2 rfl) ?_
      refine lv_if_lt (tgt := 22) hx hb d_Vt_fail_10 (by decide) (fun c_6 => ?_) (fun c_6 => ?_)
      · refine lv_iconst (v := 0) hx hb d_Vt_fail_22 (by decide) ?_
        exact W.zret (v := 0) hx hb hr rfl (fun t ht hW => ⟨⟨0, (ga, gw, nI fN), rfl, by rw [vt_fail, if_neg c_1, if_pos c_5, if_pos c_6], by rw [ht]; exact hP, va_K.moved hW.alike hK, hD⟩, hS.F ht⟩) hS.2.2 d_Vt_fail_23
      · refine lv_aload_n hx hb d_Vt_fail_13 rfl (lv_at hl 0 rfl) ?_
        refine va_get (D := (dC, dI)) (ci := 11) (v := .int (nI fN)) (C := R_Vt) (T := F_Vt) (N := 16) hx hb hts i_Vt hown hK hP 0 rfl rfl 11 (by decide) (hts _ (k_Vt_40)) (fun _ h9 => h9) rfl d_Vt_fail_14 ?_
        refine lv_bipush (v := 16) hx hb d_Vt_fail_17 (by decide) ?_
        refine lv_icmp_lt (tgt := 24) hx hb d_Vt_fail_19 (by decide) (fun c_7 => ?_) (fun c_7 => ?_)
        · refine lv_aload_n hx hb d_Vt_fail_24 rfl (lv_at hl 0 rfl) ?_
          refine va_get (D := (dC, dI)) (ci := 11) (v := .ref fa) (C := R_Vt) (T := F_Vt) (N := 16) hx hb hts i_Vt hown hK hP 0 rfl rfl 9 (by decide) (hts _ (k_Vt_38)) (fun _ h9 => h9) rfl d_Vt_fail_25 ?_
          refine lv_aload_n hx hb d_Vt_fail_28 rfl (lv_at hl 0 rfl) ?_
          refine va_get (D := (dC, dI)) (ci := 11) (v := .int (nI fN)) (C := R_Vt) (T := F_Vt) (N := 16) hx hb hts i_Vt hown hK hP 0 rfl rfl 11 (by decide) (hts _ (k_Vt_40)) (fun _ h9 => h9) rfl d_Vt_fail_29 ?_
          refine lv_iload_n hx hb d_Vt_fail_32 rfl (lv_at hl 1 rfl) ?_
          refine va_iast hx hb hK hP hD hS 1 0 rfl rfl (vp_in_nI ((nI_ltI (b := 16) (by omega) (by decide)).mp c_7) (by decide)) d_Vt_fail_33 (fun H locs hP hD hS => ?_)
          have hP : va_P (dC, dI) classes [(v0, .inr (11, [.ref h0, .ref t0, .ref b0, .ref e0, .ref r0, .ref d0, .ref g0, .ref u0, .ref i0, .ref fa, .ref fw, .int (nI fN), .int he, .int sta, .int lf, .int hru])), (fa, .inl (c4, 16, .inl (upd ga (nI fN).toNatClampNeg p1))), (fw, .inl (c5, 16, .inl gw))] H := hP
          have hD : va_D A [(v0, .inr (11, [.ref h0, .ref t0, .ref b0, .ref e0, .ref r0, .ref d0, .ref g0, .ref u0, .ref i0, .ref fa, .ref fw, .int (nI fN), .int he, .int sta, .int lf, .int hru])), (fa, .inl (c4, 16, .inl (upd ga (nI fN).toNatClampNeg p1))), (fw, .inl (c5, 16, .inl gw))] := hD
          refine lv_aload_n hx hb d_Vt_fail_34 rfl (lv_at hl 0 rfl) ?_
          refine va_get (D := (dC, dI)) (ci := 11) (v := .ref fw) (C := R_Vt) (T := F_Vt) (N := 16) hx hb hts i_Vt hown hK hP 0 rfl rfl 10 (by decide) (hts _ (k_Vt_39)) (fun _ h9 => h9) rfl d_Vt_fail_35 ?_
          refine lv_aload_n hx hb d_Vt_fail_38 rfl (lv_at hl 0 rfl) ?_
          refine va_get (D := (dC, dI)) (ci := 11) (v := .int (nI fN)) (C := R_Vt) (T := F_Vt) (N := 16) hx hb hts i_Vt hown hK hP 0 rfl rfl 11 (by decide) (hts _ (k_Vt_40)) (fun _ h9 => h9) rfl d_Vt_fail_39 ?_
          refine lv_iload_n hx hb d_Vt_fail_42 rfl (lv_at hl 2 rfl) ?_
          refine va_iast hx hb hK hP hD hS 2 1 rfl rfl (vp_in_nI ((nI_ltI (b := 16) (by omega) (by decide)).mp c_7) (by decide)) d_Vt_fail_43 (fun H locs hP hD hS => ?_)
          have hP : va_P (dC, dI) classes [(v0, .inr (11, [.ref h0, .ref t0, .ref b0, .ref e0, .ref r0, .ref d0, .ref g0, .ref u0, .ref i0, .ref fa, .ref fw, .int (nI fN), .int he, .int sta, .int lf, .int hru])), (fa, .inl (c4, 16, .inl (upd ga (nI fN).toNatClampNeg p1))), (fw, .inl (c5, 16, .inl (upd gw (nI fN).toNatClampNeg p2)))] H := hP
          have hD : va_D A [(v0, .inr (11, [.ref h0, .ref t0, .ref b0, .ref e0, .ref r0, .ref d0, .ref g0, .ref u0, .ref i0, .ref fa, .ref fw, .int (nI fN), .int he, .int sta, .int lf, .int hru])), (fa, .inl (c4, 16, .inl (upd ga (nI fN).toNatClampNeg p1))), (fw, .inl (c5, 16, .inl (upd gw (nI fN).toNatClampNeg p2)))] := hD
          refine lv_aload_n hx hb d_Vt_fail_44 rfl (lv_at hl 0 rfl) ?_
          refine lv_dup hx hb d_Vt_fail_45 rfl ?_
          refine va_get (D := (dC, dI)) (ci := 11) (v := .int (nI fN)) (C := R_Vt) (T := F_Vt) (N := 16) hx hb hts i_Vt hown hK hP 0 rfl rfl 11 (by decide) (hts _ (k_Vt_40)) (fun _ h9 => h9) rfl d_Vt_fail_46 ?_
          refine lv_iconst (v := 1) hx hb d_Vt_fail_49 (by decide) ?_
          refine lv_iadd hx hb d_Vt_fail_50 ?_
          refine lv_topi (fun x_8 ex_8 => ?_)
          refine va_put (D := (dC, dI)) (ci := 11) (v := .int x_8) (ty := .int) (C := R_Vt) (T := F_Vt) (N := 16) hx hb hts i_Vt t_Vt t_Vt_ok n_Vt hown hK hP hD hS 0 rfl rfl 11 (by decide) (hts _ (k_Vt_40)) (fun _ h9 => h9) rfl (by decide +kernel) rfl rfl (Nat.le_of_ble_eq_true rfl) d_Vt_fail_51 (fun H locs hP hD hS => ?_)
          have hP : va_P (dC, dI) classes [(v0, .inr (11, [.ref h0, .ref t0, .ref b0, .ref e0, .ref r0, .ref d0, .ref g0, .ref u0, .ref i0, .ref fa, .ref fw, .int x_8, .int he, .int sta, .int lf, .int hru])), (fa, .inl (c4, 16, .inl (upd ga (nI fN).toNatClampNeg p1))), (fw, .inl (c5, 16, .inl (upd gw (nI fN).toNatClampNeg p2)))] H := hP
          have hD : va_D A [(v0, .inr (11, [.ref h0, .ref t0, .ref b0, .ref e0, .ref r0, .ref d0, .ref g0, .ref u0, .ref i0, .ref fa, .ref fw, .int x_8, .int he, .int sta, .int lf, .int hru])), (fa, .inl (c4, 16, .inl (upd ga (nI fN).toNatClampNeg p1))), (fw, .inl (c5, 16, .inl (upd gw (nI fN).toNatClampNeg p2)))] := hD
          refine lv_iconst (v := 1) hx hb d_Vt_fail_54 (by decide) ?_
          exact W.zret (v := 1) hx hb hr rfl (fun t ht hW => ⟨⟨1, (upd ga (nI fN).toNatClampNeg p1, upd gw (nI fN).toNatClampNeg p2, x_8), rfl, by rw [vt_fail, if_neg c_1, if_pos c_5, if_neg c_6, if_pos c_7], by rw [ht]; exact hP, va_K.moved hW.alike hK, hD⟩, hS.F ht⟩) hS.2.2 d_Vt_fail_55
        · refine lv_iconst (v := 0) hx hb d_Vt_fail_22 (by decide) ?_
          exact W.zret (v := 0) hx hb hr rfl (fun t ht hW => ⟨⟨0, (ga, gw, nI fN), rfl, by rw [vt_fail, if_neg c_1, if_pos c_5, if_neg c_6, if_neg c_7], by rw [ht]; exact hP, va_K.moved hW.alike hK, hD⟩, hS.F ht⟩) hS.2.2 d_Vt_fail_23
